def RX0 : String := "SheetReader$Blobs"
def TX0 : u_T := fun k => match k with
  | 0 => ("SheetReader$Blobs", "found", "I", false)
  | 1 => ("SheetReader$Blobs", "sizes", "[I", true)
  | 2 => ("SheetReader$Blobs", "sumX", "[I", true)
  | 3 => ("SheetReader$Blobs", "sumY", "[I", true)
  | 4 => ("SheetReader$Blobs", "firstX", "[I", true)
  | 5 => ("SheetReader$Blobs", "firstY", "[I", true)
  | 6 => ("SheetReader$Blobs", "leastX", "[I", true)
  | 7 => ("SheetReader$Blobs", "greatestX", "[I", true)
  | 8 => ("SheetReader$Blobs", "greatestY", "[I", true)
  | 9 => ("SheetReader$Blobs", "group", "[I", true)
  | _ => ("SheetReader$Blobs", "seen", "[B", true)
def tyX0 : Nat → FieldType := fun k => match k with
  | 0 => .int
  | 1 => .array .int
  | 2 => .array .int
  | 3 => .array .int
  | 4 => .array .int
  | 5 => .array .int
  | 6 => .array .int
  | 7 => .array .int
  | 8 => .array .int
  | 9 => .array .int
  | _ => .array .byte
abbrev wsX00 : List Cond := u_ws RX0 TX0 11
theorem nmX0 : ∀ a, a < 11 → ∀ b, b < 11 → a ≠ b → (TX0 a).2.1 ≠ (TX0 b).2.1 := by decide +kernel
theorem tyX0_ok : ∀ k, k < 11 → parseFieldDescriptor (TX0 k).2.2.1 = some (tyX0 k) := by decide +kernel
abbrev cX0_init : ByteArray := prog_2_method_1_code
def yX0_init : MethodName := ⟨RX0, "<init>", "()V"⟩
abbrev cX0_find : ByteArray := prog_2_method_2_code
def yX0_find : MethodName := ⟨RX0, "find", "(LSheetReader$Scan;II)V"⟩
abbrev cX0_wipeSpecks : ByteArray := prog_2_method_3_code
def yX0_wipeSpecks : MethodName := ⟨RX0, "wipeSpecks", "(LSheetReader$Scan;II)I"⟩
abbrev cX0_gather : ByteArray := prog_2_method_4_code
def yX0_gather : MethodName := ⟨RX0, "gather", "(LSheetReader$Scan;II)I"⟩
abbrev cX0_join : ByteArray := prog_2_method_5_code
def yX0_join : MethodName := ⟨RX0, "join", "(LSheetReader$Scan;III)I"⟩
abbrev cX0_describe : ByteArray := prog_2_method_6_code
def yX0_describe : MethodName := ⟨RX0, "describe", "(II)V"⟩
abbrev cX0_nearest : ByteArray := prog_2_method_7_code
def yX0_nearest : MethodName := ⟨RX0, "nearest", "(III)I"⟩
def RX1 : String := "SheetReader$Form"
def TX1 : u_T := fun k => match k with
  | 0 => ("SheetReader$Form", "told", "Z", false)
  | 1 => ("SheetReader$Form", "wide", "I", false)
  | 2 => ("SheetReader$Form", "high", "I", false)
  | 3 => ("SheetReader$Form", "boxWide", "I", false)
  | 4 => ("SheetReader$Form", "boxHigh", "I", false)
  | 5 => ("SheetReader$Form", "questions", "I", false)
  | 6 => ("SheetReader$Form", "boxes", "I", false)
  | 7 => ("SheetReader$Form", "many", "[Z", true)
  | 8 => ("SheetReader$Form", "firstOf", "[I", true)
  | 9 => ("SheetReader$Form", "boxesOf", "[I", true)
  | 10 => ("SheetReader$Form", "keys", "[I", true)
  | 11 => ("SheetReader$Form", "worths", "[I", true)
  | 12 => ("SheetReader$Form", "boxX", "[I", true)
  | _ => ("SheetReader$Form", "boxY", "[I", true)
def tyX1 : Nat → FieldType := fun k => match k with
  | 0 => .boolean
  | 1 => .int
  | 2 => .int
  | 3 => .int
  | 4 => .int
  | 5 => .int
  | 6 => .int
  | 7 => .array .boolean
  | 8 => .array .int
  | 9 => .array .int
  | 10 => .array .int
  | 11 => .array .int
  | 12 => .array .int
  | _ => .array .int
abbrev wsX10 : List Cond := u_ws RX1 TX1 14
theorem nmX1 : ∀ a, a < 14 → ∀ b, b < 14 → a ≠ b → (TX1 a).2.1 ≠ (TX1 b).2.1 := by decide +kernel
theorem tyX1_ok : ∀ k, k < 14 → parseFieldDescriptor (TX1 k).2.2.1 = some (tyX1 k) := by decide +kernel
abbrev cX1_init : ByteArray := prog_3_method_1_code
def yX1_init : MethodName := ⟨RX1, "<init>", "()V"⟩
abbrev cX1_empty : ByteArray := prog_3_method_2_code
def yX1_empty : MethodName := ⟨RX1, "empty", "()V"⟩
abbrev cX1_hasQuestion : ByteArray := prog_3_method_3_code
def yX1_hasQuestion : MethodName := ⟨RX1, "hasQuestion", "(I)Z"⟩
abbrev cX1_hasBox : ByteArray := prog_3_method_4_code
def yX1_hasBox : MethodName := ⟨RX1, "hasBox", "(II)Z"⟩
abbrev cX1_addQuestion : ByteArray := prog_3_method_5_code
def yX1_addQuestion : MethodName := ⟨RX1, "addQuestion", "(Z)V"⟩
abbrev cX1_addBox : ByteArray := prog_3_method_6_code
def yX1_addBox : MethodName := ⟨RX1, "addBox", "(II)V"⟩
abbrev cX1_isCovered : ByteArray := prog_3_method_7_code
def yX1_isCovered : MethodName := ⟨RX1, "isCovered", "(II)Z"⟩
def RX2 : String := "SheetReader$FormText"
def TX2 : u_T := fun k => match k with
  | 0 => ("SheetReader$FormText", "text", "[I", true)
  | 1 => ("SheetReader$FormText", "length", "I", false)
  | 2 => ("SheetReader$FormText", "start", "I", false)
  | 3 => ("SheetReader$FormText", "end", "I", false)
  | 4 => ("SheetReader$FormText", "kind", "I", false)
  | 5 => ("SheetReader$FormText", "number", "I", false)
  | 6 => ("SheetReader$FormText", "taken", "I", false)
  | _ => ("SheetReader$FormText", "fault", "I", false)
def tyX2 : Nat → FieldType := fun k => match k with
  | 0 => .array .int
  | 1 => .int
  | 2 => .int
  | 3 => .int
  | 4 => .int
  | 5 => .int
  | 6 => .int
  | _ => .int
abbrev wsX20 : List Cond := u_ws RX2 TX2 8
theorem nmX2 : ∀ a, a < 8 → ∀ b, b < 8 → a ≠ b → (TX2 a).2.1 ≠ (TX2 b).2.1 := by decide +kernel
theorem tyX2_ok : ∀ k, k < 8 → parseFieldDescriptor (TX2 k).2.2.1 = some (tyX2 k) := by decide +kernel
abbrev cX2_init : ByteArray := prog_4_method_1_code
def yX2_init : MethodName := ⟨RX2, "<init>", "()V"⟩
abbrev cX2_read : ByteArray := prog_4_method_2_code
def yX2_read : MethodName := ⟨RX2, "read", "([IILSheetReader$Form;)I"⟩
abbrev cX2_readHead : ByteArray := prog_4_method_3_code
def yX2_readHead : MethodName := ⟨RX2, "readHead", "(LSheetReader$Form;)Z"⟩
abbrev cX2_readQuestions : ByteArray := prog_4_method_4_code
def yX2_readQuestions : MethodName := ⟨RX2, "readQuestions", "(LSheetReader$Form;)Z"⟩
abbrev cX2_readPlaces : ByteArray := prog_4_method_5_code
def yX2_readPlaces : MethodName := ⟨RX2, "readPlaces", "(LSheetReader$Form;)Z"⟩
abbrev cX2_readPlace : ByteArray := prog_4_method_6_code
def yX2_readPlace : MethodName := ⟨RX2, "readPlace", "(LSheetReader$Form;I)Z"⟩
abbrev cX2_readKey : ByteArray := prog_4_method_7_code
def yX2_readKey : MethodName := ⟨RX2, "readKey", "(LSheetReader$Form;I)Z"⟩
abbrev cX2_readWorth : ByteArray := prog_4_method_8_code
def yX2_readWorth : MethodName := ⟨RX2, "readWorth", "(LSheetReader$Form;I)Z"⟩
abbrev cX2_takeWord : ByteArray := prog_4_method_9_code
def yX2_takeWord : MethodName := ⟨RX2, "takeWord", "(Ljava/lang/String;)Z"⟩
abbrev cX2_takeSign : ByteArray := prog_4_method_10_code
def yX2_takeSign : MethodName := ⟨RX2, "takeSign", "(I)Z"⟩
abbrev cX2_takeNumber : ByteArray := prog_4_method_11_code
def yX2_takeNumber : MethodName := ⟨RX2, "takeNumber", "(II)Z"⟩
abbrev cX2_isNumber : ByteArray := prog_4_method_12_code
def yX2_isNumber : MethodName := ⟨RX2, "isNumber", "(II)Z"⟩
abbrev cX2_isWord : ByteArray := prog_4_method_13_code
def yX2_isWord : MethodName := ⟨RX2, "isWord", "(Ljava/lang/String;)Z"⟩
abbrev cX2_isLetter : ByteArray := prog_4_method_14_code
def yX2_isLetter : MethodName := ⟨RX2, "isLetter", "()Z"⟩
abbrev cX2_refuse : ByteArray := prog_4_method_15_code
def yX2_refuse : MethodName := ⟨RX2, "refuse", "(I)Z"⟩
abbrev cX2_advance : ByteArray := prog_4_method_16_code
def yX2_advance : MethodName := ⟨RX2, "advance", "()V"⟩
abbrev cX2_numberRead : ByteArray := prog_4_method_17_code
def yX2_numberRead : MethodName := ⟨RX2, "numberRead", "()I"⟩
abbrev cX2_kindOf : ByteArray := prog_4_method_18_code
def yX2_kindOf : MethodName := ⟨RX2, "kindOf", "(I)I"⟩
def RX3 : String := "SheetReader$Judge"
def TX3 : u_T := fun k => match k with
  | 0 => ("SheetReader$Judge", "settings", "[I", true)
  | 1 => ("SheetReader$Judge", "blobs", "LSheetReader$Blobs;", true)
  | 2 => ("SheetReader$Judge", "marks", "[I", true)
  | 3 => ("SheetReader$Judge", "places", "LSheetReader$Places;", true)
  | 4 => ("SheetReader$Judge", "darks", "[I", true)
  | 5 => ("SheetReader$Judge", "order", "[I", true)
  | 6 => ("SheetReader$Judge", "paper", "I", false)
  | 7 => ("SheetReader$Judge", "answers", "[I", true)
  | 8 => ("SheetReader$Judge", "states", "[I", true)
  | 9 => ("SheetReader$Judge", "rubbed", "[I", true)
  | 10 => ("SheetReader$Judge", "steps", "[I", true)
  | _ => ("SheetReader$Judge", "gains", "[I", true)
def tyX3 : Nat → FieldType := fun k => match k with
  | 0 => .array .int
  | 1 => .object "SheetReader$Blobs"
  | 2 => .array .int
  | 3 => .object "SheetReader$Places"
  | 4 => .array .int
  | 5 => .array .int
  | 6 => .int
  | 7 => .array .int
  | 8 => .array .int
  | 9 => .array .int
  | 10 => .array .int
  | _ => .array .int
abbrev wsX30 : List Cond := u_ws RX3 TX3 12
theorem nmX3 : ∀ a, a < 12 → ∀ b, b < 12 → a ≠ b → (TX3 a).2.1 ≠ (TX3 b).2.1 := by decide +kernel
theorem tyX3_ok : ∀ k, k < 12 → parseFieldDescriptor (TX3 k).2.2.1 = some (tyX3 k) := by decide +kernel
abbrev cX3_init : ByteArray := prog_5_method_1_code
def yX3_init : MethodName := ⟨RX3, "<init>", "()V"⟩
abbrev cX3_locate : ByteArray := prog_5_method_2_code
def yX3_locate : MethodName := ⟨RX3, "locate", "(LSheetReader$Scan;)Z"⟩
abbrev cX3_marksAreFour : ByteArray := prog_5_method_3_code
def yX3_marksAreFour : MethodName := ⟨RX3, "marksAreFour", "()Z"⟩
abbrev cX3_measure : ByteArray := prog_5_method_4_code
def yX3_measure : MethodName := ⟨RX3, "measure", "(LSheetReader$Scan;LSheetReader$Form;)Z"⟩
abbrev cX3_darkOf : ByteArray := prog_5_method_5_code
def yX3_darkOf : MethodName := ⟨RX3, "darkOf", "(LSheetReader$Scan;LSheetReader$Form;I)I"⟩
abbrev cX3_read : ByteArray := prog_5_method_6_code
def yX3_read : MethodName := ⟨RX3, "read", "(LSheetReader$Scan;LSheetReader$Form;)Z"⟩
abbrev cX3_judgeQuestion : ByteArray := prog_5_method_7_code
def yX3_judgeQuestion : MethodName := ⟨RX3, "judgeQuestion", "(LSheetReader$Form;I)V"⟩
abbrev cX3_gainOf : ByteArray := prog_5_method_8_code
def yX3_gainOf : MethodName := ⟨RX3, "gainOf", "(LSheetReader$Form;I)I"⟩
abbrev cX3_sortByDark : ByteArray := prog_5_method_9_code
def yX3_sortByDark : MethodName := ⟨RX3, "sortByDark", "(II)V"⟩
abbrev cX3_allGains : ByteArray := prog_5_method_10_code
def yX3_allGains : MethodName := ⟨RX3, "allGains", "(LSheetReader$Form;)I"⟩
abbrev cX3_inState : ByteArray := prog_5_method_11_code
def yX3_inState : MethodName := ⟨RX3, "inState", "(LSheetReader$Form;I)I"⟩
abbrev cX3_leftEmpty : ByteArray := prog_5_method_12_code
def yX3_leftEmpty : MethodName := ⟨RX3, "leftEmpty", "(LSheetReader$Form;)I"⟩
abbrev cX3_allRubbed : ByteArray := prog_5_method_13_code
def yX3_allRubbed : MethodName := ⟨RX3, "allRubbed", "(LSheetReader$Form;)I"⟩
abbrev cX3_rankOf : ByteArray := prog_5_method_14_code
def yX3_rankOf : MethodName := ⟨RX3, "rankOf", "(LSheetReader$Form;I)I"⟩
abbrev cX3_partedBy : ByteArray := prog_5_method_15_code
def yX3_partedBy : MethodName := ⟨RX3, "partedBy", "(LSheetReader$Form;I)I"⟩
abbrev cX3_judgedElse : ByteArray := prog_5_method_16_code
def yX3_judgedElse : MethodName := ⟨RX3, "judgedElse", "(LSheetReader$Form;I)I"⟩
abbrev cX3_leastMargin : ByteArray := prog_5_method_17_code
def yX3_leastMargin : MethodName := ⟨RX3, "leastMargin", "(I)I"⟩
abbrev cX3_greatestMargin : ByteArray := prog_5_method_18_code
def yX3_greatestMargin : MethodName := ⟨RX3, "greatestMargin", "(I)I"⟩
def RX4 : String := "SheetReader$Pile"
def TX4 : u_T := fun k => match k with
  | 0 => ("SheetReader$Pile", "sheets", "I", false)
  | 1 => ("SheetReader$Pile", "gains", "[I", true)
  | 2 => ("SheetReader$Pile", "doubtful", "[I", true)
  | 3 => ("SheetReader$Pile", "doubled", "[I", true)
  | 4 => ("SheetReader$Pile", "answers", "[I", true)
  | _ => ("SheetReader$Pile", "order", "[I", true)
def tyX4 : Nat → FieldType := fun k => match k with
  | 0 => .int
  | 1 => .array .int
  | 2 => .array .int
  | 3 => .array .int
  | 4 => .array .int
  | _ => .array .int
abbrev wsX40 : List Cond := u_ws RX4 TX4 6
theorem nmX4 : ∀ a, a < 6 → ∀ b, b < 6 → a ≠ b → (TX4 a).2.1 ≠ (TX4 b).2.1 := by decide +kernel
theorem tyX4_ok : ∀ k, k < 6 → parseFieldDescriptor (TX4 k).2.2.1 = some (tyX4 k) := by decide +kernel
abbrev cX4_init : ByteArray := prog_6_method_1_code
def yX4_init : MethodName := ⟨RX4, "<init>", "()V"⟩
abbrev cX4_hasSheet : ByteArray := prog_6_method_2_code
def yX4_hasSheet : MethodName := ⟨RX4, "hasSheet", "(I)Z"⟩
abbrev cX4_answer : ByteArray := prog_6_method_3_code
def yX4_answer : MethodName := ⟨RX4, "answer", "(II)I"⟩
abbrev cX4_add : ByteArray := prog_6_method_4_code
def yX4_add : MethodName := ⟨RX4, "add", "(LSheetReader$Judge;LSheetReader$Form;)I"⟩
abbrev cX4_remove : ByteArray := prog_6_method_5_code
def yX4_remove : MethodName := ⟨RX4, "remove", "(I)V"⟩
abbrev cX4_rankOf : ByteArray := prog_6_method_6_code
def yX4_rankOf : MethodName := ⟨RX4, "rankOf", "(I)I"⟩
abbrev cX4_isRight : ByteArray := prog_6_method_7_code
def yX4_isRight : MethodName := ⟨RX4, "isRight", "(LSheetReader$Form;II)Z"⟩
abbrev cX4_rightOnes : ByteArray := prog_6_method_8_code
def yX4_rightOnes : MethodName := ⟨RX4, "rightOnes", "(LSheetReader$Form;I)I"⟩
abbrev cX4_choosing : ByteArray := prog_6_method_9_code
def yX4_choosing : MethodName := ⟨RX4, "choosing", "(II)I"⟩
abbrev cX4_sharedFaults : ByteArray := prog_6_method_10_code
def yX4_sharedFaults : MethodName := ⟨RX4, "sharedFaults", "(LSheetReader$Form;II)I"⟩
abbrev cX4_sort : ByteArray := prog_6_method_11_code
def yX4_sort : MethodName := ⟨RX4, "sort", "()V"⟩
abbrev cX4_allGains : ByteArray := prog_6_method_12_code
def yX4_allGains : MethodName := ⟨RX4, "allGains", "()I"⟩
abbrev cX4_tellingOf : ByteArray := prog_6_method_13_code
def yX4_tellingOf : MethodName := ⟨RX4, "tellingOf", "(LSheetReader$Form;I)I"⟩
def RX5 : String := "SheetReader$Places"
def TX5 : u_T := fun k => match k with
  | 0 => ("SheetReader$Places", "sumX", "[J", true)
  | 1 => ("SheetReader$Places", "sumY", "[J", true)
  | 2 => ("SheetReader$Places", "sizes", "[J", true)
  | 3 => ("SheetReader$Places", "wholeX", "[J", true)
  | 4 => ("SheetReader$Places", "wholeY", "[J", true)
  | 5 => ("SheetReader$Places", "by", "J", false)
  | 6 => ("SheetReader$Places", "twiceWide", "I", false)
  | _ => ("SheetReader$Places", "twiceHigh", "I", false)
def tyX5 : Nat → FieldType := fun k => match k with
  | 0 => .array .long
  | 1 => .array .long
  | 2 => .array .long
  | 3 => .array .long
  | 4 => .array .long
  | 5 => .long
  | 6 => .int
  | _ => .int
abbrev wsX50 : List Cond := u_ws RX5 TX5 8
theorem nmX5 : ∀ a, a < 8 → ∀ b, b < 8 → a ≠ b → (TX5 a).2.1 ≠ (TX5 b).2.1 := by decide +kernel
theorem tyX5_ok : ∀ k, k < 8 → parseFieldDescriptor (TX5 k).2.2.1 = some (tyX5 k) := by decide +kernel
abbrev cX5_init : ByteArray := prog_7_method_1_code
def yX5_init : MethodName := ⟨RX5, "<init>", "()V"⟩
abbrev cX5_put : ByteArray := prog_7_method_2_code
def yX5_put : MethodName := ⟨RX5, "put", "(IJJJ)V"⟩
abbrev cX5_spread : ByteArray := prog_7_method_3_code
def yX5_spread : MethodName := ⟨RX5, "spread", "(II)V"⟩
abbrev cX5_weighed : ByteArray := prog_7_method_4_code
def yX5_weighed : MethodName := ⟨RX5, "weighed", "([JII)J"⟩
abbrev cX5_rounded : ByteArray := prog_7_method_5_code
def yX5_rounded : MethodName := ⟨RX5, "rounded", "(J)I"⟩
abbrev cX5_hundredths : ByteArray := prog_7_method_6_code
def yX5_hundredths : MethodName := ⟨RX5, "hundredths", "(J)I"⟩
abbrev cX5_dotX : ByteArray := prog_7_method_7_code
def yX5_dotX : MethodName := ⟨RX5, "dotX", "(II)I"⟩
abbrev cX5_dotY : ByteArray := prog_7_method_8_code
def yX5_dotY : MethodName := ⟨RX5, "dotY", "(II)I"⟩
abbrev cX5_hundredthsX : ByteArray := prog_7_method_9_code
def yX5_hundredthsX : MethodName := ⟨RX5, "hundredthsX", "(II)I"⟩
abbrev cX5_hundredthsY : ByteArray := prog_7_method_10_code
def yX5_hundredthsY : MethodName := ⟨RX5, "hundredthsY", "(II)I"⟩
abbrev cX5_turnsOneWay : ByteArray := prog_7_method_11_code
def yX5_turnsOneWay : MethodName := ⟨RX5, "turnsOneWay", "()Z"⟩
abbrev cX5_sideOf : ByteArray := prog_7_method_12_code
def yX5_sideOf : MethodName := ⟨RX5, "sideOf", "(III)J"⟩
abbrev cX5_area : ByteArray := prog_7_method_13_code
def yX5_area : MethodName := ⟨RX5, "area", "()I"⟩
abbrev cX5_slope : ByteArray := prog_7_method_14_code
def yX5_slope : MethodName := ⟨RX5, "slope", "()I"⟩
def RX6 : String := "SheetReader$Scan"
def TX6 : u_T := fun k => match k with
  | 0 => ("SheetReader$Scan", "wide", "I", false)
  | 1 => ("SheetReader$Scan", "high", "I", false)
  | 2 => ("SheetReader$Scan", "dots", "[I", true)
  | _ => ("SheetReader$Scan", "tally", "[I", true)
def tyX6 : Nat → FieldType := fun k => match k with
  | 0 => .int
  | 1 => .int
  | 2 => .array .int
  | _ => .array .int
abbrev wsX60 : List Cond := u_ws RX6 TX6 4
theorem nmX6 : ∀ a, a < 4 → ∀ b, b < 4 → a ≠ b → (TX6 a).2.1 ≠ (TX6 b).2.1 := by decide +kernel
theorem tyX6_ok : ∀ k, k < 4 → parseFieldDescriptor (TX6 k).2.2.1 = some (tyX6 k) := by decide +kernel
abbrev cX6_init : ByteArray := prog_8_method_1_code
def yX6_init : MethodName := ⟨RX6, "<init>", "()V"⟩
abbrev cX6_isNothing : ByteArray := prog_8_method_2_code
def yX6_isNothing : MethodName := ⟨RX6, "isNothing", "()Z"⟩
abbrev cX6_size : ByteArray := prog_8_method_3_code
def yX6_size : MethodName := ⟨RX6, "size", "()I"⟩
abbrev cX6_empty : ByteArray := prog_8_method_4_code
def yX6_empty : MethodName := ⟨RX6, "empty", "(II)V"⟩
abbrev cX6_has : ByteArray := prog_8_method_5_code
def yX6_has : MethodName := ⟨RX6, "has", "(II)Z"⟩
abbrev cX6_at : ByteArray := prog_8_method_6_code
def yX6_at : MethodName := ⟨RX6, "at", "(II)I"⟩
abbrev cX6_put : ByteArray := prog_8_method_7_code
def yX6_put : MethodName := ⟨RX6, "put", "(III)Z"⟩
abbrev cX6_holdsRound : ByteArray := prog_8_method_8_code
def yX6_holdsRound : MethodName := ⟨RX6, "holdsRound", "(II)Z"⟩
abbrev cX6_putRound : ByteArray := prog_8_method_9_code
def yX6_putRound : MethodName := ⟨RX6, "putRound", "(III)V"⟩
abbrev cX6_notBelow : ByteArray := prog_8_method_10_code
def yX6_notBelow : MethodName := ⟨RX6, "notBelow", "(I)I"⟩
abbrev cX6_sumNotBelow : ByteArray := prog_8_method_11_code
def yX6_sumNotBelow : MethodName := ⟨RX6, "sumNotBelow", "(I)I"⟩
abbrev cX6_unlikeDots : ByteArray := prog_8_method_12_code
def yX6_unlikeDots : MethodName := ⟨RX6, "unlikeDots", "(LSheetReader$Scan;)I"⟩
abbrev cX6_takeAll : ByteArray := prog_8_method_13_code
def yX6_takeAll : MethodName := ⟨RX6, "takeAll", "(LSheetReader$Scan;)V"⟩
abbrev cX6_takeTurned : ByteArray := prog_8_method_14_code
def yX6_takeTurned : MethodName := ⟨RX6, "takeTurned", "(LSheetReader$Scan;I)V"⟩
abbrev cX6_takeShifted : ByteArray := prog_8_method_15_code
def yX6_takeShifted : MethodName := ⟨RX6, "takeShifted", "(LSheetReader$Scan;II)V"⟩
abbrev cX6_takeStretched : ByteArray := prog_8_method_16_code
def yX6_takeStretched : MethodName := ⟨RX6, "takeStretched", "(LSheetReader$Scan;)V"⟩
abbrev cX6_takeSmoothed : ByteArray := prog_8_method_17_code
def yX6_takeSmoothed : MethodName := ⟨RX6, "takeSmoothed", "(LSheetReader$Scan;)V"⟩
abbrev cX6_middleRound : ByteArray := prog_8_method_18_code
def yX6_middleRound : MethodName := ⟨RX6, "middleRound", "(II)I"⟩
def RX7 : String := "SheetReader"
def TX7 : u_T := fun k => match k with
  | 0 => ("SheetReader", "tape", "[I", true)
  | 1 => ("SheetReader", "tapeLength", "I", false)
  | 2 => ("SheetReader", "scan", "LSheetReader$Scan;", false)
  | 3 => ("SheetReader", "spare", "LSheetReader$Scan;", false)
  | 4 => ("SheetReader", "drawers", "[LSheetReader$Scan;", true)
  | 5 => ("SheetReader", "form", "LSheetReader$Form;", false)
  | 6 => ("SheetReader", "draft", "LSheetReader$Form;", false)
  | 7 => ("SheetReader", "formText", "LSheetReader$FormText;", true)
  | 8 => ("SheetReader", "drawn", "I", false)
  | 9 => ("SheetReader", "cornerX", "[I", true)
  | 10 => ("SheetReader", "cornerY", "[I", true)
  | 11 => ("SheetReader", "told", "[I", true)
  | 12 => ("SheetReader", "judge", "LSheetReader$Judge;", true)
  | _ => ("SheetReader", "pile", "LSheetReader$Pile;", true)
def tyX7 : Nat → FieldType := fun k => match k with
  | 0 => .array .int
  | 1 => .int
  | 2 => .object "SheetReader$Scan"
  | 3 => .object "SheetReader$Scan"
  | 4 => .array (.object "SheetReader$Scan")
  | 5 => .object "SheetReader$Form"
  | 6 => .object "SheetReader$Form"
  | 7 => .object "SheetReader$FormText"
  | 8 => .int
  | 9 => .array .int
  | 10 => .array .int
  | 11 => .array .int
  | 12 => .object "SheetReader$Judge"
  | _ => .object "SheetReader$Pile"
abbrev wsX70 : List Cond := u_ws RX7 TX7 14
theorem nmX7 : ∀ a, a < 14 → ∀ b, b < 14 → a ≠ b → (TX7 a).2.1 ≠ (TX7 b).2.1 := by decide +kernel
theorem tyX7_ok : ∀ k, k < 14 → parseFieldDescriptor (TX7 k).2.2.1 = some (tyX7 k) := by decide +kernel
abbrev cX7_init : ByteArray := prog_1_method_1_code
def yX7_init : MethodName := ⟨RX7, "<init>", "()V"⟩
abbrev cX7_feed : ByteArray := prog_1_method_2_code
def yX7_feed : MethodName := ⟨RX7, "feed", "(IIIII)I"⟩
abbrev cX7_form : ByteArray := prog_1_method_3_code
def yX7_form : MethodName := ⟨RX7, "form", "(I)I"⟩
abbrev cX7_count : ByteArray := prog_1_method_4_code
def yX7_count : MethodName := ⟨RX7, "count", "(I)I"⟩
abbrev cX7_question : ByteArray := prog_1_method_5_code
def yX7_question : MethodName := ⟨RX7, "question", "(II)I"⟩
abbrev cX7_set : ByteArray := prog_1_method_6_code
def yX7_set : MethodName := ⟨RX7, "set", "(II)I"⟩
abbrev cX7_blank : ByteArray := prog_1_method_7_code
def yX7_blank : MethodName := ⟨RX7, "blank", "(II)Z"⟩
abbrev cX7_row : ByteArray := prog_1_method_8_code
def yX7_row : MethodName := ⟨RX7, "row", "(I)Z"⟩
abbrev cX7_fill : ByteArray := prog_1_method_9_code
def yX7_fill : MethodName := ⟨RX7, "fill", "(IIIII)I"⟩
abbrev cX7_dot : ByteArray := prog_1_method_10_code
def yX7_dot : MethodName := ⟨RX7, "dot", "(II)I"⟩
abbrev cX7_noise : ByteArray := prog_1_method_11_code
def yX7_noise : MethodName := ⟨RX7, "noise", "(I)I"⟩
abbrev cX7_seed : ByteArray := prog_1_method_12_code
def yX7_seed : MethodName := ⟨RX7, "seed", "(I)I"⟩
abbrev cX7_turn : ByteArray := prog_1_method_13_code
def yX7_turn : MethodName := ⟨RX7, "turn", "(I)I"⟩
abbrev cX7_copy : ByteArray := prog_1_method_14_code
def yX7_copy : MethodName := ⟨RX7, "copy", "(IIIIII)I"⟩
abbrev cX7_shift : ByteArray := prog_1_method_15_code
def yX7_shift : MethodName := ⟨RX7, "shift", "(II)I"⟩
abbrev cX7_stretch : ByteArray := prog_1_method_16_code
def yX7_stretch : MethodName := ⟨RX7, "stretch", "()I"⟩
abbrev cX7_clean : ByteArray := prog_1_method_17_code
def yX7_clean : MethodName := ⟨RX7, "clean", "()I"⟩
abbrev cX7_smooth : ByteArray := prog_1_method_18_code
def yX7_smooth : MethodName := ⟨RX7, "smooth", "()I"⟩
abbrev cX7_keep : ByteArray := prog_1_method_19_code
def yX7_keep : MethodName := ⟨RX7, "keep", "(I)Z"⟩
abbrev cX7_back : ByteArray := prog_1_method_20_code
def yX7_back : MethodName := ⟨RX7, "back", "(I)Z"⟩
abbrev cX7_blob : ByteArray := prog_1_method_21_code
def yX7_blob : MethodName := ⟨RX7, "blob", "(II)I"⟩
abbrev cX7_mark : ByteArray := prog_1_method_22_code
def yX7_mark : MethodName := ⟨RX7, "mark", "(I)I"⟩
abbrev cX7_marked : ByteArray := prog_1_method_23_code
def yX7_marked : MethodName := ⟨RX7, "marked", "()I"⟩
abbrev cX7_shape : ByteArray := prog_1_method_24_code
def yX7_shape : MethodName := ⟨RX7, "shape", "(I)I"⟩
abbrev cX7_map : ByteArray := prog_1_method_25_code
def yX7_map : MethodName := ⟨RX7, "map", "(III)I"⟩
abbrev cX7_dark : ByteArray := prog_1_method_26_code
def yX7_dark : MethodName := ⟨RX7, "dark", "(II)I"⟩
abbrev cX7_judged : ByteArray := prog_1_method_27_code
def yX7_judged : MethodName := ⟨RX7, "judged", "(II)I"⟩
abbrev cX7_sheet : ByteArray := prog_1_method_28_code
def yX7_sheet : MethodName := ⟨RX7, "sheet", "(I)I"⟩
abbrev cX7_rank : ByteArray := prog_1_method_29_code
def yX7_rank : MethodName := ⟨RX7, "rank", "(II)I"⟩
abbrev cX7_apart : ByteArray := prog_1_method_30_code
def yX7_apart : MethodName := ⟨RX7, "apart", "(I)I"⟩
abbrev cX7_steady : ByteArray := prog_1_method_31_code
def yX7_steady : MethodName := ⟨RX7, "steady", "(II)I"⟩
abbrev cX7_corner : ByteArray := prog_1_method_32_code
def yX7_corner : MethodName := ⟨RX7, "corner", "(III)Z"⟩
abbrev cX7_tick : ByteArray := prog_1_method_33_code
def yX7_tick : MethodName := ⟨RX7, "tick", "(II)I"⟩
abbrev cX7_print : ByteArray := prog_1_method_34_code
def yX7_print : MethodName := ⟨RX7, "print", "(I)I"⟩
abbrev cX7_unlike : ByteArray := prog_1_method_35_code
def yX7_unlike : MethodName := ⟨RX7, "unlike", "()I"⟩
abbrev cX7_up : ByteArray := prog_1_method_36_code
def yX7_up : MethodName := ⟨RX7, "up", "()I"⟩
abbrev cX7_lay : ByteArray := prog_1_method_37_code
def yX7_lay : MethodName := ⟨RX7, "lay", "()I"⟩
abbrev cX7_laid : ByteArray := prog_1_method_38_code
def yX7_laid : MethodName := ⟨RX7, "laid", "(II)I"⟩
abbrev cX7_chosen : ByteArray := prog_1_method_39_code
def yX7_chosen : MethodName := ⟨RX7, "chosen", "(II)I"⟩
abbrev cX7_copied : ByteArray := prog_1_method_40_code
def yX7_copied : MethodName := ⟨RX7, "copied", "(II)I"⟩
abbrev cX7_telling : ByteArray := prog_1_method_41_code
def yX7_telling : MethodName := ⟨RX7, "telling", "(I)I"⟩
abbrev cX7_points : ByteArray := prog_1_method_42_code
def yX7_points : MethodName := ⟨RX7, "points", "(I)I"⟩
abbrev cX7_take : ByteArray := prog_1_method_43_code
def yX7_take : MethodName := ⟨RX7, "take", "(I)I"⟩
abbrev cX7_level : ByteArray := prog_1_method_44_code
def yX7_level : MethodName := ⟨RX7, "level", "()I"⟩
abbrev cX7_putOnTape : ByteArray := prog_1_method_45_code
def yX7_putOnTape : MethodName := ⟨RX7, "putOnTape", "(I)V"⟩
abbrev cX7_isPiece : ByteArray := prog_1_method_46_code
def yX7_isPiece : MethodName := ⟨RX7, "isPiece", "(II)Z"⟩
abbrev cX7_drawBelow : ByteArray := prog_1_method_47_code
def yX7_drawBelow : MethodName := ⟨RX7, "drawBelow", "(I)I"⟩
abbrev cX7_swapScans : ByteArray := prog_1_method_48_code
def yX7_swapScans : MethodName := ⟨RX7, "swapScans", "()V"⟩
abbrev cX7_takeSpare : ByteArray := prog_1_method_49_code
def yX7_takeSpare : MethodName := ⟨RX7, "takeSpare", "()I"⟩
abbrev cX7_inkBox : ByteArray := prog_1_method_50_code
def yX7_inkBox : MethodName := ⟨RX7, "inkBox", "(II)V"⟩
def RX8 : String := "SheetReaderModel"
def TX8 : u_T := fun k => match k with
  | 0 => ("SheetReaderModel", "tape", "[B", true)
  | 1 => ("SheetReaderModel", "taped", "I", false)
  | 2 => ("SheetReaderModel", "place0", "I", false)
  | 3 => ("SheetReaderModel", "length0", "I", false)
  | 4 => ("SheetReaderModel", "fault", "I", false)
  | 5 => ("SheetReaderModel", "token", "I", false)
  | 6 => ("SheetReaderModel", "begun", "I", false)
  | 7 => ("SheetReaderModel", "number", "I", false)
  | 8 => ("SheetReaderModel", "sign", "I", false)
  | 9 => ("SheetReaderModel", "letters", "I", false)
  | 10 => ("SheetReaderModel", "word", "J", false)
  | 11 => ("SheetReaderModel", "bank", "I", false)
  | 12 => ("SheetReaderModel", "isForm", "Z", false)
  | 13 => ("SheetReaderModel", "head", "[I", true)
  | 14 => ("SheetReaderModel", "qKind", "[I", true)
  | 15 => ("SheetReaderModel", "qBoxes", "[I", true)
  | 16 => ("SheetReaderModel", "qKey", "[I", true)
  | 17 => ("SheetReaderModel", "qWorth", "[I", true)
  | 18 => ("SheetReaderModel", "boxX", "[I", true)
  | 19 => ("SheetReaderModel", "boxY", "[I", true)
  | 20 => ("SheetReaderModel", "ticked", "[I", true)
  | 21 => ("SheetReaderModel", "dots", "[I", true)
  | 22 => ("SheetReaderModel", "was", "[I", true)
  | 23 => ("SheetReaderModel", "kept", "[I", true)
  | 24 => ("SheetReaderModel", "keptWide", "[I", true)
  | 25 => ("SheetReaderModel", "keptHigh", "[I", true)
  | 26 => ("SheetReaderModel", "setting", "[I", true)
  | 27 => ("SheetReaderModel", "cornerX", "[I", true)
  | 28 => ("SheetReaderModel", "cornerY", "[I", true)
  | 29 => ("SheetReaderModel", "wide", "I", false)
  | 30 => ("SheetReaderModel", "high", "I", false)
  | 31 => ("SheetReaderModel", "seed", "I", false)
  | 32 => ("SheetReaderModel", "near", "[I", true)
  | 33 => ("SheetReaderModel", "blobOf", "[I", true)
  | 34 => ("SheetReaderModel", "met", "[I", true)
  | 35 => ("SheetReaderModel", "bSize", "[I", true)
  | 36 => ("SheetReaderModel", "bX", "[I", true)
  | 37 => ("SheetReaderModel", "bY", "[I", true)
  | 38 => ("SheetReaderModel", "bFirst", "[I", true)
  | 39 => ("SheetReaderModel", "bLeft", "[I", true)
  | 40 => ("SheetReaderModel", "bRight", "[I", true)
  | 41 => ("SheetReaderModel", "bTop", "[I", true)
  | 42 => ("SheetReaderModel", "bLow", "[I", true)
  | 43 => ("SheetReaderModel", "blobs", "I", false)
  | 44 => ("SheetReaderModel", "many", "I", false)
  | 45 => ("SheetReaderModel", "mark", "[I", true)
  | 46 => ("SheetReaderModel", "mX", "[J", true)
  | 47 => ("SheetReaderModel", "mY", "[J", true)
  | 48 => ("SheetReaderModel", "mSize", "[J", true)
  | 49 => ("SheetReaderModel", "isMarked", "Z", false)
  | 50 => ("SheetReaderModel", "above", "J", false)
  | 51 => ("SheetReaderModel", "below", "J", false)
  | 52 => ("SheetReaderModel", "dark", "[I", true)
  | 53 => ("SheetReaderModel", "order", "[I", true)
  | 54 => ("SheetReaderModel", "paper", "I", false)
  | 55 => ("SheetReaderModel", "answer", "I", false)
  | 56 => ("SheetReaderModel", "doubt", "I", false)
  | 57 => ("SheetReaderModel", "rubbed", "I", false)
  | 58 => ("SheetReaderModel", "step", "I", false)
  | 59 => ("SheetReaderModel", "row", "[I", true)
  | 60 => ("SheetReaderModel", "sPoints", "[I", true)
  | 61 => ("SheetReaderModel", "sDoubt", "[I", true)
  | 62 => ("SheetReaderModel", "sDouble", "[I", true)
  | 63 => ("SheetReaderModel", "sAnswer", "[I", true)
  | 64 => ("SheetReaderModel", "sorted", "[I", true)
  | _ => ("SheetReaderModel", "sheets", "I", false)
def tyX8 : Nat → FieldType := fun k => match k with
  | 0 => .array .byte
  | 1 => .int
  | 2 => .int
  | 3 => .int
  | 4 => .int
  | 5 => .int
  | 6 => .int
  | 7 => .int
  | 8 => .int
  | 9 => .int
  | 10 => .long
  | 11 => .int
  | 12 => .boolean
  | 13 => .array .int
  | 14 => .array .int
  | 15 => .array .int
  | 16 => .array .int
  | 17 => .array .int
  | 18 => .array .int
  | 19 => .array .int
  | 20 => .array .int
  | 21 => .array .int
  | 22 => .array .int
  | 23 => .array .int
  | 24 => .array .int
  | 25 => .array .int
  | 26 => .array .int
  | 27 => .array .int
  | 28 => .array .int
  | 29 => .int
  | 30 => .int
  | 31 => .int
  | 32 => .array .int
  | 33 => .array .int
  | 34 => .array .int
  | 35 => .array .int
  | 36 => .array .int
  | 37 => .array .int
  | 38 => .array .int
  | 39 => .array .int
  | 40 => .array .int
  | 41 => .array .int
  | 42 => .array .int
  | 43 => .int
  | 44 => .int
  | 45 => .array .int
  | 46 => .array .long
  | 47 => .array .long
  | 48 => .array .long
  | 49 => .boolean
  | 50 => .long
  | 51 => .long
  | 52 => .array .int
  | 53 => .array .int
  | 54 => .int
  | 55 => .int
  | 56 => .int
  | 57 => .int
  | 58 => .int
  | 59 => .array .int
  | 60 => .array .int
  | 61 => .array .int
  | 62 => .array .int
  | 63 => .array .int
  | 64 => .array .int
  | _ => .int
abbrev wsX80 : List Cond := u_ws RX8 TX8 66
theorem nmX8 : ∀ a, a < 66 → ∀ b, b < 66 → a ≠ b → (TX8 a).2.1 ≠ (TX8 b).2.1 := by decide +kernel
theorem tyX8_ok : ∀ k, k < 66 → parseFieldDescriptor (TX8 k).2.2.1 = some (tyX8 k) := by decide +kernel
abbrev cX8_init : ByteArray := prog_10_method_1_code
def yX8_init : MethodName := ⟨RX8, "<init>", "()V"⟩
abbrev cX8_in : ByteArray := prog_10_method_2_code
def yX8_in : MethodName := ⟨RX8, "in", "(III)Z"⟩
abbrev cX8_has : ByteArray := prog_10_method_3_code
def yX8_has : MethodName := ⟨RX8, "has", "(II)Z"⟩
abbrev cX8_bits : ByteArray := prog_10_method_4_code
def yX8_bits : MethodName := ⟨RX8, "bits", "(I)I"⟩
abbrev cX8_typed4 : ByteArray := prog_10_method_5_code
def yX8_typed4 : MethodName := ⟨RX8, "typed4", "(I)V"⟩
abbrev cX8_feed : ByteArray := prog_10_method_6_code
def yX8_feed : MethodName := ⟨RX8, "feed", "(IIIII)I"⟩
abbrev cX8_here : ByteArray := prog_10_method_7_code
def yX8_here : MethodName := ⟨RX8, "here", "()I"⟩
abbrev cX8_next : ByteArray := prog_10_method_8_code
def yX8_next : MethodName := ⟨RX8, "next", "()V"⟩
abbrev cX8_wrong : ByteArray := prog_10_method_9_code
def yX8_wrong : MethodName := ⟨RX8, "wrong", "(I)Z"⟩
abbrev cX8_isWord : ByteArray := prog_10_method_10_code
def yX8_isWord : MethodName := ⟨RX8, "isWord", "(J)Z"⟩
abbrev cX8_takesWord : ByteArray := prog_10_method_11_code
def yX8_takesWord : MethodName := ⟨RX8, "takesWord", "(J)Z"⟩
abbrev cX8_takesSign : ByteArray := prog_10_method_12_code
def yX8_takesSign : MethodName := ⟨RX8, "takesSign", "(I)Z"⟩
abbrev cX8_isNumber : ByteArray := prog_10_method_13_code
def yX8_isNumber : MethodName := ⟨RX8, "isNumber", "(II)Z"⟩
abbrev cX8_headOf : ByteArray := prog_10_method_14_code
def yX8_headOf : MethodName := ⟨RX8, "headOf", "(I)I"⟩
abbrev cX8_readsTwo : ByteArray := prog_10_method_15_code
def yX8_readsTwo : MethodName := ⟨RX8, "readsTwo", "(IJII)Z"⟩
abbrev cX8_isOver : ByteArray := prog_10_method_16_code
def yX8_isOver : MethodName := ⟨RX8, "isOver", "(III)Z"⟩
abbrev cX8_readsPlace : ByteArray := prog_10_method_17_code
def yX8_readsPlace : MethodName := ⟨RX8, "readsPlace", "(I)Z"⟩
abbrev cX8_isLetter : ByteArray := prog_10_method_18_code
def yX8_isLetter : MethodName := ⟨RX8, "isLetter", "()Z"⟩
abbrev cX8_readsKey : ByteArray := prog_10_method_19_code
def yX8_readsKey : MethodName := ⟨RX8, "readsKey", "(I)Z"⟩
abbrev cX8_readsQuestion : ByteArray := prog_10_method_20_code
def yX8_readsQuestion : MethodName := ⟨RX8, "readsQuestion", "()Z"⟩
abbrev cX8_reads : ByteArray := prog_10_method_21_code
def yX8_reads : MethodName := ⟨RX8, "reads", "()Z"⟩
abbrev cX8_form : ByteArray := prog_10_method_22_code
def yX8_form : MethodName := ⟨RX8, "form", "(I)I"⟩
abbrev cX8_questions : ByteArray := prog_10_method_23_code
def yX8_questions : MethodName := ⟨RX8, "questions", "()I"⟩
abbrev cX8_boxesOf : ByteArray := prog_10_method_24_code
def yX8_boxesOf : MethodName := ⟨RX8, "boxesOf", "(I)I"⟩
abbrev cX8_keyOf : ByteArray := prog_10_method_25_code
def yX8_keyOf : MethodName := ⟨RX8, "keyOf", "(I)I"⟩
abbrev cX8_worthOf : ByteArray := prog_10_method_26_code
def yX8_worthOf : MethodName := ⟨RX8, "worthOf", "(I)I"⟩
abbrev cX8_isQuestion : ByteArray := prog_10_method_27_code
def yX8_isQuestion : MethodName := ⟨RX8, "isQuestion", "(I)Z"⟩
abbrev cX8_isBox : ByteArray := prog_10_method_28_code
def yX8_isBox : MethodName := ⟨RX8, "isBox", "(II)Z"⟩
abbrev cX8_allBoxes : ByteArray := prog_10_method_29_code
def yX8_allBoxes : MethodName := ⟨RX8, "allBoxes", "()I"⟩
abbrev cX8_question : ByteArray := prog_10_method_30_code
def yX8_question : MethodName := ⟨RX8, "question", "(II)I"⟩
abbrev cX8_isDot : ByteArray := prog_10_method_31_code
def yX8_isDot : MethodName := ⟨RX8, "isDot", "(II)Z"⟩
abbrev cX8_all : ByteArray := prog_10_method_32_code
def yX8_all : MethodName := ⟨RX8, "all", "()I"⟩
abbrev cX8_puts : ByteArray := prog_10_method_33_code
def yX8_puts : MethodName := ⟨RX8, "puts", "()V"⟩
abbrev cX8_others : ByteArray := prog_10_method_34_code
def yX8_others : MethodName := ⟨RX8, "others", "()I"⟩
abbrev cX8_set : ByteArray := prog_10_method_35_code
def yX8_set : MethodName := ⟨RX8, "set", "(II)I"⟩
abbrev cX8_blank : ByteArray := prog_10_method_36_code
def yX8_blank : MethodName := ⟨RX8, "blank", "(II)Z"⟩
abbrev cX8_clears : ByteArray := prog_10_method_37_code
def yX8_clears : MethodName := ⟨RX8, "clears", "()V"⟩
abbrev cX8_row : ByteArray := prog_10_method_38_code
def yX8_row : MethodName := ⟨RX8, "row", "(I)Z"⟩
abbrev cX8_fill : ByteArray := prog_10_method_39_code
def yX8_fill : MethodName := ⟨RX8, "fill", "(IIIII)I"⟩
abbrev cX8_dot : ByteArray := prog_10_method_40_code
def yX8_dot : MethodName := ⟨RX8, "dot", "(II)I"⟩
abbrev cX8_draw : ByteArray := prog_10_method_41_code
def yX8_draw : MethodName := ⟨RX8, "draw", "(I)I"⟩
abbrev cX8_noise : ByteArray := prog_10_method_42_code
def yX8_noise : MethodName := ⟨RX8, "noise", "(I)I"⟩
abbrev cX8_seed : ByteArray := prog_10_method_43_code
def yX8_seed : MethodName := ⟨RX8, "seed", "(I)I"⟩
abbrev cX8_turns : ByteArray := prog_10_method_44_code
def yX8_turns : MethodName := ⟨RX8, "turns", "()V"⟩
abbrev cX8_turn : ByteArray := prog_10_method_45_code
def yX8_turn : MethodName := ⟨RX8, "turn", "(I)I"⟩
abbrev cX8_copy : ByteArray := prog_10_method_46_code
def yX8_copy : MethodName := ⟨RX8, "copy", "(IIIIII)I"⟩
abbrev cX8_shift : ByteArray := prog_10_method_47_code
def yX8_shift : MethodName := ⟨RX8, "shift", "(II)I"⟩
abbrev cX8_stretch : ByteArray := prog_10_method_48_code
def yX8_stretch : MethodName := ⟨RX8, "stretch", "()I"⟩
abbrev cX8_clean : ByteArray := prog_10_method_49_code
def yX8_clean : MethodName := ⟨RX8, "clean", "()I"⟩
abbrev cX8_smooth : ByteArray := prog_10_method_50_code
def yX8_smooth : MethodName := ⟨RX8, "smooth", "()I"⟩
abbrev cX8_keeps : ByteArray := prog_10_method_51_code
def yX8_keeps : MethodName := ⟨RX8, "keeps", "(I)V"⟩
abbrev cX8_keep : ByteArray := prog_10_method_52_code
def yX8_keep : MethodName := ⟨RX8, "keep", "(I)Z"⟩
abbrev cX8_back : ByteArray := prog_10_method_53_code
def yX8_back : MethodName := ⟨RX8, "back", "(I)Z"⟩
abbrev cX8_inked : ByteArray := prog_10_method_54_code
def yX8_inked : MethodName := ⟨RX8, "inked", "()I"⟩
abbrev cX8_darkness : ByteArray := prog_10_method_55_code
def yX8_darkness : MethodName := ⟨RX8, "darkness", "()I"⟩
abbrev cX8_count : ByteArray := prog_10_method_56_code
def yX8_count : MethodName := ⟨RX8, "count", "(I)I"⟩
abbrev cX8_meets : ByteArray := prog_10_method_57_code
def yX8_meets : MethodName := ⟨RX8, "meets", "(II)V"⟩
abbrev cX8_laysBlob : ByteArray := prog_10_method_58_code
def yX8_laysBlob : MethodName := ⟨RX8, "laysBlob", "(I)V"⟩
abbrev cX8_laysBlobs : ByteArray := prog_10_method_59_code
def yX8_laysBlobs : MethodName := ⟨RX8, "laysBlobs", "()V"⟩
abbrev cX8_blob : ByteArray := prog_10_method_60_code
def yX8_blob : MethodName := ⟨RX8, "blob", "(II)I"⟩
abbrev cX8_laysMark : ByteArray := prog_10_method_61_code
def yX8_laysMark : MethodName := ⟨RX8, "laysMark", "(I)V"⟩
abbrev cX8_laysMarks : ByteArray := prog_10_method_62_code
def yX8_laysMarks : MethodName := ⟨RX8, "laysMarks", "()V"⟩
abbrev cX8_mark : ByteArray := prog_10_method_63_code
def yX8_mark : MethodName := ⟨RX8, "mark", "(I)I"⟩
abbrev cX8_marked : ByteArray := prog_10_method_64_code
def yX8_marked : MethodName := ⟨RX8, "marked", "()I"⟩
abbrev cX8_turnAt : ByteArray := prog_10_method_65_code
def yX8_turnAt : MethodName := ⟨RX8, "turnAt", "(III)I"⟩
abbrev cX8_side : ByteArray := prog_10_method_66_code
def yX8_side : MethodName := ⟨RX8, "side", "(IIII)J"⟩
abbrev cX8_shape : ByteArray := prog_10_method_67_code
def yX8_shape : MethodName := ⟨RX8, "shape", "(I)I"⟩
abbrev cX8_maps : ByteArray := prog_10_method_68_code
def yX8_maps : MethodName := ⟨RX8, "maps", "(IIZ)V"⟩
abbrev cX8_mapped : ByteArray := prog_10_method_69_code
def yX8_mapped : MethodName := ⟨RX8, "mapped", "(IIZ)I"⟩
abbrev cX8_map : ByteArray := prog_10_method_70_code
def yX8_map : MethodName := ⟨RX8, "map", "(III)I"⟩
abbrev cX8_darkOf : ByteArray := prog_10_method_71_code
def yX8_darkOf : MethodName := ⟨RX8, "darkOf", "(II)I"⟩
abbrev cX8_finds : ByteArray := prog_10_method_72_code
def yX8_finds : MethodName := ⟨RX8, "finds", "()Z"⟩
abbrev cX8_dark : ByteArray := prog_10_method_73_code
def yX8_dark : MethodName := ⟨RX8, "dark", "(II)I"⟩
abbrev cX8_laysOrder : ByteArray := prog_10_method_74_code
def yX8_laysOrder : MethodName := ⟨RX8, "laysOrder", "(I)V"⟩
abbrev cX8_darkAt : ByteArray := prog_10_method_75_code
def yX8_darkAt : MethodName := ⟨RX8, "darkAt", "(II)I"⟩
abbrev cX8_judges : ByteArray := prog_10_method_76_code
def yX8_judges : MethodName := ⟨RX8, "judges", "(II)V"⟩
abbrev cX8_pointsOf : ByteArray := prog_10_method_77_code
def yX8_pointsOf : MethodName := ⟨RX8, "pointsOf", "(I)I"⟩
abbrev cX8_judged : ByteArray := prog_10_method_78_code
def yX8_judged : MethodName := ⟨RX8, "judged", "(II)I"⟩
abbrev cX8_sum : ByteArray := prog_10_method_79_code
def yX8_sum : MethodName := ⟨RX8, "sum", "(I)I"⟩
abbrev cX8_sheet : ByteArray := prog_10_method_80_code
def yX8_sheet : MethodName := ⟨RX8, "sheet", "(I)I"⟩
abbrev cX8_rank : ByteArray := prog_10_method_81_code
def yX8_rank : MethodName := ⟨RX8, "rank", "(II)I"⟩
abbrev cX8_apart : ByteArray := prog_10_method_82_code
def yX8_apart : MethodName := ⟨RX8, "apart", "(I)I"⟩
abbrev cX8_steady : ByteArray := prog_10_method_83_code
def yX8_steady : MethodName := ⟨RX8, "steady", "(II)I"⟩
abbrev cX8_corner : ByteArray := prog_10_method_84_code
def yX8_corner : MethodName := ⟨RX8, "corner", "(III)Z"⟩
abbrev cX8_tick : ByteArray := prog_10_method_85_code
def yX8_tick : MethodName := ⟨RX8, "tick", "(II)I"⟩
abbrev cX8_inks : ByteArray := prog_10_method_86_code
def yX8_inks : MethodName := ⟨RX8, "inks", "(III)V"⟩
abbrev cX8_print : ByteArray := prog_10_method_87_code
def yX8_print : MethodName := ⟨RX8, "print", "(I)I"⟩
abbrev cX8_unlike : ByteArray := prog_10_method_88_code
def yX8_unlike : MethodName := ⟨RX8, "unlike", "()I"⟩
abbrev cX8_up : ByteArray := prog_10_method_89_code
def yX8_up : MethodName := ⟨RX8, "up", "()I"⟩
abbrev cX8_lay : ByteArray := prog_10_method_90_code
def yX8_lay : MethodName := ⟨RX8, "lay", "()I"⟩
abbrev cX8_laid : ByteArray := prog_10_method_91_code
def yX8_laid : MethodName := ⟨RX8, "laid", "(II)I"⟩
abbrev cX8_isRight : ByteArray := prog_10_method_92_code
def yX8_isRight : MethodName := ⟨RX8, "isRight", "(II)Z"⟩
abbrev cX8_chosen : ByteArray := prog_10_method_93_code
def yX8_chosen : MethodName := ⟨RX8, "chosen", "(II)I"⟩
abbrev cX8_alikeIn : ByteArray := prog_10_method_94_code
def yX8_alikeIn : MethodName := ⟨RX8, "alikeIn", "(II)I"⟩
abbrev cX8_copied : ByteArray := prog_10_method_95_code
def yX8_copied : MethodName := ⟨RX8, "copied", "(II)I"⟩
abbrev cX8_laysSorted : ByteArray := prog_10_method_96_code
def yX8_laysSorted : MethodName := ⟨RX8, "laysSorted", "()V"⟩
abbrev cX8_telling : ByteArray := prog_10_method_97_code
def yX8_telling : MethodName := ⟨RX8, "telling", "(I)I"⟩
abbrev cX8_points : ByteArray := prog_10_method_98_code
def yX8_points : MethodName := ⟨RX8, "points", "(I)I"⟩
abbrev cX8_take : ByteArray := prog_10_method_99_code
def yX8_take : MethodName := ⟨RX8, "take", "(I)I"⟩
abbrev cX8_level : ByteArray := prog_10_method_100_code
def yX8_level : MethodName := ⟨RX8, "level", "()I"⟩
def RJx145de : String := "java/io/Serializable"
def TJx145de : u_T := fun k => match k with
  | _ => ("", "", "", false)
def tyJx145de : Nat → FieldType := fun k => match k with
  | _ => .int
theorem nmJx145de : ∀ a, a < 0 → ∀ b, b < 0 → a ≠ b → (TJx145de a).2.1 ≠ (TJx145de b).2.1 := by decide +kernel
theorem tyJx145de_ok : ∀ k, k < 0 → parseFieldDescriptor (TJx145de k).2.2.1 = some (tyJx145de k) := by decide +kernel
def RJx9f9b0 : String := "java/lang/CharSequence"
def TJx9f9b0 : u_T := fun k => match k with
  | _ => ("", "", "", false)
def tyJx9f9b0 : Nat → FieldType := fun k => match k with
  | _ => .int
theorem nmJx9f9b0 : ∀ a, a < 0 → ∀ b, b < 0 → a ≠ b → (TJx9f9b0 a).2.1 ≠ (TJx9f9b0 b).2.1 := by decide +kernel
theorem tyJx9f9b0_ok : ∀ k, k < 0 → parseFieldDescriptor (TJx9f9b0 k).2.2.1 = some (tyJx9f9b0 k) := by decide +kernel
def RJxb160c : String := "java/lang/Comparable"
def TJxb160c : u_T := fun k => match k with
  | _ => ("", "", "", false)
def tyJxb160c : Nat → FieldType := fun k => match k with
  | _ => .int
theorem nmJxb160c : ∀ a, a < 0 → ∀ b, b < 0 → a ≠ b → (TJxb160c a).2.1 ≠ (TJxb160c b).2.1 := by decide +kernel
theorem tyJxb160c_ok : ∀ k, k < 0 → parseFieldDescriptor (TJxb160c k).2.2.1 = some (tyJxb160c k) := by decide +kernel
def RJ6 : String := "java/lang/Integer"
def TJ6 : u_T := fun k => match k with
  | _ => ("", "", "", false)
def tyJ6 : Nat → FieldType := fun k => match k with
  | _ => .int
abbrev wsJ60 : List Cond := u_ws RJ6 TJ6 0
theorem nmJ6 : ∀ a, a < 0 → ∀ b, b < 0 → a ≠ b → (TJ6 a).2.1 ≠ (TJ6 b).2.1 := by decide +kernel
theorem tyJ6_ok : ∀ k, k < 0 → parseFieldDescriptor (TJ6 k).2.2.1 = some (tyJ6 k) := by decide +kernel
abbrev cJ6_bitCount_0f7a4 : ByteArray := prog_11_method_49_code
def yJ6_bitCount_0f7a4 : MethodName := ⟨RJ6, "bitCount", "(I)I"⟩
def RJ9 : String := "java/lang/Math"
def TJ9 : u_T := fun k => match k with
  | _ => ("", "", "", false)
def tyJ9 : Nat → FieldType := fun k => match k with
  | _ => .int
abbrev wsJ90 : List Cond := u_ws RJ9 TJ9 0
theorem nmJ9 : ∀ a, a < 0 → ∀ b, b < 0 → a ≠ b → (TJ9 a).2.1 ≠ (TJ9 b).2.1 := by decide +kernel
theorem tyJ9_ok : ∀ k, k < 0 → parseFieldDescriptor (TJ9 k).2.2.1 = some (tyJ9 k) := by decide +kernel
abbrev cJ9_abs_0f7a4 : ByteArray := prog_12_method_59_code
def yJ9_abs_0f7a4 : MethodName := ⟨RJ9, "abs", "(I)I"⟩
abbrev cJ9_abs_067f4 : ByteArray := prog_12_method_61_code
def yJ9_abs_067f4 : MethodName := ⟨RJ9, "abs", "(J)J"⟩
abbrev cJ9_max_7cf53 : ByteArray := prog_12_method_65_code
def yJ9_max_7cf53 : MethodName := ⟨RJ9, "max", "(II)I"⟩
abbrev cJ9_min_7cf53 : ByteArray := prog_12_method_69_code
def yJ9_min_7cf53 : MethodName := ⟨RJ9, "min", "(II)I"⟩
def RJ0 : String := "java/lang/String"
def TJ0 : u_T := fun k => match k with
  | _ => ("", "", "", false)
def tyJ0 : Nat → FieldType := fun k => match k with
  | _ => .int
abbrev wsJ00 : List Cond := u_ws RJ0 TJ0 0
theorem nmJ0 : ∀ a, a < 0 → ∀ b, b < 0 → a ≠ b → (TJ0 a).2.1 ≠ (TJ0 b).2.1 := by decide +kernel
theorem tyJ0_ok : ∀ k, k < 0 → parseFieldDescriptor (TJ0 k).2.2.1 = some (tyJ0 k) := by decide +kernel
abbrev cJ0_length_8abf5 : ByteArray := prog_13_method_54_code
def yJ0_length_8abf5 : MethodName := ⟨RJ0, "length", "()I"⟩
abbrev cJ0_charAt_5068e : ByteArray := prog_13_method_56_code
def yJ0_charAt_5068e : MethodName := ⟨RJ0, "charAt", "(I)C"⟩
abbrev cJ0_coder_7d493 : ByteArray := prog_13_method_152_code
def yJ0_coder_7d493 : MethodName := ⟨RJ0, "coder", "()B"⟩
abbrev cJ0_isLatin1_aae02 : ByteArray := prog_13_method_154_code
def yJ0_isLatin1_aae02 : MethodName := ⟨RJ0, "isLatin1", "()Z"⟩
abbrev cJ0_checkIndex_df160 : ByteArray := prog_13_method_155_code
def yJ0_checkIndex_df160 : MethodName := ⟨RJ0, "checkIndex", "(II)V"⟩
def RJ1 : String := "java/lang/StringLatin1"
def TJ1 : u_T := fun k => match k with
  | _ => ("", "", "", false)
def tyJ1 : Nat → FieldType := fun k => match k with
  | _ => .int
abbrev wsJ10 : List Cond := u_ws RJ1 TJ1 0
theorem nmJ1 : ∀ a, a < 0 → ∀ b, b < 0 → a ≠ b → (TJ1 a).2.1 ≠ (TJ1 b).2.1 := by decide +kernel
theorem tyJ1_ok : ∀ k, k < 0 → parseFieldDescriptor (TJ1 k).2.2.1 = some (tyJ1 k) := by decide +kernel
abbrev cJ1_charAt_3b067 : ByteArray := prog_14_method_2_code
def yJ1_charAt_3b067 : MethodName := ⟨RJ1, "charAt", "([BI)C"⟩
def RJ2 : String := "java/lang/StringUTF16"
def TJ2 : u_T := fun k => match k with
  | _ => ("", "", "", false)
def tyJ2 : Nat → FieldType := fun k => match k with
  | _ => .int
abbrev wsJ20 : List Cond := u_ws RJ2 TJ2 0
theorem nmJ2 : ∀ a, a < 0 → ∀ b, b < 0 → a ≠ b → (TJ2 a).2.1 ≠ (TJ2 b).2.1 := by decide +kernel
theorem tyJ2_ok : ∀ k, k < 0 → parseFieldDescriptor (TJ2 k).2.2.1 = some (tyJ2 k) := by decide +kernel
abbrev cJ2_getChar_3b067 : ByteArray := prog_15_method_5_code
def yJ2_getChar_3b067 : MethodName := ⟨RJ2, "getChar", "([BI)C"⟩
abbrev cJ2_length_9d52b : ByteArray := prog_15_method_6_code
def yJ2_length_9d52b : MethodName := ⟨RJ2, "length", "([B)I"⟩
abbrev cJ2_charAt_3b067 : ByteArray := prog_15_method_83_code
def yJ2_charAt_3b067 : MethodName := ⟨RJ2, "charAt", "([BI)C"⟩
abbrev cJ2_checkIndex_2214a : ByteArray := prog_15_method_91_code
def yJ2_checkIndex_2214a : MethodName := ⟨RJ2, "checkIndex", "(I[B)V"⟩
def RJ10 : String := "java/lang/System"
def TJ10 : u_T := fun k => match k with
  | _ => ("", "", "", false)
def tyJ10 : Nat → FieldType := fun k => match k with
  | _ => .int
abbrev wsJ100 : List Cond := u_ws RJ10 TJ10 0
theorem nmJ10 : ∀ a, a < 0 → ∀ b, b < 0 → a ≠ b → (TJ10 a).2.1 ≠ (TJ10 b).2.1 := by decide +kernel
theorem tyJ10_ok : ∀ k, k < 0 → parseFieldDescriptor (TJ10 k).2.2.1 = some (tyJ10 k) := by decide +kernel
def RJxfd54e : String := "java/lang/constant/Constable"
def TJxfd54e : u_T := fun k => match k with
  | _ => ("", "", "", false)
def tyJxfd54e : Nat → FieldType := fun k => match k with
  | _ => .int
theorem nmJxfd54e : ∀ a, a < 0 → ∀ b, b < 0 → a ≠ b → (TJxfd54e a).2.1 ≠ (TJxfd54e b).2.1 := by decide +kernel
theorem tyJxfd54e_ok : ∀ k, k < 0 → parseFieldDescriptor (TJxfd54e k).2.2.1 = some (tyJxfd54e k) := by decide +kernel
def RJx3cf43 : String := "java/lang/constant/ConstantDesc"
def TJx3cf43 : u_T := fun k => match k with
  | _ => ("", "", "", false)
def tyJx3cf43 : Nat → FieldType := fun k => match k with
  | _ => .int
theorem nmJx3cf43 : ∀ a, a < 0 → ∀ b, b < 0 → a ≠ b → (TJx3cf43 a).2.1 ≠ (TJx3cf43 b).2.1 := by decide +kernel
theorem tyJx3cf43_ok : ∀ k, k < 0 → parseFieldDescriptor (TJx3cf43 k).2.2.1 = some (tyJx3cf43 k) := by decide +kernel
def RJ7 : String := "java/util/Arrays"
def TJ7 : u_T := fun k => match k with
  | _ => ("", "", "", false)
def tyJ7 : Nat → FieldType := fun k => match k with
  | _ => .int
abbrev wsJ70 : List Cond := u_ws RJ7 TJ7 0
theorem nmJ7 : ∀ a, a < 0 → ∀ b, b < 0 → a ≠ b → (TJ7 a).2.1 ≠ (TJ7 b).2.1 := by decide +kernel
theorem tyJ7_ok : ∀ k, k < 0 → parseFieldDescriptor (TJ7 k).2.2.1 = some (tyJ7 k) := by decide +kernel
abbrev cJ7_fill_53178 : ByteArray := prog_17_method_103_code
def yJ7_fill_53178 : MethodName := ⟨RJ7, "fill", "([II)V"⟩
abbrev cJ7_fill_031fb : ByteArray := prog_17_method_109_code
def yJ7_fill_031fb : MethodName := ⟨RJ7, "fill", "([BB)V"⟩
def RJ3 : String := "jdk/internal/util/Preconditions"
def TJ3 : u_T := fun k => match k with
  | _ => ("", "", "", false)
def tyJ3 : Nat → FieldType := fun k => match k with
  | _ => .int
abbrev wsJ30 : List Cond := u_ws RJ3 TJ3 0
theorem nmJ3 : ∀ a, a < 0 → ∀ b, b < 0 → a ≠ b → (TJ3 a).2.1 ≠ (TJ3 b).2.1 := by decide +kernel
theorem tyJ3_ok : ∀ k, k < 0 → parseFieldDescriptor (TJ3 k).2.2.1 = some (tyJ3 k) := by decide +kernel
abbrev cJ3_checkIndex_8e157 : ByteArray := prog_18_method_11_code
def yJ3_checkIndex_8e157 : MethodName := ⟨RJ3, "checkIndex", "(IILjava/util/function/BiFunction;)I"⟩
def RL : String := "SheetReaderLaw"
abbrev cL_law : ByteArray := code
def yL_law : MethodName := ⟨RL, "law", "([I)Z"⟩
abbrev vwCl : List vw_C := [(RX0, TX0, 11), (RX1, TX1, 14), (RX2, TX2, 8), (RX3, TX3, 12), (RX4, TX4, 6), (RX5, TX5, 8), (RX6, TX6, 4), (RX7, TX7, 14), (RX8, TX8, 66)]

theorem tm_1 : ∀ w ∈ tables_1_1, w ∈ lw_tbl := fun w h => List.mem_append_right _ (List.mem_append_left _ h)
theorem tm_2 : ∀ w ∈ tables_1_2, w ∈ lw_tbl := fun w h => List.mem_append_right _ (List.mem_append_right _ (List.mem_append_left _ h))
theorem tm_3 : ∀ w ∈ tables_1_3, w ∈ lw_tbl := fun w h => List.mem_append_right _ (List.mem_append_right _ (List.mem_append_right _ (List.mem_append_left _ h)))
theorem tm_4 : ∀ w ∈ tables_1_4, w ∈ lw_tbl := fun w h => List.mem_append_right _ (List.mem_append_right _ (List.mem_append_right _ (List.mem_append_right _ (List.mem_append_left _ h))))
theorem tm_5 : ∀ w ∈ tables_1_5, w ∈ lw_tbl := fun w h => List.mem_append_right _ (List.mem_append_right _ (List.mem_append_right _ (List.mem_append_right _ (List.mem_append_right _ (List.mem_append_left _ h)))))
theorem tm_6 : ∀ w ∈ tables_1_6, w ∈ lw_tbl := fun w h => List.mem_append_right _ (List.mem_append_right _ (List.mem_append_right _ (List.mem_append_right _ (List.mem_append_right _ (List.mem_append_right _ (List.mem_append_left _ h))))))
theorem tm_7 : ∀ w ∈ tables_1_7, w ∈ lw_tbl := fun w h => List.mem_append_right _ (List.mem_append_right _ (List.mem_append_right _ (List.mem_append_right _ (List.mem_append_right _ (List.mem_append_right _ (List.mem_append_right _ h))))))
theorem tw_1_0 : (Jvm.Cond.initialized "SheetReaderLaw") ∈ lw_tbl := tm_1 _ (List.mem_of_getElem? (i := 0) (by decide +kernel))
theorem tw_1_1 : (Jvm.Cond.initialized "SheetReader") ∈ lw_tbl := tm_1 _ (List.mem_of_getElem? (i := 1) (by decide +kernel))
theorem tw_1_2 : (Jvm.Cond.initialized "SheetReader$Scan") ∈ lw_tbl := tm_1 _ (List.mem_of_getElem? (i := 2) (by decide +kernel))
theorem tw_1_3 : (Jvm.Cond.initialized "SheetReader$Form") ∈ lw_tbl := tm_1 _ (List.mem_of_getElem? (i := 3) (by decide +kernel))
theorem tw_1_4 : (Jvm.Cond.initialized "SheetReader$FormText") ∈ lw_tbl := tm_1 _ (List.mem_of_getElem? (i := 4) (by decide +kernel))
theorem tw_1_5 : (Jvm.Cond.initialized "SheetReader$Judge") ∈ lw_tbl := tm_1 _ (List.mem_of_getElem? (i := 5) (by decide +kernel))
theorem tw_1_6 : (Jvm.Cond.initialized "SheetReader$Blobs") ∈ lw_tbl := tm_1 _ (List.mem_of_getElem? (i := 6) (by decide +kernel))
theorem tw_1_7 : (Jvm.Cond.initialized "SheetReader$Places") ∈ lw_tbl := tm_1 _ (List.mem_of_getElem? (i := 7) (by decide +kernel))
theorem tw_1_8 : (Jvm.Cond.initialized "SheetReader$Pile") ∈ lw_tbl := tm_1 _ (List.mem_of_getElem? (i := 8) (by decide +kernel))
theorem tw_1_9 : (Jvm.Cond.initialized "java/util/Arrays") ∈ lw_tbl := tm_1 _ (List.mem_of_getElem? (i := 9) (by decide +kernel))
theorem tw_1_10 : (Jvm.Cond.initialized "SheetReaderModel") ∈ lw_tbl := tm_1 _ (List.mem_of_getElem? (i := 10) (by decide +kernel))
theorem tw_1_11 : (Jvm.Cond.initialized "java/lang/Math") ∈ lw_tbl := tm_1 _ (List.mem_of_getElem? (i := 11) (by decide +kernel))
theorem tw_1_12 : (Jvm.Cond.initialized "java/lang/System") ∈ lw_tbl := tm_1 _ (List.mem_of_getElem? (i := 12) (by decide +kernel))
theorem tw_1_13 : (Jvm.Cond.initialized "java/lang/String") ∈ lw_tbl := tm_1 _ (List.mem_of_getElem? (i := 13) (by decide +kernel))
theorem tw_1_14 : (Jvm.Cond.initialized "java/lang/StringLatin1") ∈ lw_tbl := tm_1 _ (List.mem_of_getElem? (i := 14) (by decide +kernel))
theorem tw_1_15 : (Jvm.Cond.initialized "jdk/internal/util/Preconditions") ∈ lw_tbl := tm_1 _ (List.mem_of_getElem? (i := 15) (by decide +kernel))
theorem tw_1_16 : (Jvm.Cond.initialized "java/lang/StringUTF16") ∈ lw_tbl := tm_1 _ (List.mem_of_getElem? (i := 16) (by decide +kernel))
theorem tw_1_17 : (Jvm.Cond.initialized "java/lang/Integer") ∈ lw_tbl := tm_1 _ (List.mem_of_getElem? (i := 17) (by decide +kernel))
theorem tw_1_18 : (Jvm.Cond.classLink "SheetReaderLaw" (7 : Nat) "SheetReader") ∈ lw_tbl := tm_1 _ (List.mem_of_getElem? (i := 18) (by decide +kernel))
theorem tw_1_19 : (Jvm.Cond.instantiable "SheetReader" (14 : Nat)) ∈ lw_tbl := tm_1 _ (List.mem_of_getElem? (i := 19) (by decide +kernel))
theorem tw_1_20 : (Jvm.Cond.methodLink "SheetReaderLaw" (9 : Nat) ({ cls := "SheetReader", name := "<init>", desc := "()V" } : Jvm.MethodName)) ∈ lw_tbl := tm_1 _ (List.mem_of_getElem? (i := 20) (by decide +kernel))
theorem tw_1_21 : (Jvm.Cond.instanceMethod ({ cls := "SheetReader", name := "<init>", desc := "()V" } : Jvm.MethodName)) ∈ lw_tbl := tm_1 _ (List.mem_of_getElem? (i := 21) (by decide +kernel))
theorem tw_1_22 : (Jvm.Cond.code ({ cls := "SheetReader", name := "<init>", desc := "()V" } : Jvm.MethodName) prog_1_method_1_code (2 : Nat) (Option.none : Option Jvm.ClassFile.FieldType)) ∈ lw_tbl := tm_1 _ (List.mem_of_getElem? (i := 22) (by decide +kernel))
theorem tw_1_23 : (Jvm.Cond.methodLink "SheetReader" (3 : Nat) ({ cls := "java/lang/Object", name := "<init>", desc := "()V" } : Jvm.MethodName)) ∈ lw_tbl := tm_1 _ (List.mem_of_getElem? (i := 23) (by decide +kernel))
theorem tw_1_24 : (Jvm.Cond.instanceMethod ({ cls := "java/lang/Object", name := "<init>", desc := "()V" } : Jvm.MethodName)) ∈ lw_tbl := tm_1 _ (List.mem_of_getElem? (i := 24) (by decide +kernel))
theorem tw_1_25 : (Jvm.Cond.code ({ cls := "java/lang/Object", name := "<init>", desc := "()V" } : Jvm.MethodName) object_method_1_code (1 : Nat) (Option.none : Option Jvm.ClassFile.FieldType)) ∈ lw_tbl := tm_1 _ (List.mem_of_getElem? (i := 25) (by decide +kernel))
theorem tw_1_26 : (Jvm.Cond.classLink "SheetReader" (15 : Nat) "SheetReader$Scan") ∈ lw_tbl := tm_1 _ (List.mem_of_getElem? (i := 26) (by decide +kernel))
theorem tw_1_27 : (Jvm.Cond.instantiable "SheetReader$Scan" (4 : Nat)) ∈ lw_tbl := tm_1 _ (List.mem_of_getElem? (i := 27) (by decide +kernel))
theorem tw_1_28 : (Jvm.Cond.methodLinkNest "SheetReader" (17 : Nat) ({ cls := "SheetReader$Scan", name := "<init>", desc := "()V" } : Jvm.MethodName) "SheetReader") ∈ lw_tbl := tm_1 _ (List.mem_of_getElem? (i := 28) (by decide +kernel))
theorem tw_1_29 : (Jvm.Cond.instanceMethod ({ cls := "SheetReader$Scan", name := "<init>", desc := "()V" } : Jvm.MethodName)) ∈ lw_tbl := tm_1 _ (List.mem_of_getElem? (i := 29) (by decide +kernel))
theorem tw_1_30 : (Jvm.Cond.code ({ cls := "SheetReader$Scan", name := "<init>", desc := "()V" } : Jvm.MethodName) prog_8_method_1_code (1 : Nat) (Option.none : Option Jvm.ClassFile.FieldType)) ∈ lw_tbl := tm_1 _ (List.mem_of_getElem? (i := 30) (by decide +kernel))
theorem tw_1_31 : (Jvm.Cond.methodLink "SheetReader$Scan" (3 : Nat) ({ cls := "java/lang/Object", name := "<init>", desc := "()V" } : Jvm.MethodName)) ∈ lw_tbl := tm_1 _ (List.mem_of_getElem? (i := 31) (by decide +kernel))
theorem tw_1_32 : (Jvm.Cond.fieldLink "SheetReader$Scan" (18 : Nat) "SheetReader$Scan" "wide" "I") ∈ lw_tbl := tm_1 _ (List.mem_of_getElem? (i := 32) (by decide +kernel))
theorem tw_1_33 : (Jvm.Cond.fieldLink "SheetReader$Judge" (57 : Nat) "SheetReader$Scan" "wide" "I") ∈ lw_tbl := tm_1 _ (List.mem_of_getElem? (i := 33) (by decide +kernel))
theorem tw_1_34 : (Jvm.Cond.fieldLink "SheetReader$Blobs" (63 : Nat) "SheetReader$Scan" "wide" "I") ∈ lw_tbl := tm_1 _ (List.mem_of_getElem? (i := 34) (by decide +kernel))
theorem tw_1_35 : (Jvm.Cond.fieldLink "SheetReader" (100 : Nat) "SheetReader$Scan" "wide" "I") ∈ lw_tbl := tm_1 _ (List.mem_of_getElem? (i := 35) (by decide +kernel))
theorem tw_1_36 : (Jvm.Cond.fieldLink "SheetReader$Judge" (63 : Nat) "SheetReader$Scan" "high" "I") ∈ lw_tbl := tm_1 _ (List.mem_of_getElem? (i := 36) (by decide +kernel))
theorem tw_1_37 : (Jvm.Cond.fieldLink "SheetReader$Scan" (22 : Nat) "SheetReader$Scan" "high" "I") ∈ lw_tbl := tm_1 _ (List.mem_of_getElem? (i := 37) (by decide +kernel))
theorem tw_1_38 : (Jvm.Cond.fieldLink "SheetReader" (103 : Nat) "SheetReader$Scan" "high" "I") ∈ lw_tbl := tm_1 _ (List.mem_of_getElem? (i := 38) (by decide +kernel))
theorem tw_1_39 : (Jvm.Cond.fieldLink "SheetReader$Scan" (9 : Nat) "SheetReader$Scan" "dots" "[I") ∈ lw_tbl := tm_1 _ (List.mem_of_getElem? (i := 39) (by decide +kernel))
theorem tw_1_40 : (Jvm.Cond.fieldLink "SheetReader$Blobs" (70 : Nat) "SheetReader$Scan" "dots" "[I") ∈ lw_tbl := tm_1 _ (List.mem_of_getElem? (i := 40) (by decide +kernel))
theorem tw_1_41 : (Jvm.Cond.fieldLink "SheetReader$Scan" (15 : Nat) "SheetReader$Scan" "tally" "[I") ∈ lw_tbl := tm_1 _ (List.mem_of_getElem? (i := 41) (by decide +kernel))
theorem tw_1_42 : (Jvm.Cond.lays "SheetReader$Scan" "SheetReader$Scan" "wide" "I") ∈ lw_tbl := tm_1 _ (List.mem_of_getElem? (i := 42) (by decide +kernel))
theorem tw_1_44 : (Jvm.Cond.lays "SheetReader$Scan" "SheetReader$Scan" "high" "I") ∈ lw_tbl := tm_1 _ (List.mem_of_getElem? (i := 44) (by decide +kernel))
theorem tw_1_46 : (Jvm.Cond.laysFinal "SheetReader$Scan" "SheetReader$Scan" "dots" "[I") ∈ lw_tbl := tm_1 _ (List.mem_of_getElem? (i := 46) (by decide +kernel))
theorem tw_1_48 : (Jvm.Cond.laysFinal "SheetReader$Scan" "SheetReader$Scan" "tally" "[I") ∈ lw_tbl := tm_1 _ (List.mem_of_getElem? (i := 48) (by decide +kernel))
theorem tw_1_51 : (Jvm.Cond.arrayClass Jvm.ClassFile.FieldType.int) ∈ lw_tbl := tm_1 _ (List.mem_of_getElem? (i := 51) (by decide +kernel))
theorem tw_1_52 : (Jvm.Cond.arrayOver (Jvm.ClassFile.FieldType.object "SheetReader$Scan")) ∈ lw_tbl := tm_1 _ (List.mem_of_getElem? (i := 52) (by decide +kernel))
theorem tw_1_53 : (Jvm.Cond.classLink "SheetReader" (29 : Nat) "SheetReader$Form") ∈ lw_tbl := tm_1 _ (List.mem_of_getElem? (i := 53) (by decide +kernel))
theorem tw_1_54 : (Jvm.Cond.instantiable "SheetReader$Form" (14 : Nat)) ∈ lw_tbl := tm_1 _ (List.mem_of_getElem? (i := 54) (by decide +kernel))
theorem tw_1_55 : (Jvm.Cond.methodLinkNest "SheetReader" (31 : Nat) ({ cls := "SheetReader$Form", name := "<init>", desc := "()V" } : Jvm.MethodName) "SheetReader") ∈ lw_tbl := tm_1 _ (List.mem_of_getElem? (i := 55) (by decide +kernel))
theorem tw_1_56 : (Jvm.Cond.instanceMethod ({ cls := "SheetReader$Form", name := "<init>", desc := "()V" } : Jvm.MethodName)) ∈ lw_tbl := tm_1 _ (List.mem_of_getElem? (i := 56) (by decide +kernel))
theorem tw_1_57 : (Jvm.Cond.code ({ cls := "SheetReader$Form", name := "<init>", desc := "()V" } : Jvm.MethodName) prog_3_method_1_code (1 : Nat) (Option.none : Option Jvm.ClassFile.FieldType)) ∈ lw_tbl := tm_1 _ (List.mem_of_getElem? (i := 57) (by decide +kernel))
theorem tw_1_58 : (Jvm.Cond.methodLink "SheetReader$Form" (3 : Nat) ({ cls := "java/lang/Object", name := "<init>", desc := "()V" } : Jvm.MethodName)) ∈ lw_tbl := tm_1 _ (List.mem_of_getElem? (i := 58) (by decide +kernel))
theorem tw_1_59 : (Jvm.Cond.fieldLink "SheetReader$Form" (34 : Nat) "SheetReader$Form" "told" "Z") ∈ lw_tbl := tm_1 _ (List.mem_of_getElem? (i := 59) (by decide +kernel))
theorem tw_1_60 : (Jvm.Cond.fieldLink "SheetReader$FormText" (52 : Nat) "SheetReader$Form" "told" "Z") ∈ lw_tbl := tm_1 _ (List.mem_of_getElem? (i := 60) (by decide +kernel))
theorem tw_1_61 : (Jvm.Cond.fieldLink "SheetReader" (274 : Nat) "SheetReader$Form" "told" "Z") ∈ lw_tbl := tm_1 _ (List.mem_of_getElem? (i := 61) (by decide +kernel))
theorem tw_1_62 : (Jvm.Cond.fieldLink "SheetReader$Form" (38 : Nat) "SheetReader$Form" "wide" "I") ∈ lw_tbl := tm_1 _ (List.mem_of_getElem? (i := 62) (by decide +kernel))
theorem tw_1_63 : (Jvm.Cond.fieldLink "SheetReader$FormText" (69 : Nat) "SheetReader$Form" "wide" "I") ∈ lw_tbl := tm_1 _ (List.mem_of_getElem? (i := 63) (by decide +kernel))
theorem tw_1_64 : (Jvm.Cond.fieldLink "SheetReader$Judge" (91 : Nat) "SheetReader$Form" "wide" "I") ∈ lw_tbl := tm_1 _ (List.mem_of_getElem? (i := 64) (by decide +kernel))
theorem tw_1_65 : (Jvm.Cond.fieldLink "SheetReader" (109 : Nat) "SheetReader$Form" "wide" "I") ∈ lw_tbl := tm_1 _ (List.mem_of_getElem? (i := 65) (by decide +kernel))
theorem tw_1_66 : (Jvm.Cond.fieldLink "SheetReader$Form" (42 : Nat) "SheetReader$Form" "high" "I") ∈ lw_tbl := tm_1 _ (List.mem_of_getElem? (i := 66) (by decide +kernel))
theorem tw_1_67 : (Jvm.Cond.fieldLink "SheetReader$FormText" (72 : Nat) "SheetReader$Form" "high" "I") ∈ lw_tbl := tm_1 _ (List.mem_of_getElem? (i := 67) (by decide +kernel))
theorem tw_1_68 : (Jvm.Cond.fieldLink "SheetReader$Judge" (94 : Nat) "SheetReader$Form" "high" "I") ∈ lw_tbl := tm_1 _ (List.mem_of_getElem? (i := 68) (by decide +kernel))
theorem tw_1_69 : (Jvm.Cond.fieldLink "SheetReader" (110 : Nat) "SheetReader$Form" "high" "I") ∈ lw_tbl := tm_1 _ (List.mem_of_getElem? (i := 69) (by decide +kernel))
theorem tw_1_70 : (Jvm.Cond.fieldLink "SheetReader$Form" (45 : Nat) "SheetReader$Form" "boxWide" "I") ∈ lw_tbl := tm_1 _ (List.mem_of_getElem? (i := 70) (by decide +kernel))
theorem tw_1_71 : (Jvm.Cond.fieldLink "SheetReader$FormText" (81 : Nat) "SheetReader$Form" "boxWide" "I") ∈ lw_tbl := tm_1 _ (List.mem_of_getElem? (i := 71) (by decide +kernel))
theorem tw_1_72 : (Jvm.Cond.fieldLink "SheetReader$Judge" (124 : Nat) "SheetReader$Form" "boxWide" "I") ∈ lw_tbl := tm_1 _ (List.mem_of_getElem? (i := 72) (by decide +kernel))
theorem tw_1_73 : (Jvm.Cond.fieldLink "SheetReader" (413 : Nat) "SheetReader$Form" "boxWide" "I") ∈ lw_tbl := tm_1 _ (List.mem_of_getElem? (i := 73) (by decide +kernel))
theorem tw_1_74 : (Jvm.Cond.fieldLink "SheetReader$Form" (48 : Nat) "SheetReader$Form" "boxHigh" "I") ∈ lw_tbl := tm_1 _ (List.mem_of_getElem? (i := 74) (by decide +kernel))
theorem tw_1_75 : (Jvm.Cond.fieldLink "SheetReader$FormText" (84 : Nat) "SheetReader$Form" "boxHigh" "I") ∈ lw_tbl := tm_1 _ (List.mem_of_getElem? (i := 75) (by decide +kernel))
theorem tw_1_76 : (Jvm.Cond.fieldLink "SheetReader$Judge" (121 : Nat) "SheetReader$Form" "boxHigh" "I") ∈ lw_tbl := tm_1 _ (List.mem_of_getElem? (i := 76) (by decide +kernel))
theorem tw_1_77 : (Jvm.Cond.fieldLink "SheetReader" (410 : Nat) "SheetReader$Form" "boxHigh" "I") ∈ lw_tbl := tm_1 _ (List.mem_of_getElem? (i := 77) (by decide +kernel))
theorem tw_1_78 : (Jvm.Cond.fieldLink "SheetReader$Form" (51 : Nat) "SheetReader$Form" "questions" "I") ∈ lw_tbl := tm_1 _ (List.mem_of_getElem? (i := 78) (by decide +kernel))
theorem tw_1_79 : (Jvm.Cond.fieldLink "SheetReader" (97 : Nat) "SheetReader$Form" "questions" "I") ∈ lw_tbl := tm_1 _ (List.mem_of_getElem? (i := 79) (by decide +kernel))
theorem tw_1_80 : (Jvm.Cond.fieldLink "SheetReader$Pile" (37 : Nat) "SheetReader$Form" "questions" "I") ∈ lw_tbl := tm_1 _ (List.mem_of_getElem? (i := 80) (by decide +kernel))
theorem tw_1_81 : (Jvm.Cond.fieldLink "SheetReader$Judge" (140 : Nat) "SheetReader$Form" "questions" "I") ∈ lw_tbl := tm_1 _ (List.mem_of_getElem? (i := 81) (by decide +kernel))
theorem tw_1_82 : (Jvm.Cond.fieldLink "SheetReader$Form" (54 : Nat) "SheetReader$Form" "boxes" "I") ∈ lw_tbl := tm_1 _ (List.mem_of_getElem? (i := 82) (by decide +kernel))
theorem tw_1_83 : (Jvm.Cond.fieldLink "SheetReader$Judge" (99 : Nat) "SheetReader$Form" "boxes" "I") ∈ lw_tbl := tm_1 _ (List.mem_of_getElem? (i := 83) (by decide +kernel))
theorem tw_1_84 : (Jvm.Cond.fieldLink "SheetReader" (106 : Nat) "SheetReader$Form" "boxes" "I") ∈ lw_tbl := tm_1 _ (List.mem_of_getElem? (i := 84) (by decide +kernel))
theorem tw_1_85 : (Jvm.Cond.fieldLink "SheetReader$Form" (9 : Nat) "SheetReader$Form" "many" "[Z") ∈ lw_tbl := tm_1 _ (List.mem_of_getElem? (i := 85) (by decide +kernel))
theorem tw_1_86 : (Jvm.Cond.fieldLink "SheetReader" (125 : Nat) "SheetReader$Form" "many" "[Z") ∈ lw_tbl := tm_1 _ (List.mem_of_getElem? (i := 86) (by decide +kernel))
theorem tw_1_87 : (Jvm.Cond.fieldLink "SheetReader$Judge" (160 : Nat) "SheetReader$Form" "many" "[Z") ∈ lw_tbl := tm_1 _ (List.mem_of_getElem? (i := 87) (by decide +kernel))
theorem tw_1_88 : (Jvm.Cond.fieldLink "SheetReader$Form" (15 : Nat) "SheetReader$Form" "firstOf" "[I") ∈ lw_tbl := tm_1 _ (List.mem_of_getElem? (i := 88) (by decide +kernel))
theorem tw_1_89 : (Jvm.Cond.fieldLink "SheetReader" (145 : Nat) "SheetReader$Form" "firstOf" "[I") ∈ lw_tbl := tm_1 _ (List.mem_of_getElem? (i := 89) (by decide +kernel))
theorem tw_1_90 : (Jvm.Cond.fieldLink "SheetReader$Judge" (151 : Nat) "SheetReader$Form" "firstOf" "[I") ∈ lw_tbl := tm_1 _ (List.mem_of_getElem? (i := 90) (by decide +kernel))
theorem tw_1_91 : (Jvm.Cond.fieldLink "SheetReader$Form" (19 : Nat) "SheetReader$Form" "boxesOf" "[I") ∈ lw_tbl := tm_1 _ (List.mem_of_getElem? (i := 91) (by decide +kernel))
theorem tw_1_92 : (Jvm.Cond.fieldLink "SheetReader" (129 : Nat) "SheetReader$Form" "boxesOf" "[I") ∈ lw_tbl := tm_1 _ (List.mem_of_getElem? (i := 92) (by decide +kernel))
theorem tw_1_93 : (Jvm.Cond.fieldLink "SheetReader$Judge" (154 : Nat) "SheetReader$Form" "boxesOf" "[I") ∈ lw_tbl := tm_1 _ (List.mem_of_getElem? (i := 93) (by decide +kernel))
theorem tw_1_94 : (Jvm.Cond.fieldLink "SheetReader$FormText" (139 : Nat) "SheetReader$Form" "boxesOf" "[I") ∈ lw_tbl := tm_1 _ (List.mem_of_getElem? (i := 94) (by decide +kernel))
theorem tw_1_95 : (Jvm.Cond.fieldLink "SheetReader$Form" (22 : Nat) "SheetReader$Form" "keys" "[I") ∈ lw_tbl := tm_1 _ (List.mem_of_getElem? (i := 95) (by decide +kernel))
theorem tw_1_96 : (Jvm.Cond.fieldLink "SheetReader" (132 : Nat) "SheetReader$Form" "keys" "[I") ∈ lw_tbl := tm_1 _ (List.mem_of_getElem? (i := 96) (by decide +kernel))
theorem tw_1_97 : (Jvm.Cond.fieldLink "SheetReader$Pile" (50 : Nat) "SheetReader$Form" "keys" "[I") ∈ lw_tbl := tm_1 _ (List.mem_of_getElem? (i := 97) (by decide +kernel))
theorem tw_1_98 : (Jvm.Cond.fieldLink "SheetReader$FormText" (142 : Nat) "SheetReader$Form" "keys" "[I") ∈ lw_tbl := tm_1 _ (List.mem_of_getElem? (i := 98) (by decide +kernel))
theorem tw_1_99 : (Jvm.Cond.fieldLink "SheetReader$Judge" (164 : Nat) "SheetReader$Form" "keys" "[I") ∈ lw_tbl := tm_1 _ (List.mem_of_getElem? (i := 99) (by decide +kernel))
theorem tw_1_100 : (Jvm.Cond.fieldLink "SheetReader$Form" (25 : Nat) "SheetReader$Form" "worths" "[I") ∈ lw_tbl := tm_1 _ (List.mem_of_getElem? (i := 100) (by decide +kernel))
theorem tw_1_101 : (Jvm.Cond.fieldLink "SheetReader" (135 : Nat) "SheetReader$Form" "worths" "[I") ∈ lw_tbl := tm_1 _ (List.mem_of_getElem? (i := 101) (by decide +kernel))
theorem tw_1_102 : (Jvm.Cond.fieldLink "SheetReader$FormText" (147 : Nat) "SheetReader$Form" "worths" "[I") ∈ lw_tbl := tm_1 _ (List.mem_of_getElem? (i := 102) (by decide +kernel))
theorem tw_1_103 : (Jvm.Cond.fieldLink "SheetReader$Judge" (167 : Nat) "SheetReader$Form" "worths" "[I") ∈ lw_tbl := tm_1 _ (List.mem_of_getElem? (i := 103) (by decide +kernel))
theorem tw_1_104 : (Jvm.Cond.fieldLink "SheetReader$Form" (28 : Nat) "SheetReader$Form" "boxX" "[I") ∈ lw_tbl := tm_1 _ (List.mem_of_getElem? (i := 104) (by decide +kernel))
theorem tw_1_105 : (Jvm.Cond.fieldLink "SheetReader$Judge" (115 : Nat) "SheetReader$Form" "boxX" "[I") ∈ lw_tbl := tm_1 _ (List.mem_of_getElem? (i := 105) (by decide +kernel))
theorem tw_1_106 : (Jvm.Cond.fieldLink "SheetReader" (142 : Nat) "SheetReader$Form" "boxX" "[I") ∈ lw_tbl := tm_1 _ (List.mem_of_getElem? (i := 106) (by decide +kernel))
theorem tw_1_107 : (Jvm.Cond.fieldLink "SheetReader$Form" (31 : Nat) "SheetReader$Form" "boxY" "[I") ∈ lw_tbl := tm_1 _ (List.mem_of_getElem? (i := 107) (by decide +kernel))
theorem tw_1_108 : (Jvm.Cond.fieldLink "SheetReader$Judge" (118 : Nat) "SheetReader$Form" "boxY" "[I") ∈ lw_tbl := tm_1 _ (List.mem_of_getElem? (i := 108) (by decide +kernel))
theorem tw_1_109 : (Jvm.Cond.fieldLink "SheetReader" (148 : Nat) "SheetReader$Form" "boxY" "[I") ∈ lw_tbl := tm_1 _ (List.mem_of_getElem? (i := 109) (by decide +kernel))
theorem tw_1_110 : (Jvm.Cond.lays "SheetReader$Form" "SheetReader$Form" "told" "Z") ∈ lw_tbl := tm_1 _ (List.mem_of_getElem? (i := 110) (by decide +kernel))
theorem tw_1_112 : (Jvm.Cond.lays "SheetReader$Form" "SheetReader$Form" "wide" "I") ∈ lw_tbl := tm_1 _ (List.mem_of_getElem? (i := 112) (by decide +kernel))
theorem tw_1_114 : (Jvm.Cond.lays "SheetReader$Form" "SheetReader$Form" "high" "I") ∈ lw_tbl := tm_1 _ (List.mem_of_getElem? (i := 114) (by decide +kernel))
theorem tw_1_116 : (Jvm.Cond.lays "SheetReader$Form" "SheetReader$Form" "boxWide" "I") ∈ lw_tbl := tm_1 _ (List.mem_of_getElem? (i := 116) (by decide +kernel))
theorem tw_1_118 : (Jvm.Cond.lays "SheetReader$Form" "SheetReader$Form" "boxHigh" "I") ∈ lw_tbl := tm_1 _ (List.mem_of_getElem? (i := 118) (by decide +kernel))
theorem tw_1_120 : (Jvm.Cond.lays "SheetReader$Form" "SheetReader$Form" "questions" "I") ∈ lw_tbl := tm_1 _ (List.mem_of_getElem? (i := 120) (by decide +kernel))
theorem tw_1_122 : (Jvm.Cond.lays "SheetReader$Form" "SheetReader$Form" "boxes" "I") ∈ lw_tbl := tm_1 _ (List.mem_of_getElem? (i := 122) (by decide +kernel))
theorem tw_1_124 : (Jvm.Cond.laysFinal "SheetReader$Form" "SheetReader$Form" "many" "[Z") ∈ lw_tbl := tm_1 _ (List.mem_of_getElem? (i := 124) (by decide +kernel))
theorem tw_1_126 : (Jvm.Cond.laysFinal "SheetReader$Form" "SheetReader$Form" "firstOf" "[I") ∈ lw_tbl := tm_1 _ (List.mem_of_getElem? (i := 126) (by decide +kernel))
theorem tw_1_128 : (Jvm.Cond.laysFinal "SheetReader$Form" "SheetReader$Form" "boxesOf" "[I") ∈ lw_tbl := tm_1 _ (List.mem_of_getElem? (i := 128) (by decide +kernel))
theorem tw_1_130 : (Jvm.Cond.laysFinal "SheetReader$Form" "SheetReader$Form" "keys" "[I") ∈ lw_tbl := tm_1 _ (List.mem_of_getElem? (i := 130) (by decide +kernel))
theorem tw_1_132 : (Jvm.Cond.laysFinal "SheetReader$Form" "SheetReader$Form" "worths" "[I") ∈ lw_tbl := tm_1 _ (List.mem_of_getElem? (i := 132) (by decide +kernel))
theorem tw_1_134 : (Jvm.Cond.laysFinal "SheetReader$Form" "SheetReader$Form" "boxX" "[I") ∈ lw_tbl := tm_1 _ (List.mem_of_getElem? (i := 134) (by decide +kernel))
theorem tw_1_136 : (Jvm.Cond.laysFinal "SheetReader$Form" "SheetReader$Form" "boxY" "[I") ∈ lw_tbl := tm_1 _ (List.mem_of_getElem? (i := 136) (by decide +kernel))
theorem tw_1_139 : (Jvm.Cond.arrayClass Jvm.ClassFile.FieldType.boolean) ∈ lw_tbl := tm_1 _ (List.mem_of_getElem? (i := 139) (by decide +kernel))
theorem tw_1_140 : (Jvm.Cond.classLink "SheetReader" (39 : Nat) "SheetReader$FormText") ∈ lw_tbl := tm_1 _ (List.mem_of_getElem? (i := 140) (by decide +kernel))
theorem tw_1_141 : (Jvm.Cond.instantiable "SheetReader$FormText" (8 : Nat)) ∈ lw_tbl := tm_1 _ (List.mem_of_getElem? (i := 141) (by decide +kernel))
theorem tw_1_142 : (Jvm.Cond.methodLinkNest "SheetReader" (41 : Nat) ({ cls := "SheetReader$FormText", name := "<init>", desc := "()V" } : Jvm.MethodName) "SheetReader") ∈ lw_tbl := tm_1 _ (List.mem_of_getElem? (i := 142) (by decide +kernel))
theorem tw_1_143 : (Jvm.Cond.instanceMethod ({ cls := "SheetReader$FormText", name := "<init>", desc := "()V" } : Jvm.MethodName)) ∈ lw_tbl := tm_1 _ (List.mem_of_getElem? (i := 143) (by decide +kernel))
theorem tw_1_144 : (Jvm.Cond.code ({ cls := "SheetReader$FormText", name := "<init>", desc := "()V" } : Jvm.MethodName) prog_4_method_1_code (1 : Nat) (Option.none : Option Jvm.ClassFile.FieldType)) ∈ lw_tbl := tm_1 _ (List.mem_of_getElem? (i := 144) (by decide +kernel))
theorem tw_1_145 : (Jvm.Cond.methodLink "SheetReader$FormText" (3 : Nat) ({ cls := "java/lang/Object", name := "<init>", desc := "()V" } : Jvm.MethodName)) ∈ lw_tbl := tm_1 _ (List.mem_of_getElem? (i := 145) (by decide +kernel))
theorem tw_1_146 : (Jvm.Cond.fieldLink "SheetReader$FormText" (9 : Nat) "SheetReader$FormText" "text" "[I") ∈ lw_tbl := tm_1 _ (List.mem_of_getElem? (i := 146) (by decide +kernel))
theorem tw_1_147 : (Jvm.Cond.fieldLink "SheetReader$FormText" (21 : Nat) "SheetReader$FormText" "length" "I") ∈ lw_tbl := tm_1 _ (List.mem_of_getElem? (i := 147) (by decide +kernel))
theorem tw_1_148 : (Jvm.Cond.fieldLink "SheetReader$FormText" (136 : Nat) "SheetReader$FormText" "start" "I") ∈ lw_tbl := tm_1 _ (List.mem_of_getElem? (i := 148) (by decide +kernel))
theorem tw_1_149 : (Jvm.Cond.fieldLink "SheetReader$FormText" (31 : Nat) "SheetReader$FormText" "end" "I") ∈ lw_tbl := tm_1 _ (List.mem_of_getElem? (i := 149) (by decide +kernel))
theorem tw_1_150 : (Jvm.Cond.fieldLink "SheetReader$FormText" (87 : Nat) "SheetReader$FormText" "kind" "I") ∈ lw_tbl := tm_1 _ (List.mem_of_getElem? (i := 150) (by decide +kernel))
theorem tw_1_151 : (Jvm.Cond.fieldLink "SheetReader$FormText" (120 : Nat) "SheetReader$FormText" "number" "I") ∈ lw_tbl := tm_1 _ (List.mem_of_getElem? (i := 151) (by decide +kernel))
theorem tw_1_152 : (Jvm.Cond.fieldLink "SheetReader$FormText" (66 : Nat) "SheetReader$FormText" "taken" "I") ∈ lw_tbl := tm_1 _ (List.mem_of_getElem? (i := 152) (by decide +kernel))
theorem tw_1_153 : (Jvm.Cond.fieldLink "SheetReader$FormText" (34 : Nat) "SheetReader$FormText" "fault" "I") ∈ lw_tbl := tm_1 _ (List.mem_of_getElem? (i := 153) (by decide +kernel))
theorem tw_1_154 : (Jvm.Cond.laysFinal "SheetReader$FormText" "SheetReader$FormText" "text" "[I") ∈ lw_tbl := tm_1 _ (List.mem_of_getElem? (i := 154) (by decide +kernel))
theorem tw_1_156 : (Jvm.Cond.lays "SheetReader$FormText" "SheetReader$FormText" "length" "I") ∈ lw_tbl := tm_1 _ (List.mem_of_getElem? (i := 156) (by decide +kernel))
theorem tw_1_158 : (Jvm.Cond.lays "SheetReader$FormText" "SheetReader$FormText" "start" "I") ∈ lw_tbl := tm_1 _ (List.mem_of_getElem? (i := 158) (by decide +kernel))
theorem tw_1_160 : (Jvm.Cond.lays "SheetReader$FormText" "SheetReader$FormText" "end" "I") ∈ lw_tbl := tm_1 _ (List.mem_of_getElem? (i := 160) (by decide +kernel))
theorem tw_1_162 : (Jvm.Cond.lays "SheetReader$FormText" "SheetReader$FormText" "kind" "I") ∈ lw_tbl := tm_1 _ (List.mem_of_getElem? (i := 162) (by decide +kernel))
theorem tw_1_164 : (Jvm.Cond.lays "SheetReader$FormText" "SheetReader$FormText" "number" "I") ∈ lw_tbl := tm_1 _ (List.mem_of_getElem? (i := 164) (by decide +kernel))
theorem tw_1_166 : (Jvm.Cond.lays "SheetReader$FormText" "SheetReader$FormText" "taken" "I") ∈ lw_tbl := tm_1 _ (List.mem_of_getElem? (i := 166) (by decide +kernel))
theorem tw_1_168 : (Jvm.Cond.lays "SheetReader$FormText" "SheetReader$FormText" "fault" "I") ∈ lw_tbl := tm_1 _ (List.mem_of_getElem? (i := 168) (by decide +kernel))
theorem tw_1_171 : (Jvm.Cond.classLink "SheetReader" (59 : Nat) "SheetReader$Judge") ∈ lw_tbl := tm_1 _ (List.mem_of_getElem? (i := 171) (by decide +kernel))
theorem tw_1_172 : (Jvm.Cond.instantiable "SheetReader$Judge" (12 : Nat)) ∈ lw_tbl := tm_1 _ (List.mem_of_getElem? (i := 172) (by decide +kernel))
theorem tw_1_173 : (Jvm.Cond.methodLinkNest "SheetReader" (61 : Nat) ({ cls := "SheetReader$Judge", name := "<init>", desc := "()V" } : Jvm.MethodName) "SheetReader") ∈ lw_tbl := tm_1 _ (List.mem_of_getElem? (i := 173) (by decide +kernel))
theorem tw_1_174 : (Jvm.Cond.instanceMethod ({ cls := "SheetReader$Judge", name := "<init>", desc := "()V" } : Jvm.MethodName)) ∈ lw_tbl := tm_1 _ (List.mem_of_getElem? (i := 174) (by decide +kernel))
theorem tw_1_175 : (Jvm.Cond.code ({ cls := "SheetReader$Judge", name := "<init>", desc := "()V" } : Jvm.MethodName) prog_5_method_1_code (1 : Nat) (Option.none : Option Jvm.ClassFile.FieldType)) ∈ lw_tbl := tm_1 _ (List.mem_of_getElem? (i := 175) (by decide +kernel))
theorem tw_1_176 : (Jvm.Cond.methodLink "SheetReader$Judge" (3 : Nat) ({ cls := "java/lang/Object", name := "<init>", desc := "()V" } : Jvm.MethodName)) ∈ lw_tbl := tm_1 _ (List.mem_of_getElem? (i := 176) (by decide +kernel))
theorem tw_1_177 : (Jvm.Cond.classLink "SheetReader$Judge" (15 : Nat) "SheetReader$Blobs") ∈ lw_tbl := tm_1 _ (List.mem_of_getElem? (i := 177) (by decide +kernel))
theorem tw_1_178 : (Jvm.Cond.instantiable "SheetReader$Blobs" (11 : Nat)) ∈ lw_tbl := tm_1 _ (List.mem_of_getElem? (i := 178) (by decide +kernel))
theorem tw_1_179 : (Jvm.Cond.methodLinkNest "SheetReader$Judge" (17 : Nat) ({ cls := "SheetReader$Blobs", name := "<init>", desc := "()V" } : Jvm.MethodName) "SheetReader") ∈ lw_tbl := tm_1 _ (List.mem_of_getElem? (i := 179) (by decide +kernel))
theorem tw_1_180 : (Jvm.Cond.instanceMethod ({ cls := "SheetReader$Blobs", name := "<init>", desc := "()V" } : Jvm.MethodName)) ∈ lw_tbl := tm_1 _ (List.mem_of_getElem? (i := 180) (by decide +kernel))
theorem tw_1_181 : (Jvm.Cond.code ({ cls := "SheetReader$Blobs", name := "<init>", desc := "()V" } : Jvm.MethodName) prog_2_method_1_code (1 : Nat) (Option.none : Option Jvm.ClassFile.FieldType)) ∈ lw_tbl := tm_1 _ (List.mem_of_getElem? (i := 181) (by decide +kernel))
theorem tw_1_182 : (Jvm.Cond.methodLink "SheetReader$Blobs" (3 : Nat) ({ cls := "java/lang/Object", name := "<init>", desc := "()V" } : Jvm.MethodName)) ∈ lw_tbl := tm_1 _ (List.mem_of_getElem? (i := 182) (by decide +kernel))
theorem tw_1_183 : (Jvm.Cond.fieldLink "SheetReader$Blobs" (43 : Nat) "SheetReader$Blobs" "found" "I") ∈ lw_tbl := tm_1 _ (List.mem_of_getElem? (i := 183) (by decide +kernel))
theorem tw_1_184 : (Jvm.Cond.fieldLink "SheetReader" (225 : Nat) "SheetReader$Blobs" "found" "I") ∈ lw_tbl := tm_1 _ (List.mem_of_getElem? (i := 184) (by decide +kernel))
theorem tw_1_185 : (Jvm.Cond.fieldLink "SheetReader$Blobs" (11 : Nat) "SheetReader$Blobs" "sizes" "[I") ∈ lw_tbl := tm_1 _ (List.mem_of_getElem? (i := 185) (by decide +kernel))
theorem tw_1_186 : (Jvm.Cond.fieldLink "SheetReader$Judge" (80 : Nat) "SheetReader$Blobs" "sizes" "[I") ∈ lw_tbl := tm_1 _ (List.mem_of_getElem? (i := 186) (by decide +kernel))
theorem tw_1_187 : (Jvm.Cond.fieldLink "SheetReader" (228 : Nat) "SheetReader$Blobs" "sizes" "[I") ∈ lw_tbl := tm_1 _ (List.mem_of_getElem? (i := 187) (by decide +kernel))
theorem tw_1_188 : (Jvm.Cond.fieldLink "SheetReader$Blobs" (15 : Nat) "SheetReader$Blobs" "sumX" "[I") ∈ lw_tbl := tm_1 _ (List.mem_of_getElem? (i := 188) (by decide +kernel))
theorem tw_1_189 : (Jvm.Cond.fieldLink "SheetReader$Judge" (74 : Nat) "SheetReader$Blobs" "sumX" "[I") ∈ lw_tbl := tm_1 _ (List.mem_of_getElem? (i := 189) (by decide +kernel))
theorem tw_1_190 : (Jvm.Cond.fieldLink "SheetReader" (231 : Nat) "SheetReader$Blobs" "sumX" "[I") ∈ lw_tbl := tm_1 _ (List.mem_of_getElem? (i := 190) (by decide +kernel))
theorem tw_1_191 : (Jvm.Cond.fieldLink "SheetReader$Blobs" (18 : Nat) "SheetReader$Blobs" "sumY" "[I") ∈ lw_tbl := tm_1 _ (List.mem_of_getElem? (i := 191) (by decide +kernel))
theorem tw_1_192 : (Jvm.Cond.fieldLink "SheetReader$Judge" (77 : Nat) "SheetReader$Blobs" "sumY" "[I") ∈ lw_tbl := tm_1 _ (List.mem_of_getElem? (i := 192) (by decide +kernel))
theorem tw_1_193 : (Jvm.Cond.fieldLink "SheetReader" (234 : Nat) "SheetReader$Blobs" "sumY" "[I") ∈ lw_tbl := tm_1 _ (List.mem_of_getElem? (i := 193) (by decide +kernel))
theorem tw_1_194 : (Jvm.Cond.fieldLink "SheetReader$Blobs" (21 : Nat) "SheetReader$Blobs" "firstX" "[I") ∈ lw_tbl := tm_1 _ (List.mem_of_getElem? (i := 194) (by decide +kernel))
theorem tw_1_195 : (Jvm.Cond.fieldLink "SheetReader" (237 : Nat) "SheetReader$Blobs" "firstX" "[I") ∈ lw_tbl := tm_1 _ (List.mem_of_getElem? (i := 195) (by decide +kernel))
theorem tw_1_196 : (Jvm.Cond.fieldLink "SheetReader$Blobs" (24 : Nat) "SheetReader$Blobs" "firstY" "[I") ∈ lw_tbl := tm_1 _ (List.mem_of_getElem? (i := 196) (by decide +kernel))
theorem tw_1_197 : (Jvm.Cond.fieldLink "SheetReader" (240 : Nat) "SheetReader$Blobs" "firstY" "[I") ∈ lw_tbl := tm_1 _ (List.mem_of_getElem? (i := 197) (by decide +kernel))
theorem tw_1_198 : (Jvm.Cond.fieldLink "SheetReader$Blobs" (27 : Nat) "SheetReader$Blobs" "leastX" "[I") ∈ lw_tbl := tm_1 _ (List.mem_of_getElem? (i := 198) (by decide +kernel))
theorem tw_1_199 : (Jvm.Cond.fieldLink "SheetReader" (246 : Nat) "SheetReader$Blobs" "leastX" "[I") ∈ lw_tbl := tm_1 _ (List.mem_of_getElem? (i := 199) (by decide +kernel))
theorem tw_1_200 : (Jvm.Cond.fieldLink "SheetReader$Blobs" (30 : Nat) "SheetReader$Blobs" "greatestX" "[I") ∈ lw_tbl := tm_1 _ (List.mem_of_getElem? (i := 200) (by decide +kernel))
theorem tw_1_201 : (Jvm.Cond.fieldLink "SheetReader" (243 : Nat) "SheetReader$Blobs" "greatestX" "[I") ∈ lw_tbl := tm_1 _ (List.mem_of_getElem? (i := 201) (by decide +kernel))
theorem tw_1_202 : (Jvm.Cond.fieldLink "SheetReader$Blobs" (33 : Nat) "SheetReader$Blobs" "greatestY" "[I") ∈ lw_tbl := tm_1 _ (List.mem_of_getElem? (i := 202) (by decide +kernel))
theorem tw_1_203 : (Jvm.Cond.fieldLink "SheetReader" (249 : Nat) "SheetReader$Blobs" "greatestY" "[I") ∈ lw_tbl := tm_1 _ (List.mem_of_getElem? (i := 203) (by decide +kernel))
theorem tw_1_204 : (Jvm.Cond.fieldLink "SheetReader$Blobs" (36 : Nat) "SheetReader$Blobs" "group" "[I") ∈ lw_tbl := tm_1 _ (List.mem_of_getElem? (i := 204) (by decide +kernel))
theorem tw_1_205 : (Jvm.Cond.fieldLink "SheetReader$Blobs" (39 : Nat) "SheetReader$Blobs" "seen" "[B") ∈ lw_tbl := tm_1 _ (List.mem_of_getElem? (i := 205) (by decide +kernel))
theorem tw_1_206 : (Jvm.Cond.lays "SheetReader$Blobs" "SheetReader$Blobs" "found" "I") ∈ lw_tbl := tm_1 _ (List.mem_of_getElem? (i := 206) (by decide +kernel))
theorem tw_1_208 : (Jvm.Cond.laysFinal "SheetReader$Blobs" "SheetReader$Blobs" "sizes" "[I") ∈ lw_tbl := tm_1 _ (List.mem_of_getElem? (i := 208) (by decide +kernel))
theorem tw_1_210 : (Jvm.Cond.laysFinal "SheetReader$Blobs" "SheetReader$Blobs" "sumX" "[I") ∈ lw_tbl := tm_1 _ (List.mem_of_getElem? (i := 210) (by decide +kernel))
theorem tw_1_212 : (Jvm.Cond.laysFinal "SheetReader$Blobs" "SheetReader$Blobs" "sumY" "[I") ∈ lw_tbl := tm_1 _ (List.mem_of_getElem? (i := 212) (by decide +kernel))
theorem tw_1_214 : (Jvm.Cond.laysFinal "SheetReader$Blobs" "SheetReader$Blobs" "firstX" "[I") ∈ lw_tbl := tm_1 _ (List.mem_of_getElem? (i := 214) (by decide +kernel))
theorem tw_1_216 : (Jvm.Cond.laysFinal "SheetReader$Blobs" "SheetReader$Blobs" "firstY" "[I") ∈ lw_tbl := tm_1 _ (List.mem_of_getElem? (i := 216) (by decide +kernel))
theorem tw_1_218 : (Jvm.Cond.laysFinal "SheetReader$Blobs" "SheetReader$Blobs" "leastX" "[I") ∈ lw_tbl := tm_1 _ (List.mem_of_getElem? (i := 218) (by decide +kernel))
theorem tw_1_220 : (Jvm.Cond.laysFinal "SheetReader$Blobs" "SheetReader$Blobs" "greatestX" "[I") ∈ lw_tbl := tm_1 _ (List.mem_of_getElem? (i := 220) (by decide +kernel))
theorem tw_1_222 : (Jvm.Cond.laysFinal "SheetReader$Blobs" "SheetReader$Blobs" "greatestY" "[I") ∈ lw_tbl := tm_1 _ (List.mem_of_getElem? (i := 222) (by decide +kernel))
theorem tw_1_224 : (Jvm.Cond.laysFinal "SheetReader$Blobs" "SheetReader$Blobs" "group" "[I") ∈ lw_tbl := tm_1 _ (List.mem_of_getElem? (i := 224) (by decide +kernel))
theorem tw_1_226 : (Jvm.Cond.laysFinal "SheetReader$Blobs" "SheetReader$Blobs" "seen" "[B") ∈ lw_tbl := tm_1 _ (List.mem_of_getElem? (i := 226) (by decide +kernel))
theorem tw_1_229 : (Jvm.Cond.arrayClass Jvm.ClassFile.FieldType.byte) ∈ lw_tbl := tm_1 _ (List.mem_of_getElem? (i := 229) (by decide +kernel))
theorem tw_1_230 : (Jvm.Cond.classLink "SheetReader$Judge" (25 : Nat) "SheetReader$Places") ∈ lw_tbl := tm_1 _ (List.mem_of_getElem? (i := 230) (by decide +kernel))
theorem tw_1_231 : (Jvm.Cond.instantiable "SheetReader$Places" (8 : Nat)) ∈ lw_tbl := tm_1 _ (List.mem_of_getElem? (i := 231) (by decide +kernel))
theorem tw_1_232 : (Jvm.Cond.methodLinkNest "SheetReader$Judge" (27 : Nat) ({ cls := "SheetReader$Places", name := "<init>", desc := "()V" } : Jvm.MethodName) "SheetReader") ∈ lw_tbl := tm_1 _ (List.mem_of_getElem? (i := 232) (by decide +kernel))
theorem tw_1_233 : (Jvm.Cond.instanceMethod ({ cls := "SheetReader$Places", name := "<init>", desc := "()V" } : Jvm.MethodName)) ∈ lw_tbl := tm_1 _ (List.mem_of_getElem? (i := 233) (by decide +kernel))
theorem tw_1_234 : (Jvm.Cond.code ({ cls := "SheetReader$Places", name := "<init>", desc := "()V" } : Jvm.MethodName) prog_7_method_1_code (1 : Nat) (Option.none : Option Jvm.ClassFile.FieldType)) ∈ lw_tbl := tm_1 _ (List.mem_of_getElem? (i := 234) (by decide +kernel))
theorem tw_1_235 : (Jvm.Cond.methodLink "SheetReader$Places" (3 : Nat) ({ cls := "java/lang/Object", name := "<init>", desc := "()V" } : Jvm.MethodName)) ∈ lw_tbl := tm_1 _ (List.mem_of_getElem? (i := 235) (by decide +kernel))
theorem tw_1_236 : (Jvm.Cond.fieldLink "SheetReader$Places" (9 : Nat) "SheetReader$Places" "sumX" "[J") ∈ lw_tbl := tm_1 _ (List.mem_of_getElem? (i := 236) (by decide +kernel))
theorem tw_1_237 : (Jvm.Cond.fieldLink "SheetReader$Places" (15 : Nat) "SheetReader$Places" "sumY" "[J") ∈ lw_tbl := tm_1 _ (List.mem_of_getElem? (i := 237) (by decide +kernel))
theorem tw_1_238 : (Jvm.Cond.fieldLink "SheetReader$Places" (18 : Nat) "SheetReader$Places" "sizes" "[J") ∈ lw_tbl := tm_1 _ (List.mem_of_getElem? (i := 238) (by decide +kernel))
theorem tw_1_239 : (Jvm.Cond.fieldLink "SheetReader$Places" (21 : Nat) "SheetReader$Places" "wholeX" "[J") ∈ lw_tbl := tm_1 _ (List.mem_of_getElem? (i := 239) (by decide +kernel))
theorem tw_2_0 : (Jvm.Cond.fieldLink "SheetReader$Places" (24 : Nat) "SheetReader$Places" "wholeY" "[J") ∈ lw_tbl := tm_2 _ (List.mem_of_getElem? (i := 0) (by decide +kernel))
theorem tw_2_1 : (Jvm.Cond.fieldLink "SheetReader$Places" (34 : Nat) "SheetReader$Places" "by" "J") ∈ lw_tbl := tm_2 _ (List.mem_of_getElem? (i := 1) (by decide +kernel))
theorem tw_2_2 : (Jvm.Cond.fieldLink "SheetReader$Places" (27 : Nat) "SheetReader$Places" "twiceWide" "I") ∈ lw_tbl := tm_2 _ (List.mem_of_getElem? (i := 2) (by decide +kernel))
theorem tw_2_3 : (Jvm.Cond.fieldLink "SheetReader$Places" (31 : Nat) "SheetReader$Places" "twiceHigh" "I") ∈ lw_tbl := tm_2 _ (List.mem_of_getElem? (i := 3) (by decide +kernel))
theorem tw_2_4 : (Jvm.Cond.laysFinal "SheetReader$Places" "SheetReader$Places" "sumX" "[J") ∈ lw_tbl := tm_2 _ (List.mem_of_getElem? (i := 4) (by decide +kernel))
theorem tw_2_6 : (Jvm.Cond.laysFinal "SheetReader$Places" "SheetReader$Places" "sumY" "[J") ∈ lw_tbl := tm_2 _ (List.mem_of_getElem? (i := 6) (by decide +kernel))
theorem tw_2_8 : (Jvm.Cond.laysFinal "SheetReader$Places" "SheetReader$Places" "sizes" "[J") ∈ lw_tbl := tm_2 _ (List.mem_of_getElem? (i := 8) (by decide +kernel))
theorem tw_2_10 : (Jvm.Cond.laysFinal "SheetReader$Places" "SheetReader$Places" "wholeX" "[J") ∈ lw_tbl := tm_2 _ (List.mem_of_getElem? (i := 10) (by decide +kernel))
theorem tw_2_12 : (Jvm.Cond.laysFinal "SheetReader$Places" "SheetReader$Places" "wholeY" "[J") ∈ lw_tbl := tm_2 _ (List.mem_of_getElem? (i := 12) (by decide +kernel))
theorem tw_2_14 : (Jvm.Cond.lays "SheetReader$Places" "SheetReader$Places" "by" "J") ∈ lw_tbl := tm_2 _ (List.mem_of_getElem? (i := 14) (by decide +kernel))
theorem tw_2_16 : (Jvm.Cond.lays "SheetReader$Places" "SheetReader$Places" "twiceWide" "I") ∈ lw_tbl := tm_2 _ (List.mem_of_getElem? (i := 16) (by decide +kernel))
theorem tw_2_18 : (Jvm.Cond.lays "SheetReader$Places" "SheetReader$Places" "twiceHigh" "I") ∈ lw_tbl := tm_2 _ (List.mem_of_getElem? (i := 18) (by decide +kernel))
theorem tw_2_21 : (Jvm.Cond.arrayClass Jvm.ClassFile.FieldType.long) ∈ lw_tbl := tm_2 _ (List.mem_of_getElem? (i := 21) (by decide +kernel))
theorem tw_2_22 : (Jvm.Cond.fieldLink "SheetReader$Judge" (9 : Nat) "SheetReader$Judge" "settings" "[I") ∈ lw_tbl := tm_2 _ (List.mem_of_getElem? (i := 22) (by decide +kernel))
theorem tw_2_23 : (Jvm.Cond.fieldLink "SheetReader" (111 : Nat) "SheetReader$Judge" "settings" "[I") ∈ lw_tbl := tm_2 _ (List.mem_of_getElem? (i := 23) (by decide +kernel))
theorem tw_2_24 : (Jvm.Cond.fieldLink "SheetReader$Judge" (18 : Nat) "SheetReader$Judge" "blobs" "LSheetReader$Blobs;") ∈ lw_tbl := tm_2 _ (List.mem_of_getElem? (i := 24) (by decide +kernel))
theorem tw_2_25 : (Jvm.Cond.fieldLink "SheetReader" (205 : Nat) "SheetReader$Judge" "blobs" "LSheetReader$Blobs;") ∈ lw_tbl := tm_2 _ (List.mem_of_getElem? (i := 25) (by decide +kernel))
theorem tw_2_26 : (Jvm.Cond.fieldLink "SheetReader$Judge" (22 : Nat) "SheetReader$Judge" "marks" "[I") ∈ lw_tbl := tm_2 _ (List.mem_of_getElem? (i := 26) (by decide +kernel))
theorem tw_2_27 : (Jvm.Cond.fieldLink "SheetReader" (256 : Nat) "SheetReader$Judge" "marks" "[I") ∈ lw_tbl := tm_2 _ (List.mem_of_getElem? (i := 27) (by decide +kernel))
theorem tw_2_28 : (Jvm.Cond.fieldLink "SheetReader$Judge" (28 : Nat) "SheetReader$Judge" "places" "LSheetReader$Places;") ∈ lw_tbl := tm_2 _ (List.mem_of_getElem? (i := 28) (by decide +kernel))
theorem tw_2_29 : (Jvm.Cond.fieldLink "SheetReader" (259 : Nat) "SheetReader$Judge" "places" "LSheetReader$Places;") ∈ lw_tbl := tm_2 _ (List.mem_of_getElem? (i := 29) (by decide +kernel))
theorem tw_2_30 : (Jvm.Cond.fieldLink "SheetReader$Judge" (32 : Nat) "SheetReader$Judge" "darks" "[I") ∈ lw_tbl := tm_2 _ (List.mem_of_getElem? (i := 30) (by decide +kernel))
theorem tw_2_31 : (Jvm.Cond.fieldLink "SheetReader" (299 : Nat) "SheetReader$Judge" "darks" "[I") ∈ lw_tbl := tm_2 _ (List.mem_of_getElem? (i := 31) (by decide +kernel))
theorem tw_2_32 : (Jvm.Cond.fieldLink "SheetReader$Judge" (35 : Nat) "SheetReader$Judge" "order" "[I") ∈ lw_tbl := tm_2 _ (List.mem_of_getElem? (i := 32) (by decide +kernel))
theorem tw_2_33 : (Jvm.Cond.fieldLink "SheetReader$Judge" (106 : Nat) "SheetReader$Judge" "paper" "I") ∈ lw_tbl := tm_2 _ (List.mem_of_getElem? (i := 33) (by decide +kernel))
theorem tw_2_34 : (Jvm.Cond.fieldLink "SheetReader" (296 : Nat) "SheetReader$Judge" "paper" "I") ∈ lw_tbl := tm_2 _ (List.mem_of_getElem? (i := 34) (by decide +kernel))
theorem tw_2_35 : (Jvm.Cond.fieldLink "SheetReader$Judge" (38 : Nat) "SheetReader$Judge" "answers" "[I") ∈ lw_tbl := tm_2 _ (List.mem_of_getElem? (i := 35) (by decide +kernel))
theorem tw_2_36 : (Jvm.Cond.fieldLink "SheetReader$Pile" (42 : Nat) "SheetReader$Judge" "answers" "[I") ∈ lw_tbl := tm_2 _ (List.mem_of_getElem? (i := 36) (by decide +kernel))
theorem tw_2_37 : (Jvm.Cond.fieldLink "SheetReader" (305 : Nat) "SheetReader$Judge" "answers" "[I") ∈ lw_tbl := tm_2 _ (List.mem_of_getElem? (i := 37) (by decide +kernel))
theorem tw_2_38 : (Jvm.Cond.fieldLink "SheetReader$Judge" (41 : Nat) "SheetReader$Judge" "states" "[I") ∈ lw_tbl := tm_2 _ (List.mem_of_getElem? (i := 38) (by decide +kernel))
theorem tw_2_39 : (Jvm.Cond.fieldLink "SheetReader$Pile" (43 : Nat) "SheetReader$Judge" "states" "[I") ∈ lw_tbl := tm_2 _ (List.mem_of_getElem? (i := 39) (by decide +kernel))
theorem tw_2_40 : (Jvm.Cond.fieldLink "SheetReader" (308 : Nat) "SheetReader$Judge" "states" "[I") ∈ lw_tbl := tm_2 _ (List.mem_of_getElem? (i := 40) (by decide +kernel))
theorem tw_2_41 : (Jvm.Cond.fieldLink "SheetReader$Judge" (44 : Nat) "SheetReader$Judge" "rubbed" "[I") ∈ lw_tbl := tm_2 _ (List.mem_of_getElem? (i := 41) (by decide +kernel))
theorem tw_2_42 : (Jvm.Cond.fieldLink "SheetReader" (311 : Nat) "SheetReader$Judge" "rubbed" "[I") ∈ lw_tbl := tm_2 _ (List.mem_of_getElem? (i := 42) (by decide +kernel))
theorem tw_2_43 : (Jvm.Cond.fieldLink "SheetReader$Judge" (47 : Nat) "SheetReader$Judge" "steps" "[I") ∈ lw_tbl := tm_2 _ (List.mem_of_getElem? (i := 43) (by decide +kernel))
theorem tw_2_44 : (Jvm.Cond.fieldLink "SheetReader" (314 : Nat) "SheetReader$Judge" "steps" "[I") ∈ lw_tbl := tm_2 _ (List.mem_of_getElem? (i := 44) (by decide +kernel))
theorem tw_2_45 : (Jvm.Cond.fieldLink "SheetReader$Judge" (50 : Nat) "SheetReader$Judge" "gains" "[I") ∈ lw_tbl := tm_2 _ (List.mem_of_getElem? (i := 45) (by decide +kernel))
theorem tw_2_46 : (Jvm.Cond.fieldLink "SheetReader" (317 : Nat) "SheetReader$Judge" "gains" "[I") ∈ lw_tbl := tm_2 _ (List.mem_of_getElem? (i := 46) (by decide +kernel))
theorem tw_2_47 : (Jvm.Cond.laysFinal "SheetReader$Judge" "SheetReader$Judge" "settings" "[I") ∈ lw_tbl := tm_2 _ (List.mem_of_getElem? (i := 47) (by decide +kernel))
theorem tw_2_49 : (Jvm.Cond.laysFinal "SheetReader$Judge" "SheetReader$Judge" "blobs" "LSheetReader$Blobs;") ∈ lw_tbl := tm_2 _ (List.mem_of_getElem? (i := 49) (by decide +kernel))
theorem tw_2_51 : (Jvm.Cond.laysFinal "SheetReader$Judge" "SheetReader$Judge" "marks" "[I") ∈ lw_tbl := tm_2 _ (List.mem_of_getElem? (i := 51) (by decide +kernel))
theorem tw_2_53 : (Jvm.Cond.laysFinal "SheetReader$Judge" "SheetReader$Judge" "places" "LSheetReader$Places;") ∈ lw_tbl := tm_2 _ (List.mem_of_getElem? (i := 53) (by decide +kernel))
theorem tw_2_55 : (Jvm.Cond.laysFinal "SheetReader$Judge" "SheetReader$Judge" "darks" "[I") ∈ lw_tbl := tm_2 _ (List.mem_of_getElem? (i := 55) (by decide +kernel))
theorem tw_2_57 : (Jvm.Cond.laysFinal "SheetReader$Judge" "SheetReader$Judge" "order" "[I") ∈ lw_tbl := tm_2 _ (List.mem_of_getElem? (i := 57) (by decide +kernel))
theorem tw_2_59 : (Jvm.Cond.lays "SheetReader$Judge" "SheetReader$Judge" "paper" "I") ∈ lw_tbl := tm_2 _ (List.mem_of_getElem? (i := 59) (by decide +kernel))
theorem tw_2_61 : (Jvm.Cond.laysFinal "SheetReader$Judge" "SheetReader$Judge" "answers" "[I") ∈ lw_tbl := tm_2 _ (List.mem_of_getElem? (i := 61) (by decide +kernel))
theorem tw_2_63 : (Jvm.Cond.laysFinal "SheetReader$Judge" "SheetReader$Judge" "states" "[I") ∈ lw_tbl := tm_2 _ (List.mem_of_getElem? (i := 63) (by decide +kernel))
theorem tw_2_65 : (Jvm.Cond.laysFinal "SheetReader$Judge" "SheetReader$Judge" "rubbed" "[I") ∈ lw_tbl := tm_2 _ (List.mem_of_getElem? (i := 65) (by decide +kernel))
theorem tw_2_67 : (Jvm.Cond.laysFinal "SheetReader$Judge" "SheetReader$Judge" "steps" "[I") ∈ lw_tbl := tm_2 _ (List.mem_of_getElem? (i := 67) (by decide +kernel))
theorem tw_2_69 : (Jvm.Cond.laysFinal "SheetReader$Judge" "SheetReader$Judge" "gains" "[I") ∈ lw_tbl := tm_2 _ (List.mem_of_getElem? (i := 69) (by decide +kernel))
theorem tw_2_72 : (Jvm.Cond.classLink "SheetReader" (66 : Nat) "SheetReader$Pile") ∈ lw_tbl := tm_2 _ (List.mem_of_getElem? (i := 72) (by decide +kernel))
theorem tw_2_73 : (Jvm.Cond.instantiable "SheetReader$Pile" (6 : Nat)) ∈ lw_tbl := tm_2 _ (List.mem_of_getElem? (i := 73) (by decide +kernel))
theorem tw_2_74 : (Jvm.Cond.methodLinkNest "SheetReader" (68 : Nat) ({ cls := "SheetReader$Pile", name := "<init>", desc := "()V" } : Jvm.MethodName) "SheetReader") ∈ lw_tbl := tm_2 _ (List.mem_of_getElem? (i := 74) (by decide +kernel))
theorem tw_2_75 : (Jvm.Cond.instanceMethod ({ cls := "SheetReader$Pile", name := "<init>", desc := "()V" } : Jvm.MethodName)) ∈ lw_tbl := tm_2 _ (List.mem_of_getElem? (i := 75) (by decide +kernel))
theorem tw_2_76 : (Jvm.Cond.code ({ cls := "SheetReader$Pile", name := "<init>", desc := "()V" } : Jvm.MethodName) prog_6_method_1_code (1 : Nat) (Option.none : Option Jvm.ClassFile.FieldType)) ∈ lw_tbl := tm_2 _ (List.mem_of_getElem? (i := 76) (by decide +kernel))
theorem tw_2_77 : (Jvm.Cond.methodLink "SheetReader$Pile" (3 : Nat) ({ cls := "java/lang/Object", name := "<init>", desc := "()V" } : Jvm.MethodName)) ∈ lw_tbl := tm_2 _ (List.mem_of_getElem? (i := 77) (by decide +kernel))
theorem tw_2_78 : (Jvm.Cond.fieldLink "SheetReader$Pile" (27 : Nat) "SheetReader$Pile" "sheets" "I") ∈ lw_tbl := tm_2 _ (List.mem_of_getElem? (i := 78) (by decide +kernel))
theorem tw_2_79 : (Jvm.Cond.fieldLink "SheetReader" (94 : Nat) "SheetReader$Pile" "sheets" "I") ∈ lw_tbl := tm_2 _ (List.mem_of_getElem? (i := 79) (by decide +kernel))
theorem tw_2_80 : (Jvm.Cond.fieldLink "SheetReader$Pile" (9 : Nat) "SheetReader$Pile" "gains" "[I") ∈ lw_tbl := tm_2 _ (List.mem_of_getElem? (i := 80) (by decide +kernel))
theorem tw_2_81 : (Jvm.Cond.fieldLink "SheetReader" (367 : Nat) "SheetReader$Pile" "gains" "[I") ∈ lw_tbl := tm_2 _ (List.mem_of_getElem? (i := 81) (by decide +kernel))
theorem tw_2_82 : (Jvm.Cond.fieldLink "SheetReader$Pile" (15 : Nat) "SheetReader$Pile" "doubtful" "[I") ∈ lw_tbl := tm_2 _ (List.mem_of_getElem? (i := 82) (by decide +kernel))
theorem tw_2_83 : (Jvm.Cond.fieldLink "SheetReader" (368 : Nat) "SheetReader$Pile" "doubtful" "[I") ∈ lw_tbl := tm_2 _ (List.mem_of_getElem? (i := 83) (by decide +kernel))
theorem tw_2_84 : (Jvm.Cond.fieldLink "SheetReader$Pile" (18 : Nat) "SheetReader$Pile" "doubled" "[I") ∈ lw_tbl := tm_2 _ (List.mem_of_getElem? (i := 84) (by decide +kernel))
theorem tw_2_85 : (Jvm.Cond.fieldLink "SheetReader" (371 : Nat) "SheetReader$Pile" "doubled" "[I") ∈ lw_tbl := tm_2 _ (List.mem_of_getElem? (i := 85) (by decide +kernel))
theorem tw_2_86 : (Jvm.Cond.fieldLink "SheetReader$Pile" (21 : Nat) "SheetReader$Pile" "answers" "[I") ∈ lw_tbl := tm_2 _ (List.mem_of_getElem? (i := 86) (by decide +kernel))
theorem tw_2_87 : (Jvm.Cond.fieldLink "SheetReader$Pile" (24 : Nat) "SheetReader$Pile" "order" "[I") ∈ lw_tbl := tm_2 _ (List.mem_of_getElem? (i := 87) (by decide +kernel))
theorem tw_2_88 : (Jvm.Cond.fieldLink "SheetReader" (397 : Nat) "SheetReader$Pile" "order" "[I") ∈ lw_tbl := tm_2 _ (List.mem_of_getElem? (i := 88) (by decide +kernel))
theorem tw_2_89 : (Jvm.Cond.lays "SheetReader$Pile" "SheetReader$Pile" "sheets" "I") ∈ lw_tbl := tm_2 _ (List.mem_of_getElem? (i := 89) (by decide +kernel))
theorem tw_2_91 : (Jvm.Cond.laysFinal "SheetReader$Pile" "SheetReader$Pile" "gains" "[I") ∈ lw_tbl := tm_2 _ (List.mem_of_getElem? (i := 91) (by decide +kernel))
theorem tw_2_93 : (Jvm.Cond.laysFinal "SheetReader$Pile" "SheetReader$Pile" "doubtful" "[I") ∈ lw_tbl := tm_2 _ (List.mem_of_getElem? (i := 93) (by decide +kernel))
theorem tw_2_95 : (Jvm.Cond.laysFinal "SheetReader$Pile" "SheetReader$Pile" "doubled" "[I") ∈ lw_tbl := tm_2 _ (List.mem_of_getElem? (i := 95) (by decide +kernel))
theorem tw_2_97 : (Jvm.Cond.laysFinal "SheetReader$Pile" "SheetReader$Pile" "answers" "[I") ∈ lw_tbl := tm_2 _ (List.mem_of_getElem? (i := 97) (by decide +kernel))
theorem tw_2_99 : (Jvm.Cond.laysFinal "SheetReader$Pile" "SheetReader$Pile" "order" "[I") ∈ lw_tbl := tm_2 _ (List.mem_of_getElem? (i := 99) (by decide +kernel))
theorem tw_2_102 : (Jvm.Cond.methodLink "SheetReader" (73 : Nat) ({ cls := "SheetReader$Scan", name := "empty", desc := "(II)V" } : Jvm.MethodName)) ∈ lw_tbl := tm_2 _ (List.mem_of_getElem? (i := 102) (by decide +kernel))
theorem tw_2_103 : (Jvm.Cond.instanceMethod ({ cls := "SheetReader$Scan", name := "empty", desc := "(II)V" } : Jvm.MethodName)) ∈ lw_tbl := tm_2 _ (List.mem_of_getElem? (i := 103) (by decide +kernel))
theorem tw_2_104 : (Jvm.Cond.selects "SheetReader$Scan" ({ cls := "SheetReader$Scan", name := "empty", desc := "(II)V" } : Jvm.MethodName) ({ cls := "SheetReader$Scan", name := "empty", desc := "(II)V" } : Jvm.MethodName)) ∈ lw_tbl := tm_2 _ (List.mem_of_getElem? (i := 104) (by decide +kernel))
theorem tw_2_105 : (Jvm.Cond.code ({ cls := "SheetReader$Scan", name := "empty", desc := "(II)V" } : Jvm.MethodName) prog_8_method_4_code (3 : Nat) (Option.none : Option Jvm.ClassFile.FieldType)) ∈ lw_tbl := tm_2 _ (List.mem_of_getElem? (i := 105) (by decide +kernel))
theorem tw_2_106 : (Jvm.Cond.methodLink "SheetReader$Scan" (25 : Nat) ({ cls := "java/util/Arrays", name := "fill", desc := "([II)V" } : Jvm.MethodName)) ∈ lw_tbl := tm_2 _ (List.mem_of_getElem? (i := 106) (by decide +kernel))
theorem tw_2_107 : (Jvm.Cond.static ({ cls := "java/util/Arrays", name := "fill", desc := "([II)V" } : Jvm.MethodName)) ∈ lw_tbl := tm_2 _ (List.mem_of_getElem? (i := 107) (by decide +kernel))
theorem tw_2_108 : (Jvm.Cond.code ({ cls := "java/util/Arrays", name := "fill", desc := "([II)V" } : Jvm.MethodName) prog_17_method_103_code (4 : Nat) (Option.none : Option Jvm.ClassFile.FieldType)) ∈ lw_tbl := tm_2 _ (List.mem_of_getElem? (i := 108) (by decide +kernel))
theorem tw_2_109 : (Jvm.Cond.fieldLink "SheetReader" (11 : Nat) "SheetReader" "tape" "[I") ∈ lw_tbl := tm_2 _ (List.mem_of_getElem? (i := 109) (by decide +kernel))
theorem tw_2_110 : (Jvm.Cond.fieldLink "SheetReader" (77 : Nat) "SheetReader" "tapeLength" "I") ∈ lw_tbl := tm_2 _ (List.mem_of_getElem? (i := 110) (by decide +kernel))
theorem tw_2_111 : (Jvm.Cond.fieldLink "SheetReader" (18 : Nat) "SheetReader" "scan" "LSheetReader$Scan;") ∈ lw_tbl := tm_2 _ (List.mem_of_getElem? (i := 111) (by decide +kernel))
theorem tw_2_112 : (Jvm.Cond.fieldLink "SheetReader" (22 : Nat) "SheetReader" "spare" "LSheetReader$Scan;") ∈ lw_tbl := tm_2 _ (List.mem_of_getElem? (i := 112) (by decide +kernel))
theorem tw_2_113 : (Jvm.Cond.fieldLink "SheetReader" (25 : Nat) "SheetReader" "drawers" "[LSheetReader$Scan;") ∈ lw_tbl := tm_2 _ (List.mem_of_getElem? (i := 113) (by decide +kernel))
theorem tw_2_114 : (Jvm.Cond.fieldLink "SheetReader" (32 : Nat) "SheetReader" "form" "LSheetReader$Form;") ∈ lw_tbl := tm_2 _ (List.mem_of_getElem? (i := 114) (by decide +kernel))
theorem tw_2_115 : (Jvm.Cond.fieldLink "SheetReader" (36 : Nat) "SheetReader" "draft" "LSheetReader$Form;") ∈ lw_tbl := tm_2 _ (List.mem_of_getElem? (i := 115) (by decide +kernel))
theorem tw_2_116 : (Jvm.Cond.fieldLink "SheetReader" (42 : Nat) "SheetReader" "formText" "LSheetReader$FormText;") ∈ lw_tbl := tm_2 _ (List.mem_of_getElem? (i := 116) (by decide +kernel))
theorem tw_2_117 : (Jvm.Cond.fieldLink "SheetReader" (46 : Nat) "SheetReader" "drawn" "I") ∈ lw_tbl := tm_2 _ (List.mem_of_getElem? (i := 117) (by decide +kernel))
theorem tw_2_118 : (Jvm.Cond.fieldLink "SheetReader" (50 : Nat) "SheetReader" "cornerX" "[I") ∈ lw_tbl := tm_2 _ (List.mem_of_getElem? (i := 118) (by decide +kernel))
theorem tw_2_119 : (Jvm.Cond.fieldLink "SheetReader" (53 : Nat) "SheetReader" "cornerY" "[I") ∈ lw_tbl := tm_2 _ (List.mem_of_getElem? (i := 119) (by decide +kernel))
theorem tw_2_120 : (Jvm.Cond.fieldLink "SheetReader" (56 : Nat) "SheetReader" "told" "[I") ∈ lw_tbl := tm_2 _ (List.mem_of_getElem? (i := 120) (by decide +kernel))
theorem tw_2_121 : (Jvm.Cond.fieldLink "SheetReader" (62 : Nat) "SheetReader" "judge" "LSheetReader$Judge;") ∈ lw_tbl := tm_2 _ (List.mem_of_getElem? (i := 121) (by decide +kernel))
theorem tw_2_122 : (Jvm.Cond.fieldLink "SheetReader" (69 : Nat) "SheetReader" "pile" "LSheetReader$Pile;") ∈ lw_tbl := tm_2 _ (List.mem_of_getElem? (i := 122) (by decide +kernel))
theorem tw_2_123 : (Jvm.Cond.laysFinal "SheetReader" "SheetReader" "tape" "[I") ∈ lw_tbl := tm_2 _ (List.mem_of_getElem? (i := 123) (by decide +kernel))
theorem tw_2_125 : (Jvm.Cond.lays "SheetReader" "SheetReader" "tapeLength" "I") ∈ lw_tbl := tm_2 _ (List.mem_of_getElem? (i := 125) (by decide +kernel))
theorem tw_2_127 : (Jvm.Cond.lays "SheetReader" "SheetReader" "scan" "LSheetReader$Scan;") ∈ lw_tbl := tm_2 _ (List.mem_of_getElem? (i := 127) (by decide +kernel))
theorem tw_2_129 : (Jvm.Cond.lays "SheetReader" "SheetReader" "spare" "LSheetReader$Scan;") ∈ lw_tbl := tm_2 _ (List.mem_of_getElem? (i := 129) (by decide +kernel))
theorem tw_2_131 : (Jvm.Cond.laysFinal "SheetReader" "SheetReader" "drawers" "[LSheetReader$Scan;") ∈ lw_tbl := tm_2 _ (List.mem_of_getElem? (i := 131) (by decide +kernel))
theorem tw_2_133 : (Jvm.Cond.lays "SheetReader" "SheetReader" "form" "LSheetReader$Form;") ∈ lw_tbl := tm_2 _ (List.mem_of_getElem? (i := 133) (by decide +kernel))
theorem tw_2_135 : (Jvm.Cond.lays "SheetReader" "SheetReader" "draft" "LSheetReader$Form;") ∈ lw_tbl := tm_2 _ (List.mem_of_getElem? (i := 135) (by decide +kernel))
theorem tw_2_137 : (Jvm.Cond.laysFinal "SheetReader" "SheetReader" "formText" "LSheetReader$FormText;") ∈ lw_tbl := tm_2 _ (List.mem_of_getElem? (i := 137) (by decide +kernel))
theorem tw_2_139 : (Jvm.Cond.lays "SheetReader" "SheetReader" "drawn" "I") ∈ lw_tbl := tm_2 _ (List.mem_of_getElem? (i := 139) (by decide +kernel))
theorem tw_2_141 : (Jvm.Cond.laysFinal "SheetReader" "SheetReader" "cornerX" "[I") ∈ lw_tbl := tm_2 _ (List.mem_of_getElem? (i := 141) (by decide +kernel))
theorem tw_2_143 : (Jvm.Cond.laysFinal "SheetReader" "SheetReader" "cornerY" "[I") ∈ lw_tbl := tm_2 _ (List.mem_of_getElem? (i := 143) (by decide +kernel))
theorem tw_2_145 : (Jvm.Cond.laysFinal "SheetReader" "SheetReader" "told" "[I") ∈ lw_tbl := tm_2 _ (List.mem_of_getElem? (i := 145) (by decide +kernel))
theorem tw_2_147 : (Jvm.Cond.laysFinal "SheetReader" "SheetReader" "judge" "LSheetReader$Judge;") ∈ lw_tbl := tm_2 _ (List.mem_of_getElem? (i := 147) (by decide +kernel))
theorem tw_2_149 : (Jvm.Cond.laysFinal "SheetReader" "SheetReader" "pile" "LSheetReader$Pile;") ∈ lw_tbl := tm_2 _ (List.mem_of_getElem? (i := 149) (by decide +kernel))
theorem tw_2_152 : (Jvm.Cond.methodLink "SheetReaderLaw" (13 : Nat) ({ cls := "SheetReader", name := "feed", desc := "(IIIII)I" } : Jvm.MethodName)) ∈ lw_tbl := tm_2 _ (List.mem_of_getElem? (i := 152) (by decide +kernel))
theorem tw_2_153 : (Jvm.Cond.instanceMethod ({ cls := "SheetReader", name := "feed", desc := "(IIIII)I" } : Jvm.MethodName)) ∈ lw_tbl := tm_2 _ (List.mem_of_getElem? (i := 153) (by decide +kernel))
theorem tw_2_154 : (Jvm.Cond.selects "SheetReader" ({ cls := "SheetReader", name := "feed", desc := "(IIIII)I" } : Jvm.MethodName) ({ cls := "SheetReader", name := "feed", desc := "(IIIII)I" } : Jvm.MethodName)) ∈ lw_tbl := tm_2 _ (List.mem_of_getElem? (i := 154) (by decide +kernel))
theorem tw_2_155 : (Jvm.Cond.code ({ cls := "SheetReader", name := "feed", desc := "(IIIII)I" } : Jvm.MethodName) prog_1_method_2_code (6 : Nat) (Option.some Jvm.ClassFile.FieldType.int)) ∈ lw_tbl := tm_2 _ (List.mem_of_getElem? (i := 155) (by decide +kernel))
theorem tw_2_156 : (Jvm.Cond.methodLink "SheetReader" (80 : Nat) ({ cls := "SheetReader", name := "putOnTape", desc := "(I)V" } : Jvm.MethodName)) ∈ lw_tbl := tm_2 _ (List.mem_of_getElem? (i := 156) (by decide +kernel))
theorem tw_2_158 : (Jvm.Cond.instanceMethod ({ cls := "SheetReader", name := "putOnTape", desc := "(I)V" } : Jvm.MethodName)) ∈ lw_tbl := tm_2 _ (List.mem_of_getElem? (i := 158) (by decide +kernel))
theorem tw_2_159 : (Jvm.Cond.code ({ cls := "SheetReader", name := "putOnTape", desc := "(I)V" } : Jvm.MethodName) prog_1_method_45_code (3 : Nat) (Option.none : Option Jvm.ClassFile.FieldType)) ∈ lw_tbl := tm_2 _ (List.mem_of_getElem? (i := 159) (by decide +kernel))
theorem tw_2_160 : (Jvm.Cond.methodLink "SheetReaderLaw" (18 : Nat) ({ cls := "SheetReader", name := "form", desc := "(I)I" } : Jvm.MethodName)) ∈ lw_tbl := tm_2 _ (List.mem_of_getElem? (i := 160) (by decide +kernel))
theorem tw_2_161 : (Jvm.Cond.instanceMethod ({ cls := "SheetReader", name := "form", desc := "(I)I" } : Jvm.MethodName)) ∈ lw_tbl := tm_2 _ (List.mem_of_getElem? (i := 161) (by decide +kernel))
theorem tw_2_162 : (Jvm.Cond.selects "SheetReader" ({ cls := "SheetReader", name := "form", desc := "(I)I" } : Jvm.MethodName) ({ cls := "SheetReader", name := "form", desc := "(I)I" } : Jvm.MethodName)) ∈ lw_tbl := tm_2 _ (List.mem_of_getElem? (i := 162) (by decide +kernel))
theorem tw_2_163 : (Jvm.Cond.code ({ cls := "SheetReader", name := "form", desc := "(I)I" } : Jvm.MethodName) prog_1_method_3_code (4 : Nat) (Option.some Jvm.ClassFile.FieldType.int)) ∈ lw_tbl := tm_2 _ (List.mem_of_getElem? (i := 163) (by decide +kernel))
theorem tw_2_164 : (Jvm.Cond.methodLink "SheetReader" (84 : Nat) ({ cls := "SheetReader$FormText", name := "read", desc := "([IILSheetReader$Form;)I" } : Jvm.MethodName)) ∈ lw_tbl := tm_2 _ (List.mem_of_getElem? (i := 164) (by decide +kernel))
theorem tw_2_165 : (Jvm.Cond.instanceMethod ({ cls := "SheetReader$FormText", name := "read", desc := "([IILSheetReader$Form;)I" } : Jvm.MethodName)) ∈ lw_tbl := tm_2 _ (List.mem_of_getElem? (i := 165) (by decide +kernel))
theorem tw_2_166 : (Jvm.Cond.selects "SheetReader$FormText" ({ cls := "SheetReader$FormText", name := "read", desc := "([IILSheetReader$Form;)I" } : Jvm.MethodName) ({ cls := "SheetReader$FormText", name := "read", desc := "([IILSheetReader$Form;)I" } : Jvm.MethodName)) ∈ lw_tbl := tm_2 _ (List.mem_of_getElem? (i := 166) (by decide +kernel))
theorem tw_2_167 : (Jvm.Cond.code ({ cls := "SheetReader$FormText", name := "read", desc := "([IILSheetReader$Form;)I" } : Jvm.MethodName) prog_4_method_2_code (4 : Nat) (Option.some Jvm.ClassFile.FieldType.int)) ∈ lw_tbl := tm_2 _ (List.mem_of_getElem? (i := 167) (by decide +kernel))
theorem tw_2_168 : (Jvm.Cond.methodLink "SheetReader$FormText" (15 : Nat) ({ cls := "java/lang/Math", name := "min", desc := "(II)I" } : Jvm.MethodName)) ∈ lw_tbl := tm_2 _ (List.mem_of_getElem? (i := 168) (by decide +kernel))
theorem tw_2_169 : (Jvm.Cond.static ({ cls := "java/lang/Math", name := "min", desc := "(II)I" } : Jvm.MethodName)) ∈ lw_tbl := tm_2 _ (List.mem_of_getElem? (i := 169) (by decide +kernel))
theorem tw_2_170 : (Jvm.Cond.code ({ cls := "java/lang/Math", name := "min", desc := "(II)I" } : Jvm.MethodName) prog_12_method_69_code (2 : Nat) (Option.some Jvm.ClassFile.FieldType.int)) ∈ lw_tbl := tm_2 _ (List.mem_of_getElem? (i := 170) (by decide +kernel))
theorem tw_2_171 : (Jvm.Cond.methodLink "SheetReader$FormText" (25 : Nat) ({ cls := "java/lang/System", name := "arraycopy", desc := "(Ljava/lang/Object;ILjava/lang/Object;II)V" } : Jvm.MethodName)) ∈ lw_tbl := tm_2 _ (List.mem_of_getElem? (i := 171) (by decide +kernel))
theorem tw_2_172 : (Jvm.Cond.static ({ cls := "java/lang/System", name := "arraycopy", desc := "(Ljava/lang/Object;ILjava/lang/Object;II)V" } : Jvm.MethodName)) ∈ lw_tbl := tm_2 _ (List.mem_of_getElem? (i := 172) (by decide +kernel))
theorem tw_2_173 : (Jvm.Cond.native ({ cls := "java/lang/System", name := "arraycopy", desc := "(Ljava/lang/Object;ILjava/lang/Object;II)V" } : Jvm.MethodName)) ∈ lw_tbl := tm_2 _ (List.mem_of_getElem? (i := 173) (by decide +kernel))
theorem tw_2_174 : (Jvm.Cond.methodLink "SheetReader$FormText" (37 : Nat) ({ cls := "SheetReader$Form", name := "empty", desc := "()V" } : Jvm.MethodName)) ∈ lw_tbl := tm_2 _ (List.mem_of_getElem? (i := 174) (by decide +kernel))
theorem tw_2_175 : (Jvm.Cond.instanceMethod ({ cls := "SheetReader$Form", name := "empty", desc := "()V" } : Jvm.MethodName)) ∈ lw_tbl := tm_2 _ (List.mem_of_getElem? (i := 175) (by decide +kernel))
theorem tw_2_176 : (Jvm.Cond.selects "SheetReader$Form" ({ cls := "SheetReader$Form", name := "empty", desc := "()V" } : Jvm.MethodName) ({ cls := "SheetReader$Form", name := "empty", desc := "()V" } : Jvm.MethodName)) ∈ lw_tbl := tm_2 _ (List.mem_of_getElem? (i := 176) (by decide +kernel))
theorem tw_2_177 : (Jvm.Cond.code ({ cls := "SheetReader$Form", name := "empty", desc := "()V" } : Jvm.MethodName) prog_3_method_2_code (1 : Nat) (Option.none : Option Jvm.ClassFile.FieldType)) ∈ lw_tbl := tm_2 _ (List.mem_of_getElem? (i := 177) (by decide +kernel))
theorem tw_2_178 : (Jvm.Cond.methodLink "SheetReader$FormText" (42 : Nat) ({ cls := "SheetReader$FormText", name := "advance", desc := "()V" } : Jvm.MethodName)) ∈ lw_tbl := tm_2 _ (List.mem_of_getElem? (i := 178) (by decide +kernel))
theorem tw_2_180 : (Jvm.Cond.instanceMethod ({ cls := "SheetReader$FormText", name := "advance", desc := "()V" } : Jvm.MethodName)) ∈ lw_tbl := tm_2 _ (List.mem_of_getElem? (i := 180) (by decide +kernel))
theorem tw_2_181 : (Jvm.Cond.code ({ cls := "SheetReader$FormText", name := "advance", desc := "()V" } : Jvm.MethodName) prog_4_method_16_code (1 : Nat) (Option.none : Option Jvm.ClassFile.FieldType)) ∈ lw_tbl := tm_2 _ (List.mem_of_getElem? (i := 181) (by decide +kernel))
theorem tw_2_182 : (Jvm.Cond.methodLink "SheetReader$FormText" (159 : Nat) ({ cls := "SheetReader$FormText", name := "kindOf", desc := "(I)I" } : Jvm.MethodName)) ∈ lw_tbl := tm_2 _ (List.mem_of_getElem? (i := 182) (by decide +kernel))
theorem tw_2_183 : (Jvm.Cond.static ({ cls := "SheetReader$FormText", name := "kindOf", desc := "(I)I" } : Jvm.MethodName)) ∈ lw_tbl := tm_2 _ (List.mem_of_getElem? (i := 183) (by decide +kernel))
theorem tw_2_184 : (Jvm.Cond.code ({ cls := "SheetReader$FormText", name := "kindOf", desc := "(I)I" } : Jvm.MethodName) prog_4_method_18_code (1 : Nat) (Option.some Jvm.ClassFile.FieldType.int)) ∈ lw_tbl := tm_2 _ (List.mem_of_getElem? (i := 184) (by decide +kernel))
theorem tw_2_185 : (Jvm.Cond.methodLink "SheetReader$FormText" (163 : Nat) ({ cls := "SheetReader$FormText", name := "numberRead", desc := "()I" } : Jvm.MethodName)) ∈ lw_tbl := tm_2 _ (List.mem_of_getElem? (i := 185) (by decide +kernel))
theorem tw_2_187 : (Jvm.Cond.instanceMethod ({ cls := "SheetReader$FormText", name := "numberRead", desc := "()I" } : Jvm.MethodName)) ∈ lw_tbl := tm_2 _ (List.mem_of_getElem? (i := 187) (by decide +kernel))
theorem tw_2_188 : (Jvm.Cond.code ({ cls := "SheetReader$FormText", name := "numberRead", desc := "()I" } : Jvm.MethodName) prog_4_method_17_code (3 : Nat) (Option.some Jvm.ClassFile.FieldType.int)) ∈ lw_tbl := tm_2 _ (List.mem_of_getElem? (i := 188) (by decide +kernel))
theorem tw_2_189 : (Jvm.Cond.methodLink "SheetReader$FormText" (45 : Nat) ({ cls := "SheetReader$FormText", name := "readHead", desc := "(LSheetReader$Form;)Z" } : Jvm.MethodName)) ∈ lw_tbl := tm_2 _ (List.mem_of_getElem? (i := 189) (by decide +kernel))
theorem tw_2_191 : (Jvm.Cond.instanceMethod ({ cls := "SheetReader$FormText", name := "readHead", desc := "(LSheetReader$Form;)Z" } : Jvm.MethodName)) ∈ lw_tbl := tm_2 _ (List.mem_of_getElem? (i := 191) (by decide +kernel))
theorem tw_2_192 : (Jvm.Cond.code ({ cls := "SheetReader$FormText", name := "readHead", desc := "(LSheetReader$Form;)Z" } : Jvm.MethodName) prog_4_method_3_code (2 : Nat) (Option.some Jvm.ClassFile.FieldType.boolean)) ∈ lw_tbl := tm_2 _ (List.mem_of_getElem? (i := 192) (by decide +kernel))
theorem tw_2_193 : (Jvm.Cond.stringRef "SheetReader$FormText" (56 : Nat) "size") ∈ lw_tbl := tm_2 _ (List.mem_of_getElem? (i := 193) (by decide +kernel))
theorem tw_2_194 : (Jvm.Cond.methodLink "SheetReader$FormText" (58 : Nat) ({ cls := "SheetReader$FormText", name := "takeWord", desc := "(Ljava/lang/String;)Z" } : Jvm.MethodName)) ∈ lw_tbl := tm_2 _ (List.mem_of_getElem? (i := 194) (by decide +kernel))
theorem tw_2_196 : (Jvm.Cond.instanceMethod ({ cls := "SheetReader$FormText", name := "takeWord", desc := "(Ljava/lang/String;)Z" } : Jvm.MethodName)) ∈ lw_tbl := tm_2 _ (List.mem_of_getElem? (i := 196) (by decide +kernel))
theorem tw_2_197 : (Jvm.Cond.code ({ cls := "SheetReader$FormText", name := "takeWord", desc := "(Ljava/lang/String;)Z" } : Jvm.MethodName) prog_4_method_9_code (2 : Nat) (Option.some Jvm.ClassFile.FieldType.boolean)) ∈ lw_tbl := tm_2 _ (List.mem_of_getElem? (i := 197) (by decide +kernel))
theorem tw_2_198 : (Jvm.Cond.methodLink "SheetReader$FormText" (92 : Nat) ({ cls := "SheetReader$FormText", name := "isWord", desc := "(Ljava/lang/String;)Z" } : Jvm.MethodName)) ∈ lw_tbl := tm_2 _ (List.mem_of_getElem? (i := 198) (by decide +kernel))
theorem tw_2_200 : (Jvm.Cond.instanceMethod ({ cls := "SheetReader$FormText", name := "isWord", desc := "(Ljava/lang/String;)Z" } : Jvm.MethodName)) ∈ lw_tbl := tm_2 _ (List.mem_of_getElem? (i := 200) (by decide +kernel))
theorem tw_2_201 : (Jvm.Cond.code ({ cls := "SheetReader$FormText", name := "isWord", desc := "(Ljava/lang/String;)Z" } : Jvm.MethodName) prog_4_method_13_code (3 : Nat) (Option.some Jvm.ClassFile.FieldType.boolean)) ∈ lw_tbl := tm_2 _ (List.mem_of_getElem? (i := 201) (by decide +kernel))
theorem tw_2_202 : (Jvm.Cond.methodLink "SheetReader$FormText" (150 : Nat) ({ cls := "java/lang/String", name := "length", desc := "()I" } : Jvm.MethodName)) ∈ lw_tbl := tm_2 _ (List.mem_of_getElem? (i := 202) (by decide +kernel))
theorem tw_2_203 : (Jvm.Cond.instanceMethod ({ cls := "java/lang/String", name := "length", desc := "()I" } : Jvm.MethodName)) ∈ lw_tbl := tm_2 _ (List.mem_of_getElem? (i := 203) (by decide +kernel))
theorem tw_2_204 : (Jvm.Cond.selects "java/lang/String" ({ cls := "java/lang/String", name := "length", desc := "()I" } : Jvm.MethodName) ({ cls := "java/lang/String", name := "length", desc := "()I" } : Jvm.MethodName)) ∈ lw_tbl := tm_2 _ (List.mem_of_getElem? (i := 204) (by decide +kernel))
theorem tw_2_205 : (Jvm.Cond.code ({ cls := "java/lang/String", name := "length", desc := "()I" } : Jvm.MethodName) prog_13_method_54_code (1 : Nat) (Option.some Jvm.ClassFile.FieldType.int)) ∈ lw_tbl := tm_2 _ (List.mem_of_getElem? (i := 205) (by decide +kernel))
theorem tw_2_206 : (Jvm.Cond.methodLink "java/lang/String" (335 : Nat) ({ cls := "java/lang/String", name := "coder", desc := "()B" } : Jvm.MethodName)) ∈ lw_tbl := tm_2 _ (List.mem_of_getElem? (i := 206) (by decide +kernel))
theorem tw_2_207 : (Jvm.Cond.instanceMethod ({ cls := "java/lang/String", name := "coder", desc := "()B" } : Jvm.MethodName)) ∈ lw_tbl := tm_2 _ (List.mem_of_getElem? (i := 207) (by decide +kernel))
theorem tw_2_208 : (Jvm.Cond.selects "java/lang/String" ({ cls := "java/lang/String", name := "coder", desc := "()B" } : Jvm.MethodName) ({ cls := "java/lang/String", name := "coder", desc := "()B" } : Jvm.MethodName)) ∈ lw_tbl := tm_2 _ (List.mem_of_getElem? (i := 208) (by decide +kernel))
theorem tw_2_209 : (Jvm.Cond.code ({ cls := "java/lang/String", name := "coder", desc := "()B" } : Jvm.MethodName) prog_13_method_152_code (1 : Nat) (Option.some Jvm.ClassFile.FieldType.byte)) ∈ lw_tbl := tm_2 _ (List.mem_of_getElem? (i := 209) (by decide +kernel))
theorem tw_2_210 : (Jvm.Cond.fieldLink "java/lang/String" (38 : Nat) "java/lang/String" "COMPACT_STRINGS" "Z") ∈ lw_tbl := tm_2 _ (List.mem_of_getElem? (i := 210) (by decide +kernel))
theorem tw_2_211 : (Jvm.Cond.laysStatic "java/lang/String" "COMPACT_STRINGS" "Z") ∈ lw_tbl := tm_2 _ (List.mem_of_getElem? (i := 211) (by decide +kernel))
theorem tw_2_212 : (Jvm.Cond.methodLink "SheetReader$FormText" (155 : Nat) ({ cls := "java/lang/String", name := "charAt", desc := "(I)C" } : Jvm.MethodName)) ∈ lw_tbl := tm_2 _ (List.mem_of_getElem? (i := 212) (by decide +kernel))
theorem tw_2_213 : (Jvm.Cond.instanceMethod ({ cls := "java/lang/String", name := "charAt", desc := "(I)C" } : Jvm.MethodName)) ∈ lw_tbl := tm_2 _ (List.mem_of_getElem? (i := 213) (by decide +kernel))
theorem tw_2_214 : (Jvm.Cond.selects "java/lang/String" ({ cls := "java/lang/String", name := "charAt", desc := "(I)C" } : Jvm.MethodName) ({ cls := "java/lang/String", name := "charAt", desc := "(I)C" } : Jvm.MethodName)) ∈ lw_tbl := tm_2 _ (List.mem_of_getElem? (i := 214) (by decide +kernel))
theorem tw_2_215 : (Jvm.Cond.code ({ cls := "java/lang/String", name := "charAt", desc := "(I)C" } : Jvm.MethodName) prog_13_method_56_code (2 : Nat) (Option.some Jvm.ClassFile.FieldType.char)) ∈ lw_tbl := tm_2 _ (List.mem_of_getElem? (i := 215) (by decide +kernel))
theorem tw_2_216 : (Jvm.Cond.methodLink "java/lang/String" (492 : Nat) ({ cls := "java/lang/String", name := "isLatin1", desc := "()Z" } : Jvm.MethodName)) ∈ lw_tbl := tm_2 _ (List.mem_of_getElem? (i := 216) (by decide +kernel))
theorem tw_2_217 : (Jvm.Cond.instanceMethod ({ cls := "java/lang/String", name := "isLatin1", desc := "()Z" } : Jvm.MethodName)) ∈ lw_tbl := tm_2 _ (List.mem_of_getElem? (i := 217) (by decide +kernel))
theorem tw_2_218 : (Jvm.Cond.selects "java/lang/String" ({ cls := "java/lang/String", name := "isLatin1", desc := "()Z" } : Jvm.MethodName) ({ cls := "java/lang/String", name := "isLatin1", desc := "()Z" } : Jvm.MethodName)) ∈ lw_tbl := tm_2 _ (List.mem_of_getElem? (i := 218) (by decide +kernel))
theorem tw_2_219 : (Jvm.Cond.code ({ cls := "java/lang/String", name := "isLatin1", desc := "()Z" } : Jvm.MethodName) prog_13_method_154_code (1 : Nat) (Option.some Jvm.ClassFile.FieldType.boolean)) ∈ lw_tbl := tm_2 _ (List.mem_of_getElem? (i := 219) (by decide +kernel))
theorem tw_2_220 : (Jvm.Cond.methodLink "java/lang/String" (495 : Nat) ({ cls := "java/lang/StringLatin1", name := "charAt", desc := "([BI)C" } : Jvm.MethodName)) ∈ lw_tbl := tm_2 _ (List.mem_of_getElem? (i := 220) (by decide +kernel))
theorem tw_2_221 : (Jvm.Cond.static ({ cls := "java/lang/StringLatin1", name := "charAt", desc := "([BI)C" } : Jvm.MethodName)) ∈ lw_tbl := tm_2 _ (List.mem_of_getElem? (i := 221) (by decide +kernel))
theorem tw_2_222 : (Jvm.Cond.code ({ cls := "java/lang/StringLatin1", name := "charAt", desc := "([BI)C" } : Jvm.MethodName) prog_14_method_2_code (2 : Nat) (Option.some Jvm.ClassFile.FieldType.char)) ∈ lw_tbl := tm_2 _ (List.mem_of_getElem? (i := 222) (by decide +kernel))
theorem tw_2_223 : (Jvm.Cond.methodLink "java/lang/StringLatin1" (9 : Nat) ({ cls := "java/lang/String", name := "checkIndex", desc := "(II)V" } : Jvm.MethodName)) ∈ lw_tbl := tm_2 _ (List.mem_of_getElem? (i := 223) (by decide +kernel))
theorem tw_2_224 : (Jvm.Cond.static ({ cls := "java/lang/String", name := "checkIndex", desc := "(II)V" } : Jvm.MethodName)) ∈ lw_tbl := tm_2 _ (List.mem_of_getElem? (i := 224) (by decide +kernel))
theorem tw_2_225 : (Jvm.Cond.code ({ cls := "java/lang/String", name := "checkIndex", desc := "(II)V" } : Jvm.MethodName) prog_13_method_155_code (2 : Nat) (Option.none : Option Jvm.ClassFile.FieldType)) ∈ lw_tbl := tm_2 _ (List.mem_of_getElem? (i := 225) (by decide +kernel))
theorem tw_2_226 : (Jvm.Cond.fieldLink "java/lang/String" (1053 : Nat) "jdk/internal/util/Preconditions" "SIOOBE_FORMATTER" "Ljava/util/function/BiFunction;") ∈ lw_tbl := tm_2 _ (List.mem_of_getElem? (i := 226) (by decide +kernel))
theorem tw_2_227 : (Jvm.Cond.laysStatic "jdk/internal/util/Preconditions" "SIOOBE_FORMATTER" "Ljava/util/function/BiFunction;") ∈ lw_tbl := tm_2 _ (List.mem_of_getElem? (i := 227) (by decide +kernel))
theorem tw_2_228 : (Jvm.Cond.methodLink "java/lang/String" (1059 : Nat) ({ cls := "jdk/internal/util/Preconditions", name := "checkIndex", desc := "(IILjava/util/function/BiFunction;)I" } : Jvm.MethodName)) ∈ lw_tbl := tm_2 _ (List.mem_of_getElem? (i := 228) (by decide +kernel))
theorem tw_2_229 : (Jvm.Cond.static ({ cls := "jdk/internal/util/Preconditions", name := "checkIndex", desc := "(IILjava/util/function/BiFunction;)I" } : Jvm.MethodName)) ∈ lw_tbl := tm_2 _ (List.mem_of_getElem? (i := 229) (by decide +kernel))
theorem tw_2_230 : (Jvm.Cond.code ({ cls := "jdk/internal/util/Preconditions", name := "checkIndex", desc := "(IILjava/util/function/BiFunction;)I" } : Jvm.MethodName) prog_18_method_11_code (3 : Nat) (Option.some Jvm.ClassFile.FieldType.int)) ∈ lw_tbl := tm_2 _ (List.mem_of_getElem? (i := 230) (by decide +kernel))
theorem tw_2_231 : (Jvm.Cond.methodLink "java/lang/String" (498 : Nat) ({ cls := "java/lang/StringUTF16", name := "charAt", desc := "([BI)C" } : Jvm.MethodName)) ∈ lw_tbl := tm_2 _ (List.mem_of_getElem? (i := 231) (by decide +kernel))
theorem tw_2_232 : (Jvm.Cond.static ({ cls := "java/lang/StringUTF16", name := "charAt", desc := "([BI)C" } : Jvm.MethodName)) ∈ lw_tbl := tm_2 _ (List.mem_of_getElem? (i := 232) (by decide +kernel))
theorem tw_2_233 : (Jvm.Cond.code ({ cls := "java/lang/StringUTF16", name := "charAt", desc := "([BI)C" } : Jvm.MethodName) prog_15_method_83_code (2 : Nat) (Option.some Jvm.ClassFile.FieldType.char)) ∈ lw_tbl := tm_2 _ (List.mem_of_getElem? (i := 233) (by decide +kernel))
theorem tw_2_234 : (Jvm.Cond.methodLink "java/lang/StringUTF16" (67 : Nat) ({ cls := "java/lang/StringUTF16", name := "checkIndex", desc := "(I[B)V" } : Jvm.MethodName)) ∈ lw_tbl := tm_2 _ (List.mem_of_getElem? (i := 234) (by decide +kernel))
theorem tw_2_235 : (Jvm.Cond.static ({ cls := "java/lang/StringUTF16", name := "checkIndex", desc := "(I[B)V" } : Jvm.MethodName)) ∈ lw_tbl := tm_2 _ (List.mem_of_getElem? (i := 235) (by decide +kernel))
theorem tw_2_236 : (Jvm.Cond.code ({ cls := "java/lang/StringUTF16", name := "checkIndex", desc := "(I[B)V" } : Jvm.MethodName) prog_15_method_91_code (2 : Nat) (Option.none : Option Jvm.ClassFile.FieldType)) ∈ lw_tbl := tm_2 _ (List.mem_of_getElem? (i := 236) (by decide +kernel))
theorem tw_2_237 : (Jvm.Cond.methodLink "java/lang/StringUTF16" (48 : Nat) ({ cls := "java/lang/StringUTF16", name := "length", desc := "([B)I" } : Jvm.MethodName)) ∈ lw_tbl := tm_2 _ (List.mem_of_getElem? (i := 237) (by decide +kernel))
theorem tw_2_238 : (Jvm.Cond.static ({ cls := "java/lang/StringUTF16", name := "length", desc := "([B)I" } : Jvm.MethodName)) ∈ lw_tbl := tm_2 _ (List.mem_of_getElem? (i := 238) (by decide +kernel))
theorem tw_2_239 : (Jvm.Cond.code ({ cls := "java/lang/StringUTF16", name := "length", desc := "([B)I" } : Jvm.MethodName) prog_15_method_6_code (1 : Nat) (Option.some Jvm.ClassFile.FieldType.int)) ∈ lw_tbl := tm_2 _ (List.mem_of_getElem? (i := 239) (by decide +kernel))
theorem tw_3_0 : (Jvm.Cond.methodLink "java/lang/StringUTF16" (414 : Nat) ({ cls := "java/lang/String", name := "checkIndex", desc := "(II)V" } : Jvm.MethodName)) ∈ lw_tbl := tm_3 _ (List.mem_of_getElem? (i := 0) (by decide +kernel))
theorem tw_3_1 : (Jvm.Cond.methodLink "java/lang/StringUTF16" (71 : Nat) ({ cls := "java/lang/StringUTF16", name := "getChar", desc := "([BI)C" } : Jvm.MethodName)) ∈ lw_tbl := tm_3 _ (List.mem_of_getElem? (i := 1) (by decide +kernel))
theorem tw_3_2 : (Jvm.Cond.static ({ cls := "java/lang/StringUTF16", name := "getChar", desc := "([BI)C" } : Jvm.MethodName)) ∈ lw_tbl := tm_3 _ (List.mem_of_getElem? (i := 2) (by decide +kernel))
theorem tw_3_3 : (Jvm.Cond.code ({ cls := "java/lang/StringUTF16", name := "getChar", desc := "([BI)C" } : Jvm.MethodName) prog_15_method_5_code (2 : Nat) (Option.some Jvm.ClassFile.FieldType.char)) ∈ lw_tbl := tm_3 _ (List.mem_of_getElem? (i := 3) (by decide +kernel))
theorem tw_3_4 : (Jvm.Cond.fieldLink "java/lang/StringUTF16" (44 : Nat) "java/lang/StringUTF16" "$assertionsDisabled" "Z") ∈ lw_tbl := tm_3 _ (List.mem_of_getElem? (i := 4) (by decide +kernel))
theorem tw_3_5 : (Jvm.Cond.laysStatic "java/lang/StringUTF16" "$assertionsDisabled" "Z") ∈ lw_tbl := tm_3 _ (List.mem_of_getElem? (i := 5) (by decide +kernel))
theorem tw_3_6 : (Jvm.Cond.fieldLink "java/lang/StringUTF16" (59 : Nat) "java/lang/StringUTF16" "HI_BYTE_SHIFT" "I") ∈ lw_tbl := tm_3 _ (List.mem_of_getElem? (i := 6) (by decide +kernel))
theorem tw_3_7 : (Jvm.Cond.laysStatic "java/lang/StringUTF16" "HI_BYTE_SHIFT" "I") ∈ lw_tbl := tm_3 _ (List.mem_of_getElem? (i := 7) (by decide +kernel))
theorem tw_3_8 : (Jvm.Cond.fieldLink "java/lang/StringUTF16" (63 : Nat) "java/lang/StringUTF16" "LO_BYTE_SHIFT" "I") ∈ lw_tbl := tm_3 _ (List.mem_of_getElem? (i := 8) (by decide +kernel))
theorem tw_3_9 : (Jvm.Cond.laysStatic "java/lang/StringUTF16" "LO_BYTE_SHIFT" "I") ∈ lw_tbl := tm_3 _ (List.mem_of_getElem? (i := 9) (by decide +kernel))
theorem tw_3_10 : (Jvm.Cond.methodLink "SheetReader$FormText" (97 : Nat) ({ cls := "SheetReader$FormText", name := "refuse", desc := "(I)Z" } : Jvm.MethodName)) ∈ lw_tbl := tm_3 _ (List.mem_of_getElem? (i := 10) (by decide +kernel))
theorem tw_3_12 : (Jvm.Cond.instanceMethod ({ cls := "SheetReader$FormText", name := "refuse", desc := "(I)Z" } : Jvm.MethodName)) ∈ lw_tbl := tm_3 _ (List.mem_of_getElem? (i := 12) (by decide +kernel))
theorem tw_3_13 : (Jvm.Cond.code ({ cls := "SheetReader$FormText", name := "refuse", desc := "(I)Z" } : Jvm.MethodName) prog_4_method_15_code (2 : Nat) (Option.some Jvm.ClassFile.FieldType.boolean)) ∈ lw_tbl := tm_3 _ (List.mem_of_getElem? (i := 13) (by decide +kernel))
theorem tw_3_14 : (Jvm.Cond.methodLink "SheetReader$FormText" (62 : Nat) ({ cls := "SheetReader$FormText", name := "takeNumber", desc := "(II)Z" } : Jvm.MethodName)) ∈ lw_tbl := tm_3 _ (List.mem_of_getElem? (i := 14) (by decide +kernel))
theorem tw_3_16 : (Jvm.Cond.instanceMethod ({ cls := "SheetReader$FormText", name := "takeNumber", desc := "(II)Z" } : Jvm.MethodName)) ∈ lw_tbl := tm_3 _ (List.mem_of_getElem? (i := 16) (by decide +kernel))
theorem tw_3_17 : (Jvm.Cond.code ({ cls := "SheetReader$FormText", name := "takeNumber", desc := "(II)Z" } : Jvm.MethodName) prog_4_method_11_code (3 : Nat) (Option.some Jvm.ClassFile.FieldType.boolean)) ∈ lw_tbl := tm_3 _ (List.mem_of_getElem? (i := 17) (by decide +kernel))
theorem tw_3_18 : (Jvm.Cond.methodLink "SheetReader$FormText" (117 : Nat) ({ cls := "SheetReader$FormText", name := "isNumber", desc := "(II)Z" } : Jvm.MethodName)) ∈ lw_tbl := tm_3 _ (List.mem_of_getElem? (i := 18) (by decide +kernel))
theorem tw_3_20 : (Jvm.Cond.instanceMethod ({ cls := "SheetReader$FormText", name := "isNumber", desc := "(II)Z" } : Jvm.MethodName)) ∈ lw_tbl := tm_3 _ (List.mem_of_getElem? (i := 20) (by decide +kernel))
theorem tw_3_21 : (Jvm.Cond.code ({ cls := "SheetReader$FormText", name := "isNumber", desc := "(II)Z" } : Jvm.MethodName) prog_4_method_12_code (3 : Nat) (Option.some Jvm.ClassFile.FieldType.boolean)) ∈ lw_tbl := tm_3 _ (List.mem_of_getElem? (i := 21) (by decide +kernel))
theorem tw_3_22 : (Jvm.Cond.methodLink "SheetReader$FormText" (75 : Nat) ({ cls := "SheetReader$FormText", name := "takeSign", desc := "(I)Z" } : Jvm.MethodName)) ∈ lw_tbl := tm_3 _ (List.mem_of_getElem? (i := 22) (by decide +kernel))
theorem tw_3_24 : (Jvm.Cond.instanceMethod ({ cls := "SheetReader$FormText", name := "takeSign", desc := "(I)Z" } : Jvm.MethodName)) ∈ lw_tbl := tm_3 _ (List.mem_of_getElem? (i := 24) (by decide +kernel))
theorem tw_3_25 : (Jvm.Cond.code ({ cls := "SheetReader$FormText", name := "takeSign", desc := "(I)Z" } : Jvm.MethodName) prog_4_method_10_code (2 : Nat) (Option.some Jvm.ClassFile.FieldType.boolean)) ∈ lw_tbl := tm_3 _ (List.mem_of_getElem? (i := 25) (by decide +kernel))
theorem tw_3_26 : (Jvm.Cond.stringRef "SheetReader$FormText" (79 : Nat) "box") ∈ lw_tbl := tm_3 _ (List.mem_of_getElem? (i := 26) (by decide +kernel))
theorem tw_3_27 : (Jvm.Cond.methodLink "SheetReader$FormText" (49 : Nat) ({ cls := "SheetReader$FormText", name := "readQuestions", desc := "(LSheetReader$Form;)Z" } : Jvm.MethodName)) ∈ lw_tbl := tm_3 _ (List.mem_of_getElem? (i := 27) (by decide +kernel))
theorem tw_3_29 : (Jvm.Cond.instanceMethod ({ cls := "SheetReader$FormText", name := "readQuestions", desc := "(LSheetReader$Form;)Z" } : Jvm.MethodName)) ∈ lw_tbl := tm_3 _ (List.mem_of_getElem? (i := 29) (by decide +kernel))
theorem tw_3_30 : (Jvm.Cond.code ({ cls := "SheetReader$FormText", name := "readQuestions", desc := "(LSheetReader$Form;)Z" } : Jvm.MethodName) prog_4_method_4_code (4 : Nat) (Option.some Jvm.ClassFile.FieldType.boolean)) ∈ lw_tbl := tm_3 _ (List.mem_of_getElem? (i := 30) (by decide +kernel))
theorem tw_3_31 : (Jvm.Cond.stringRef "SheetReader$FormText" (90 : Nat) "many") ∈ lw_tbl := tm_3 _ (List.mem_of_getElem? (i := 31) (by decide +kernel))
theorem tw_3_32 : (Jvm.Cond.stringRef "SheetReader$FormText" (95 : Nat) "one") ∈ lw_tbl := tm_3 _ (List.mem_of_getElem? (i := 32) (by decide +kernel))
theorem tw_3_33 : (Jvm.Cond.methodLink "SheetReader$FormText" (100 : Nat) ({ cls := "SheetReader$Form", name := "addQuestion", desc := "(Z)V" } : Jvm.MethodName)) ∈ lw_tbl := tm_3 _ (List.mem_of_getElem? (i := 33) (by decide +kernel))
theorem tw_3_34 : (Jvm.Cond.instanceMethod ({ cls := "SheetReader$Form", name := "addQuestion", desc := "(Z)V" } : Jvm.MethodName)) ∈ lw_tbl := tm_3 _ (List.mem_of_getElem? (i := 34) (by decide +kernel))
theorem tw_3_35 : (Jvm.Cond.selects "SheetReader$Form" ({ cls := "SheetReader$Form", name := "addQuestion", desc := "(Z)V" } : Jvm.MethodName) ({ cls := "SheetReader$Form", name := "addQuestion", desc := "(Z)V" } : Jvm.MethodName)) ∈ lw_tbl := tm_3 _ (List.mem_of_getElem? (i := 35) (by decide +kernel))
theorem tw_3_36 : (Jvm.Cond.code ({ cls := "SheetReader$Form", name := "addQuestion", desc := "(Z)V" } : Jvm.MethodName) prog_3_method_5_code (2 : Nat) (Option.none : Option Jvm.ClassFile.FieldType)) ∈ lw_tbl := tm_3 _ (List.mem_of_getElem? (i := 36) (by decide +kernel))
theorem tw_3_37 : (Jvm.Cond.methodLink "SheetReader$FormText" (104 : Nat) ({ cls := "SheetReader$FormText", name := "readPlaces", desc := "(LSheetReader$Form;)Z" } : Jvm.MethodName)) ∈ lw_tbl := tm_3 _ (List.mem_of_getElem? (i := 37) (by decide +kernel))
theorem tw_3_39 : (Jvm.Cond.instanceMethod ({ cls := "SheetReader$FormText", name := "readPlaces", desc := "(LSheetReader$Form;)Z" } : Jvm.MethodName)) ∈ lw_tbl := tm_3 _ (List.mem_of_getElem? (i := 39) (by decide +kernel))
theorem tw_3_40 : (Jvm.Cond.code ({ cls := "SheetReader$FormText", name := "readPlaces", desc := "(LSheetReader$Form;)Z" } : Jvm.MethodName) prog_4_method_5_code (3 : Nat) (Option.some Jvm.ClassFile.FieldType.boolean)) ∈ lw_tbl := tm_3 _ (List.mem_of_getElem? (i := 40) (by decide +kernel))
theorem tw_3_41 : (Jvm.Cond.methodLink "SheetReader$FormText" (114 : Nat) ({ cls := "SheetReader$FormText", name := "readPlace", desc := "(LSheetReader$Form;I)Z" } : Jvm.MethodName)) ∈ lw_tbl := tm_3 _ (List.mem_of_getElem? (i := 41) (by decide +kernel))
theorem tw_3_43 : (Jvm.Cond.instanceMethod ({ cls := "SheetReader$FormText", name := "readPlace", desc := "(LSheetReader$Form;I)Z" } : Jvm.MethodName)) ∈ lw_tbl := tm_3 _ (List.mem_of_getElem? (i := 43) (by decide +kernel))
theorem tw_3_44 : (Jvm.Cond.code ({ cls := "SheetReader$FormText", name := "readPlace", desc := "(LSheetReader$Form;I)Z" } : Jvm.MethodName) prog_4_method_6_code (4 : Nat) (Option.some Jvm.ClassFile.FieldType.boolean)) ∈ lw_tbl := tm_3 _ (List.mem_of_getElem? (i := 44) (by decide +kernel))
theorem tw_3_45 : (Jvm.Cond.methodLink "SheetReader$FormText" (123 : Nat) ({ cls := "SheetReader$Form", name := "isCovered", desc := "(II)Z" } : Jvm.MethodName)) ∈ lw_tbl := tm_3 _ (List.mem_of_getElem? (i := 45) (by decide +kernel))
theorem tw_3_46 : (Jvm.Cond.instanceMethod ({ cls := "SheetReader$Form", name := "isCovered", desc := "(II)Z" } : Jvm.MethodName)) ∈ lw_tbl := tm_3 _ (List.mem_of_getElem? (i := 46) (by decide +kernel))
theorem tw_3_47 : (Jvm.Cond.selects "SheetReader$Form" ({ cls := "SheetReader$Form", name := "isCovered", desc := "(II)Z" } : Jvm.MethodName) ({ cls := "SheetReader$Form", name := "isCovered", desc := "(II)Z" } : Jvm.MethodName)) ∈ lw_tbl := tm_3 _ (List.mem_of_getElem? (i := 47) (by decide +kernel))
theorem tw_3_48 : (Jvm.Cond.code ({ cls := "SheetReader$Form", name := "isCovered", desc := "(II)Z" } : Jvm.MethodName) prog_3_method_7_code (4 : Nat) (Option.some Jvm.ClassFile.FieldType.boolean)) ∈ lw_tbl := tm_3 _ (List.mem_of_getElem? (i := 48) (by decide +kernel))
theorem tw_3_49 : (Jvm.Cond.methodLink "SheetReader$Form" (61 : Nat) ({ cls := "java/lang/Math", name := "abs", desc := "(I)I" } : Jvm.MethodName)) ∈ lw_tbl := tm_3 _ (List.mem_of_getElem? (i := 49) (by decide +kernel))
theorem tw_3_50 : (Jvm.Cond.static ({ cls := "java/lang/Math", name := "abs", desc := "(I)I" } : Jvm.MethodName)) ∈ lw_tbl := tm_3 _ (List.mem_of_getElem? (i := 50) (by decide +kernel))
theorem tw_3_51 : (Jvm.Cond.code ({ cls := "java/lang/Math", name := "abs", desc := "(I)I" } : Jvm.MethodName) prog_12_method_59_code (1 : Nat) (Option.some Jvm.ClassFile.FieldType.int)) ∈ lw_tbl := tm_3 _ (List.mem_of_getElem? (i := 51) (by decide +kernel))
theorem tw_3_52 : (Jvm.Cond.methodLink "SheetReader$FormText" (126 : Nat) ({ cls := "SheetReader$Form", name := "addBox", desc := "(II)V" } : Jvm.MethodName)) ∈ lw_tbl := tm_3 _ (List.mem_of_getElem? (i := 52) (by decide +kernel))
theorem tw_3_53 : (Jvm.Cond.instanceMethod ({ cls := "SheetReader$Form", name := "addBox", desc := "(II)V" } : Jvm.MethodName)) ∈ lw_tbl := tm_3 _ (List.mem_of_getElem? (i := 53) (by decide +kernel))
theorem tw_3_54 : (Jvm.Cond.selects "SheetReader$Form" ({ cls := "SheetReader$Form", name := "addBox", desc := "(II)V" } : Jvm.MethodName) ({ cls := "SheetReader$Form", name := "addBox", desc := "(II)V" } : Jvm.MethodName)) ∈ lw_tbl := tm_3 _ (List.mem_of_getElem? (i := 54) (by decide +kernel))
theorem tw_3_55 : (Jvm.Cond.code ({ cls := "SheetReader$Form", name := "addBox", desc := "(II)V" } : Jvm.MethodName) prog_3_method_6_code (3 : Nat) (Option.none : Option Jvm.ClassFile.FieldType)) ∈ lw_tbl := tm_3 _ (List.mem_of_getElem? (i := 55) (by decide +kernel))
theorem tw_3_56 : (Jvm.Cond.methodLink "SheetReader$FormText" (107 : Nat) ({ cls := "SheetReader$FormText", name := "readKey", desc := "(LSheetReader$Form;I)Z" } : Jvm.MethodName)) ∈ lw_tbl := tm_3 _ (List.mem_of_getElem? (i := 56) (by decide +kernel))
theorem tw_3_58 : (Jvm.Cond.instanceMethod ({ cls := "SheetReader$FormText", name := "readKey", desc := "(LSheetReader$Form;I)Z" } : Jvm.MethodName)) ∈ lw_tbl := tm_3 _ (List.mem_of_getElem? (i := 58) (by decide +kernel))
theorem tw_3_59 : (Jvm.Cond.code ({ cls := "SheetReader$FormText", name := "readKey", desc := "(LSheetReader$Form;I)Z" } : Jvm.MethodName) prog_4_method_7_code (5 : Nat) (Option.some Jvm.ClassFile.FieldType.boolean)) ∈ lw_tbl := tm_3 _ (List.mem_of_getElem? (i := 59) (by decide +kernel))
theorem tw_3_60 : (Jvm.Cond.stringRef "SheetReader$FormText" (130 : Nat) "key") ∈ lw_tbl := tm_3 _ (List.mem_of_getElem? (i := 60) (by decide +kernel))
theorem tw_3_61 : (Jvm.Cond.methodLink "SheetReader$FormText" (132 : Nat) ({ cls := "SheetReader$FormText", name := "isLetter", desc := "()Z" } : Jvm.MethodName)) ∈ lw_tbl := tm_3 _ (List.mem_of_getElem? (i := 61) (by decide +kernel))
theorem tw_3_63 : (Jvm.Cond.instanceMethod ({ cls := "SheetReader$FormText", name := "isLetter", desc := "()Z" } : Jvm.MethodName)) ∈ lw_tbl := tm_3 _ (List.mem_of_getElem? (i := 63) (by decide +kernel))
theorem tw_3_64 : (Jvm.Cond.code ({ cls := "SheetReader$FormText", name := "isLetter", desc := "()Z" } : Jvm.MethodName) prog_4_method_14_code (1 : Nat) (Option.some Jvm.ClassFile.FieldType.boolean)) ∈ lw_tbl := tm_3 _ (List.mem_of_getElem? (i := 64) (by decide +kernel))
theorem tw_3_65 : (Jvm.Cond.methodLink "SheetReader$FormText" (111 : Nat) ({ cls := "SheetReader$FormText", name := "readWorth", desc := "(LSheetReader$Form;I)Z" } : Jvm.MethodName)) ∈ lw_tbl := tm_3 _ (List.mem_of_getElem? (i := 65) (by decide +kernel))
theorem tw_3_67 : (Jvm.Cond.instanceMethod ({ cls := "SheetReader$FormText", name := "readWorth", desc := "(LSheetReader$Form;I)Z" } : Jvm.MethodName)) ∈ lw_tbl := tm_3 _ (List.mem_of_getElem? (i := 67) (by decide +kernel))
theorem tw_3_68 : (Jvm.Cond.code ({ cls := "SheetReader$FormText", name := "readWorth", desc := "(LSheetReader$Form;I)Z" } : Jvm.MethodName) prog_4_method_8_code (3 : Nat) (Option.some Jvm.ClassFile.FieldType.boolean)) ∈ lw_tbl := tm_3 _ (List.mem_of_getElem? (i := 68) (by decide +kernel))
theorem tw_3_69 : (Jvm.Cond.stringRef "SheetReader$FormText" (145 : Nat) "worth") ∈ lw_tbl := tm_3 _ (List.mem_of_getElem? (i := 69) (by decide +kernel))
theorem tw_3_70 : (Jvm.Cond.methodLink "SheetReader" (88 : Nat) ({ cls := "java/util/Arrays", name := "fill", desc := "([II)V" } : Jvm.MethodName)) ∈ lw_tbl := tm_3 _ (List.mem_of_getElem? (i := 70) (by decide +kernel))
theorem tw_3_71 : (Jvm.Cond.methodLink "SheetReaderLaw" (23 : Nat) ({ cls := "SheetReader", name := "count", desc := "(I)I" } : Jvm.MethodName)) ∈ lw_tbl := tm_3 _ (List.mem_of_getElem? (i := 71) (by decide +kernel))
theorem tw_3_72 : (Jvm.Cond.instanceMethod ({ cls := "SheetReader", name := "count", desc := "(I)I" } : Jvm.MethodName)) ∈ lw_tbl := tm_3 _ (List.mem_of_getElem? (i := 72) (by decide +kernel))
theorem tw_3_73 : (Jvm.Cond.selects "SheetReader" ({ cls := "SheetReader", name := "count", desc := "(I)I" } : Jvm.MethodName) ({ cls := "SheetReader", name := "count", desc := "(I)I" } : Jvm.MethodName)) ∈ lw_tbl := tm_3 _ (List.mem_of_getElem? (i := 73) (by decide +kernel))
theorem tw_3_74 : (Jvm.Cond.code ({ cls := "SheetReader", name := "count", desc := "(I)I" } : Jvm.MethodName) prog_1_method_4_code (2 : Nat) (Option.some Jvm.ClassFile.FieldType.int)) ∈ lw_tbl := tm_3 _ (List.mem_of_getElem? (i := 74) (by decide +kernel))
theorem tw_3_75 : (Jvm.Cond.methodLink "SheetReader" (114 : Nat) ({ cls := "SheetReader$Scan", name := "notBelow", desc := "(I)I" } : Jvm.MethodName)) ∈ lw_tbl := tm_3 _ (List.mem_of_getElem? (i := 75) (by decide +kernel))
theorem tw_3_76 : (Jvm.Cond.instanceMethod ({ cls := "SheetReader$Scan", name := "notBelow", desc := "(I)I" } : Jvm.MethodName)) ∈ lw_tbl := tm_3 _ (List.mem_of_getElem? (i := 76) (by decide +kernel))
theorem tw_3_77 : (Jvm.Cond.selects "SheetReader$Scan" ({ cls := "SheetReader$Scan", name := "notBelow", desc := "(I)I" } : Jvm.MethodName) ({ cls := "SheetReader$Scan", name := "notBelow", desc := "(I)I" } : Jvm.MethodName)) ∈ lw_tbl := tm_3 _ (List.mem_of_getElem? (i := 77) (by decide +kernel))
theorem tw_3_78 : (Jvm.Cond.code ({ cls := "SheetReader$Scan", name := "notBelow", desc := "(I)I" } : Jvm.MethodName) prog_8_method_10_code (4 : Nat) (Option.some Jvm.ClassFile.FieldType.int)) ∈ lw_tbl := tm_3 _ (List.mem_of_getElem? (i := 78) (by decide +kernel))
theorem tw_3_79 : (Jvm.Cond.methodLink "SheetReader" (118 : Nat) ({ cls := "SheetReader$Scan", name := "sumNotBelow", desc := "(I)I" } : Jvm.MethodName)) ∈ lw_tbl := tm_3 _ (List.mem_of_getElem? (i := 79) (by decide +kernel))
theorem tw_3_80 : (Jvm.Cond.instanceMethod ({ cls := "SheetReader$Scan", name := "sumNotBelow", desc := "(I)I" } : Jvm.MethodName)) ∈ lw_tbl := tm_3 _ (List.mem_of_getElem? (i := 80) (by decide +kernel))
theorem tw_3_81 : (Jvm.Cond.selects "SheetReader$Scan" ({ cls := "SheetReader$Scan", name := "sumNotBelow", desc := "(I)I" } : Jvm.MethodName) ({ cls := "SheetReader$Scan", name := "sumNotBelow", desc := "(I)I" } : Jvm.MethodName)) ∈ lw_tbl := tm_3 _ (List.mem_of_getElem? (i := 81) (by decide +kernel))
theorem tw_3_82 : (Jvm.Cond.code ({ cls := "SheetReader$Scan", name := "sumNotBelow", desc := "(I)I" } : Jvm.MethodName) prog_8_method_11_code (4 : Nat) (Option.some Jvm.ClassFile.FieldType.int)) ∈ lw_tbl := tm_3 _ (List.mem_of_getElem? (i := 82) (by decide +kernel))
theorem tw_3_83 : (Jvm.Cond.methodLink "SheetReaderLaw" (27 : Nat) ({ cls := "SheetReader", name := "question", desc := "(II)I" } : Jvm.MethodName)) ∈ lw_tbl := tm_3 _ (List.mem_of_getElem? (i := 83) (by decide +kernel))
theorem tw_3_84 : (Jvm.Cond.instanceMethod ({ cls := "SheetReader", name := "question", desc := "(II)I" } : Jvm.MethodName)) ∈ lw_tbl := tm_3 _ (List.mem_of_getElem? (i := 84) (by decide +kernel))
theorem tw_3_85 : (Jvm.Cond.selects "SheetReader" ({ cls := "SheetReader", name := "question", desc := "(II)I" } : Jvm.MethodName) ({ cls := "SheetReader", name := "question", desc := "(II)I" } : Jvm.MethodName)) ∈ lw_tbl := tm_3 _ (List.mem_of_getElem? (i := 85) (by decide +kernel))
theorem tw_3_86 : (Jvm.Cond.code ({ cls := "SheetReader", name := "question", desc := "(II)I" } : Jvm.MethodName) prog_1_method_5_code (3 : Nat) (Option.some Jvm.ClassFile.FieldType.int)) ∈ lw_tbl := tm_3 _ (List.mem_of_getElem? (i := 86) (by decide +kernel))
theorem tw_3_87 : (Jvm.Cond.methodLink "SheetReader" (121 : Nat) ({ cls := "SheetReader$Form", name := "hasQuestion", desc := "(I)Z" } : Jvm.MethodName)) ∈ lw_tbl := tm_3 _ (List.mem_of_getElem? (i := 87) (by decide +kernel))
theorem tw_3_88 : (Jvm.Cond.instanceMethod ({ cls := "SheetReader$Form", name := "hasQuestion", desc := "(I)Z" } : Jvm.MethodName)) ∈ lw_tbl := tm_3 _ (List.mem_of_getElem? (i := 88) (by decide +kernel))
theorem tw_3_89 : (Jvm.Cond.selects "SheetReader$Form" ({ cls := "SheetReader$Form", name := "hasQuestion", desc := "(I)Z" } : Jvm.MethodName) ({ cls := "SheetReader$Form", name := "hasQuestion", desc := "(I)Z" } : Jvm.MethodName)) ∈ lw_tbl := tm_3 _ (List.mem_of_getElem? (i := 89) (by decide +kernel))
theorem tw_3_90 : (Jvm.Cond.code ({ cls := "SheetReader$Form", name := "hasQuestion", desc := "(I)Z" } : Jvm.MethodName) prog_3_method_3_code (2 : Nat) (Option.some Jvm.ClassFile.FieldType.boolean)) ∈ lw_tbl := tm_3 _ (List.mem_of_getElem? (i := 90) (by decide +kernel))
theorem tw_3_91 : (Jvm.Cond.methodLink "SheetReader" (138 : Nat) ({ cls := "SheetReader$Form", name := "hasBox", desc := "(II)Z" } : Jvm.MethodName)) ∈ lw_tbl := tm_3 _ (List.mem_of_getElem? (i := 91) (by decide +kernel))
theorem tw_3_92 : (Jvm.Cond.instanceMethod ({ cls := "SheetReader$Form", name := "hasBox", desc := "(II)Z" } : Jvm.MethodName)) ∈ lw_tbl := tm_3 _ (List.mem_of_getElem? (i := 92) (by decide +kernel))
theorem tw_3_93 : (Jvm.Cond.selects "SheetReader$Form" ({ cls := "SheetReader$Form", name := "hasBox", desc := "(II)Z" } : Jvm.MethodName) ({ cls := "SheetReader$Form", name := "hasBox", desc := "(II)Z" } : Jvm.MethodName)) ∈ lw_tbl := tm_3 _ (List.mem_of_getElem? (i := 93) (by decide +kernel))
theorem tw_3_94 : (Jvm.Cond.code ({ cls := "SheetReader$Form", name := "hasBox", desc := "(II)Z" } : Jvm.MethodName) prog_3_method_4_code (3 : Nat) (Option.some Jvm.ClassFile.FieldType.boolean)) ∈ lw_tbl := tm_3 _ (List.mem_of_getElem? (i := 94) (by decide +kernel))
theorem tw_3_95 : (Jvm.Cond.methodLink "SheetReader$Form" (57 : Nat) ({ cls := "SheetReader$Form", name := "hasQuestion", desc := "(I)Z" } : Jvm.MethodName)) ∈ lw_tbl := tm_3 _ (List.mem_of_getElem? (i := 95) (by decide +kernel))
theorem tw_3_96 : (Jvm.Cond.methodLink "SheetReaderLaw" (32 : Nat) ({ cls := "SheetReader", name := "set", desc := "(II)I" } : Jvm.MethodName)) ∈ lw_tbl := tm_3 _ (List.mem_of_getElem? (i := 96) (by decide +kernel))
theorem tw_3_97 : (Jvm.Cond.instanceMethod ({ cls := "SheetReader", name := "set", desc := "(II)I" } : Jvm.MethodName)) ∈ lw_tbl := tm_3 _ (List.mem_of_getElem? (i := 97) (by decide +kernel))
theorem tw_3_98 : (Jvm.Cond.selects "SheetReader" ({ cls := "SheetReader", name := "set", desc := "(II)I" } : Jvm.MethodName) ({ cls := "SheetReader", name := "set", desc := "(II)I" } : Jvm.MethodName)) ∈ lw_tbl := tm_3 _ (List.mem_of_getElem? (i := 98) (by decide +kernel))
theorem tw_3_99 : (Jvm.Cond.code ({ cls := "SheetReader", name := "set", desc := "(II)I" } : Jvm.MethodName) prog_1_method_6_code (4 : Nat) (Option.some Jvm.ClassFile.FieldType.int)) ∈ lw_tbl := tm_3 _ (List.mem_of_getElem? (i := 99) (by decide +kernel))
theorem tw_3_100 : (Jvm.Cond.fieldLink "SheetReader" (151 : Nat) "SheetReader" "SETTING_LEAST" "[I") ∈ lw_tbl := tm_3 _ (List.mem_of_getElem? (i := 100) (by decide +kernel))
theorem tw_3_101 : (Jvm.Cond.laysStatic "SheetReader" "SETTING_LEAST" "[I") ∈ lw_tbl := tm_3 _ (List.mem_of_getElem? (i := 101) (by decide +kernel))
theorem tw_3_102 : (Jvm.Cond.fieldLink "SheetReader" (154 : Nat) "SheetReader" "SETTING_MOST" "[I") ∈ lw_tbl := tm_3 _ (List.mem_of_getElem? (i := 102) (by decide +kernel))
theorem tw_3_103 : (Jvm.Cond.laysStatic "SheetReader" "SETTING_MOST" "[I") ∈ lw_tbl := tm_3 _ (List.mem_of_getElem? (i := 103) (by decide +kernel))
theorem tw_3_104 : (Jvm.Cond.methodLink "SheetReaderLaw" (36 : Nat) ({ cls := "SheetReader", name := "blank", desc := "(II)Z" } : Jvm.MethodName)) ∈ lw_tbl := tm_3 _ (List.mem_of_getElem? (i := 104) (by decide +kernel))
theorem tw_3_105 : (Jvm.Cond.instanceMethod ({ cls := "SheetReader", name := "blank", desc := "(II)Z" } : Jvm.MethodName)) ∈ lw_tbl := tm_3 _ (List.mem_of_getElem? (i := 105) (by decide +kernel))
theorem tw_3_106 : (Jvm.Cond.selects "SheetReader" ({ cls := "SheetReader", name := "blank", desc := "(II)Z" } : Jvm.MethodName) ({ cls := "SheetReader", name := "blank", desc := "(II)Z" } : Jvm.MethodName)) ∈ lw_tbl := tm_3 _ (List.mem_of_getElem? (i := 106) (by decide +kernel))
theorem tw_3_107 : (Jvm.Cond.code ({ cls := "SheetReader", name := "blank", desc := "(II)Z" } : Jvm.MethodName) prog_1_method_7_code (3 : Nat) (Option.some Jvm.ClassFile.FieldType.boolean)) ∈ lw_tbl := tm_3 _ (List.mem_of_getElem? (i := 107) (by decide +kernel))
theorem tw_3_108 : (Jvm.Cond.methodLink "SheetReaderLaw" (41 : Nat) ({ cls := "SheetReader", name := "row", desc := "(I)Z" } : Jvm.MethodName)) ∈ lw_tbl := tm_3 _ (List.mem_of_getElem? (i := 108) (by decide +kernel))
theorem tw_3_109 : (Jvm.Cond.instanceMethod ({ cls := "SheetReader", name := "row", desc := "(I)Z" } : Jvm.MethodName)) ∈ lw_tbl := tm_3 _ (List.mem_of_getElem? (i := 109) (by decide +kernel))
theorem tw_3_110 : (Jvm.Cond.selects "SheetReader" ({ cls := "SheetReader", name := "row", desc := "(I)Z" } : Jvm.MethodName) ({ cls := "SheetReader", name := "row", desc := "(I)Z" } : Jvm.MethodName)) ∈ lw_tbl := tm_3 _ (List.mem_of_getElem? (i := 110) (by decide +kernel))
theorem tw_3_111 : (Jvm.Cond.code ({ cls := "SheetReader", name := "row", desc := "(I)Z" } : Jvm.MethodName) prog_1_method_8_code (4 : Nat) (Option.some Jvm.ClassFile.FieldType.boolean)) ∈ lw_tbl := tm_3 _ (List.mem_of_getElem? (i := 111) (by decide +kernel))
theorem tw_3_112 : (Jvm.Cond.methodLink "SheetReader" (157 : Nat) ({ cls := "SheetReader$Scan", name := "put", desc := "(III)Z" } : Jvm.MethodName)) ∈ lw_tbl := tm_3 _ (List.mem_of_getElem? (i := 112) (by decide +kernel))
theorem tw_3_113 : (Jvm.Cond.instanceMethod ({ cls := "SheetReader$Scan", name := "put", desc := "(III)Z" } : Jvm.MethodName)) ∈ lw_tbl := tm_3 _ (List.mem_of_getElem? (i := 113) (by decide +kernel))
theorem tw_3_114 : (Jvm.Cond.selects "SheetReader$Scan" ({ cls := "SheetReader$Scan", name := "put", desc := "(III)Z" } : Jvm.MethodName) ({ cls := "SheetReader$Scan", name := "put", desc := "(III)Z" } : Jvm.MethodName)) ∈ lw_tbl := tm_3 _ (List.mem_of_getElem? (i := 114) (by decide +kernel))
theorem tw_3_115 : (Jvm.Cond.code ({ cls := "SheetReader$Scan", name := "put", desc := "(III)Z" } : Jvm.MethodName) prog_8_method_7_code (6 : Nat) (Option.some Jvm.ClassFile.FieldType.boolean)) ∈ lw_tbl := tm_3 _ (List.mem_of_getElem? (i := 115) (by decide +kernel))
theorem tw_3_116 : (Jvm.Cond.methodLink "SheetReader$Scan" (31 : Nat) ({ cls := "SheetReader$Scan", name := "has", desc := "(II)Z" } : Jvm.MethodName)) ∈ lw_tbl := tm_3 _ (List.mem_of_getElem? (i := 116) (by decide +kernel))
theorem tw_3_117 : (Jvm.Cond.instanceMethod ({ cls := "SheetReader$Scan", name := "has", desc := "(II)Z" } : Jvm.MethodName)) ∈ lw_tbl := tm_3 _ (List.mem_of_getElem? (i := 117) (by decide +kernel))
theorem tw_3_118 : (Jvm.Cond.selects "SheetReader$Scan" ({ cls := "SheetReader$Scan", name := "has", desc := "(II)Z" } : Jvm.MethodName) ({ cls := "SheetReader$Scan", name := "has", desc := "(II)Z" } : Jvm.MethodName)) ∈ lw_tbl := tm_3 _ (List.mem_of_getElem? (i := 118) (by decide +kernel))
theorem tw_3_119 : (Jvm.Cond.code ({ cls := "SheetReader$Scan", name := "has", desc := "(II)Z" } : Jvm.MethodName) prog_8_method_5_code (3 : Nat) (Option.some Jvm.ClassFile.FieldType.boolean)) ∈ lw_tbl := tm_3 _ (List.mem_of_getElem? (i := 119) (by decide +kernel))
theorem tw_3_120 : (Jvm.Cond.methodLink "SheetReaderLaw" (46 : Nat) ({ cls := "SheetReader", name := "fill", desc := "(IIIII)I" } : Jvm.MethodName)) ∈ lw_tbl := tm_3 _ (List.mem_of_getElem? (i := 120) (by decide +kernel))
theorem tw_3_121 : (Jvm.Cond.instanceMethod ({ cls := "SheetReader", name := "fill", desc := "(IIIII)I" } : Jvm.MethodName)) ∈ lw_tbl := tm_3 _ (List.mem_of_getElem? (i := 121) (by decide +kernel))
theorem tw_3_122 : (Jvm.Cond.selects "SheetReader" ({ cls := "SheetReader", name := "fill", desc := "(IIIII)I" } : Jvm.MethodName) ({ cls := "SheetReader", name := "fill", desc := "(IIIII)I" } : Jvm.MethodName)) ∈ lw_tbl := tm_3 _ (List.mem_of_getElem? (i := 122) (by decide +kernel))
theorem tw_3_123 : (Jvm.Cond.code ({ cls := "SheetReader", name := "fill", desc := "(IIIII)I" } : Jvm.MethodName) prog_1_method_9_code (10 : Nat) (Option.some Jvm.ClassFile.FieldType.int)) ∈ lw_tbl := tm_3 _ (List.mem_of_getElem? (i := 123) (by decide +kernel))
theorem tw_3_124 : (Jvm.Cond.methodLink "SheetReader" (161 : Nat) ({ cls := "SheetReader", name := "isPiece", desc := "(II)Z" } : Jvm.MethodName)) ∈ lw_tbl := tm_3 _ (List.mem_of_getElem? (i := 124) (by decide +kernel))
theorem tw_3_125 : (Jvm.Cond.static ({ cls := "SheetReader", name := "isPiece", desc := "(II)Z" } : Jvm.MethodName)) ∈ lw_tbl := tm_3 _ (List.mem_of_getElem? (i := 125) (by decide +kernel))
theorem tw_3_126 : (Jvm.Cond.code ({ cls := "SheetReader", name := "isPiece", desc := "(II)Z" } : Jvm.MethodName) prog_1_method_46_code (2 : Nat) (Option.some Jvm.ClassFile.FieldType.boolean)) ∈ lw_tbl := tm_3 _ (List.mem_of_getElem? (i := 126) (by decide +kernel))
theorem tw_3_127 : (Jvm.Cond.methodLink "SheetReader" (164 : Nat) ({ cls := "SheetReader$Scan", name := "has", desc := "(II)Z" } : Jvm.MethodName)) ∈ lw_tbl := tm_3 _ (List.mem_of_getElem? (i := 127) (by decide +kernel))
theorem tw_3_128 : (Jvm.Cond.methodLink "SheetReader" (167 : Nat) ({ cls := "java/lang/Math", name := "min", desc := "(II)I" } : Jvm.MethodName)) ∈ lw_tbl := tm_3 _ (List.mem_of_getElem? (i := 128) (by decide +kernel))
theorem tw_3_129 : (Jvm.Cond.methodLink "SheetReaderLaw" (50 : Nat) ({ cls := "SheetReader", name := "dot", desc := "(II)I" } : Jvm.MethodName)) ∈ lw_tbl := tm_3 _ (List.mem_of_getElem? (i := 129) (by decide +kernel))
theorem tw_3_130 : (Jvm.Cond.instanceMethod ({ cls := "SheetReader", name := "dot", desc := "(II)I" } : Jvm.MethodName)) ∈ lw_tbl := tm_3 _ (List.mem_of_getElem? (i := 130) (by decide +kernel))
theorem tw_3_131 : (Jvm.Cond.selects "SheetReader" ({ cls := "SheetReader", name := "dot", desc := "(II)I" } : Jvm.MethodName) ({ cls := "SheetReader", name := "dot", desc := "(II)I" } : Jvm.MethodName)) ∈ lw_tbl := tm_3 _ (List.mem_of_getElem? (i := 131) (by decide +kernel))
theorem tw_3_132 : (Jvm.Cond.code ({ cls := "SheetReader", name := "dot", desc := "(II)I" } : Jvm.MethodName) prog_1_method_10_code (3 : Nat) (Option.some Jvm.ClassFile.FieldType.int)) ∈ lw_tbl := tm_3 _ (List.mem_of_getElem? (i := 132) (by decide +kernel))
theorem tw_3_133 : (Jvm.Cond.methodLink "SheetReader" (173 : Nat) ({ cls := "SheetReader$Scan", name := "at", desc := "(II)I" } : Jvm.MethodName)) ∈ lw_tbl := tm_3 _ (List.mem_of_getElem? (i := 133) (by decide +kernel))
theorem tw_3_134 : (Jvm.Cond.instanceMethod ({ cls := "SheetReader$Scan", name := "at", desc := "(II)I" } : Jvm.MethodName)) ∈ lw_tbl := tm_3 _ (List.mem_of_getElem? (i := 134) (by decide +kernel))
theorem tw_3_135 : (Jvm.Cond.selects "SheetReader$Scan" ({ cls := "SheetReader$Scan", name := "at", desc := "(II)I" } : Jvm.MethodName) ({ cls := "SheetReader$Scan", name := "at", desc := "(II)I" } : Jvm.MethodName)) ∈ lw_tbl := tm_3 _ (List.mem_of_getElem? (i := 135) (by decide +kernel))
theorem tw_3_136 : (Jvm.Cond.code ({ cls := "SheetReader$Scan", name := "at", desc := "(II)I" } : Jvm.MethodName) prog_8_method_6_code (3 : Nat) (Option.some Jvm.ClassFile.FieldType.int)) ∈ lw_tbl := tm_3 _ (List.mem_of_getElem? (i := 136) (by decide +kernel))
theorem tw_3_137 : (Jvm.Cond.methodLink "SheetReaderLaw" (54 : Nat) ({ cls := "SheetReader", name := "noise", desc := "(I)I" } : Jvm.MethodName)) ∈ lw_tbl := tm_3 _ (List.mem_of_getElem? (i := 137) (by decide +kernel))
theorem tw_3_138 : (Jvm.Cond.instanceMethod ({ cls := "SheetReader", name := "noise", desc := "(I)I" } : Jvm.MethodName)) ∈ lw_tbl := tm_3 _ (List.mem_of_getElem? (i := 138) (by decide +kernel))
theorem tw_3_139 : (Jvm.Cond.selects "SheetReader" ({ cls := "SheetReader", name := "noise", desc := "(I)I" } : Jvm.MethodName) ({ cls := "SheetReader", name := "noise", desc := "(I)I" } : Jvm.MethodName)) ∈ lw_tbl := tm_3 _ (List.mem_of_getElem? (i := 139) (by decide +kernel))
theorem tw_3_140 : (Jvm.Cond.code ({ cls := "SheetReader", name := "noise", desc := "(I)I" } : Jvm.MethodName) prog_1_method_11_code (8 : Nat) (Option.some Jvm.ClassFile.FieldType.int)) ∈ lw_tbl := tm_3 _ (List.mem_of_getElem? (i := 140) (by decide +kernel))
theorem tw_3_141 : (Jvm.Cond.methodLink "SheetReader" (176 : Nat) ({ cls := "SheetReader", name := "drawBelow", desc := "(I)I" } : Jvm.MethodName)) ∈ lw_tbl := tm_3 _ (List.mem_of_getElem? (i := 141) (by decide +kernel))
theorem tw_3_143 : (Jvm.Cond.instanceMethod ({ cls := "SheetReader", name := "drawBelow", desc := "(I)I" } : Jvm.MethodName)) ∈ lw_tbl := tm_3 _ (List.mem_of_getElem? (i := 143) (by decide +kernel))
theorem tw_3_144 : (Jvm.Cond.code ({ cls := "SheetReader", name := "drawBelow", desc := "(I)I" } : Jvm.MethodName) prog_1_method_47_code (2 : Nat) (Option.some Jvm.ClassFile.FieldType.int)) ∈ lw_tbl := tm_3 _ (List.mem_of_getElem? (i := 144) (by decide +kernel))
theorem tw_3_145 : (Jvm.Cond.constant "SheetReader" (182 : Nat) (65535 : Int32)) ∈ lw_tbl := tm_3 _ (List.mem_of_getElem? (i := 145) (by decide +kernel))
theorem tw_3_146 : (Jvm.Cond.methodLink "SheetReader" (179 : Nat) ({ cls := "java/lang/Math", name := "max", desc := "(II)I" } : Jvm.MethodName)) ∈ lw_tbl := tm_3 _ (List.mem_of_getElem? (i := 146) (by decide +kernel))
theorem tw_3_147 : (Jvm.Cond.static ({ cls := "java/lang/Math", name := "max", desc := "(II)I" } : Jvm.MethodName)) ∈ lw_tbl := tm_3 _ (List.mem_of_getElem? (i := 147) (by decide +kernel))
theorem tw_3_148 : (Jvm.Cond.code ({ cls := "java/lang/Math", name := "max", desc := "(II)I" } : Jvm.MethodName) prog_12_method_65_code (2 : Nat) (Option.some Jvm.ClassFile.FieldType.int)) ∈ lw_tbl := tm_3 _ (List.mem_of_getElem? (i := 148) (by decide +kernel))
theorem tw_3_149 : (Jvm.Cond.methodLink "SheetReaderLaw" (58 : Nat) ({ cls := "SheetReader", name := "seed", desc := "(I)I" } : Jvm.MethodName)) ∈ lw_tbl := tm_3 _ (List.mem_of_getElem? (i := 149) (by decide +kernel))
theorem tw_3_150 : (Jvm.Cond.instanceMethod ({ cls := "SheetReader", name := "seed", desc := "(I)I" } : Jvm.MethodName)) ∈ lw_tbl := tm_3 _ (List.mem_of_getElem? (i := 150) (by decide +kernel))
theorem tw_3_151 : (Jvm.Cond.selects "SheetReader" ({ cls := "SheetReader", name := "seed", desc := "(I)I" } : Jvm.MethodName) ({ cls := "SheetReader", name := "seed", desc := "(I)I" } : Jvm.MethodName)) ∈ lw_tbl := tm_3 _ (List.mem_of_getElem? (i := 151) (by decide +kernel))
theorem tw_3_152 : (Jvm.Cond.code ({ cls := "SheetReader", name := "seed", desc := "(I)I" } : Jvm.MethodName) prog_1_method_12_code (3 : Nat) (Option.some Jvm.ClassFile.FieldType.int)) ∈ lw_tbl := tm_3 _ (List.mem_of_getElem? (i := 152) (by decide +kernel))
theorem tw_3_153 : (Jvm.Cond.methodLink "SheetReaderLaw" (62 : Nat) ({ cls := "SheetReader", name := "turn", desc := "(I)I" } : Jvm.MethodName)) ∈ lw_tbl := tm_3 _ (List.mem_of_getElem? (i := 153) (by decide +kernel))
theorem tw_3_154 : (Jvm.Cond.instanceMethod ({ cls := "SheetReader", name := "turn", desc := "(I)I" } : Jvm.MethodName)) ∈ lw_tbl := tm_3 _ (List.mem_of_getElem? (i := 154) (by decide +kernel))
theorem tw_3_155 : (Jvm.Cond.selects "SheetReader" ({ cls := "SheetReader", name := "turn", desc := "(I)I" } : Jvm.MethodName) ({ cls := "SheetReader", name := "turn", desc := "(I)I" } : Jvm.MethodName)) ∈ lw_tbl := tm_3 _ (List.mem_of_getElem? (i := 155) (by decide +kernel))
theorem tw_3_156 : (Jvm.Cond.code ({ cls := "SheetReader", name := "turn", desc := "(I)I" } : Jvm.MethodName) prog_1_method_13_code (2 : Nat) (Option.some Jvm.ClassFile.FieldType.int)) ∈ lw_tbl := tm_3 _ (List.mem_of_getElem? (i := 156) (by decide +kernel))
theorem tw_3_157 : (Jvm.Cond.methodLink "SheetReader" (183 : Nat) ({ cls := "SheetReader$Scan", name := "takeTurned", desc := "(LSheetReader$Scan;I)V" } : Jvm.MethodName)) ∈ lw_tbl := tm_3 _ (List.mem_of_getElem? (i := 157) (by decide +kernel))
theorem tw_3_158 : (Jvm.Cond.instanceMethod ({ cls := "SheetReader$Scan", name := "takeTurned", desc := "(LSheetReader$Scan;I)V" } : Jvm.MethodName)) ∈ lw_tbl := tm_3 _ (List.mem_of_getElem? (i := 158) (by decide +kernel))
theorem tw_3_159 : (Jvm.Cond.selects "SheetReader$Scan" ({ cls := "SheetReader$Scan", name := "takeTurned", desc := "(LSheetReader$Scan;I)V" } : Jvm.MethodName) ({ cls := "SheetReader$Scan", name := "takeTurned", desc := "(LSheetReader$Scan;I)V" } : Jvm.MethodName)) ∈ lw_tbl := tm_3 _ (List.mem_of_getElem? (i := 159) (by decide +kernel))
theorem tw_3_160 : (Jvm.Cond.code ({ cls := "SheetReader$Scan", name := "takeTurned", desc := "(LSheetReader$Scan;I)V" } : Jvm.MethodName) prog_8_method_14_code (8 : Nat) (Option.none : Option Jvm.ClassFile.FieldType)) ∈ lw_tbl := tm_3 _ (List.mem_of_getElem? (i := 160) (by decide +kernel))
theorem tw_3_161 : (Jvm.Cond.methodLink "SheetReader$Scan" (45 : Nat) ({ cls := "SheetReader$Scan", name := "at", desc := "(II)I" } : Jvm.MethodName)) ∈ lw_tbl := tm_3 _ (List.mem_of_getElem? (i := 161) (by decide +kernel))
theorem tw_3_162 : (Jvm.Cond.methodLink "SheetReader$Scan" (35 : Nat) ({ cls := "SheetReader$Scan", name := "put", desc := "(III)Z" } : Jvm.MethodName)) ∈ lw_tbl := tm_3 _ (List.mem_of_getElem? (i := 162) (by decide +kernel))
theorem tw_3_163 : (Jvm.Cond.methodLink "SheetReader" (187 : Nat) ({ cls := "SheetReader", name := "swapScans", desc := "()V" } : Jvm.MethodName)) ∈ lw_tbl := tm_3 _ (List.mem_of_getElem? (i := 163) (by decide +kernel))
theorem tw_3_165 : (Jvm.Cond.instanceMethod ({ cls := "SheetReader", name := "swapScans", desc := "()V" } : Jvm.MethodName)) ∈ lw_tbl := tm_3 _ (List.mem_of_getElem? (i := 165) (by decide +kernel))
theorem tw_3_166 : (Jvm.Cond.code ({ cls := "SheetReader", name := "swapScans", desc := "()V" } : Jvm.MethodName) prog_1_method_48_code (2 : Nat) (Option.none : Option Jvm.ClassFile.FieldType)) ∈ lw_tbl := tm_3 _ (List.mem_of_getElem? (i := 166) (by decide +kernel))
theorem tw_3_167 : (Jvm.Cond.methodLink "SheetReaderLaw" (66 : Nat) ({ cls := "SheetReader", name := "copy", desc := "(IIIIII)I" } : Jvm.MethodName)) ∈ lw_tbl := tm_3 _ (List.mem_of_getElem? (i := 167) (by decide +kernel))
theorem tw_3_168 : (Jvm.Cond.instanceMethod ({ cls := "SheetReader", name := "copy", desc := "(IIIIII)I" } : Jvm.MethodName)) ∈ lw_tbl := tm_3 _ (List.mem_of_getElem? (i := 168) (by decide +kernel))
theorem tw_3_169 : (Jvm.Cond.selects "SheetReader" ({ cls := "SheetReader", name := "copy", desc := "(IIIIII)I" } : Jvm.MethodName) ({ cls := "SheetReader", name := "copy", desc := "(IIIIII)I" } : Jvm.MethodName)) ∈ lw_tbl := tm_3 _ (List.mem_of_getElem? (i := 169) (by decide +kernel))
theorem tw_3_170 : (Jvm.Cond.code ({ cls := "SheetReader", name := "copy", desc := "(IIIIII)I" } : Jvm.MethodName) prog_1_method_14_code (11 : Nat) (Option.some Jvm.ClassFile.FieldType.int)) ∈ lw_tbl := tm_3 _ (List.mem_of_getElem? (i := 170) (by decide +kernel))
theorem tw_3_171 : (Jvm.Cond.methodLink "SheetReader" (190 : Nat) ({ cls := "SheetReader$Scan", name := "takeAll", desc := "(LSheetReader$Scan;)V" } : Jvm.MethodName)) ∈ lw_tbl := tm_3 _ (List.mem_of_getElem? (i := 171) (by decide +kernel))
theorem tw_3_172 : (Jvm.Cond.instanceMethod ({ cls := "SheetReader$Scan", name := "takeAll", desc := "(LSheetReader$Scan;)V" } : Jvm.MethodName)) ∈ lw_tbl := tm_3 _ (List.mem_of_getElem? (i := 172) (by decide +kernel))
theorem tw_3_173 : (Jvm.Cond.selects "SheetReader$Scan" ({ cls := "SheetReader$Scan", name := "takeAll", desc := "(LSheetReader$Scan;)V" } : Jvm.MethodName) ({ cls := "SheetReader$Scan", name := "takeAll", desc := "(LSheetReader$Scan;)V" } : Jvm.MethodName)) ∈ lw_tbl := tm_3 _ (List.mem_of_getElem? (i := 173) (by decide +kernel))
theorem tw_3_174 : (Jvm.Cond.code ({ cls := "SheetReader$Scan", name := "takeAll", desc := "(LSheetReader$Scan;)V" } : Jvm.MethodName) prog_8_method_13_code (2 : Nat) (Option.none : Option Jvm.ClassFile.FieldType)) ∈ lw_tbl := tm_3 _ (List.mem_of_getElem? (i := 174) (by decide +kernel))
theorem tw_3_175 : (Jvm.Cond.methodLink "SheetReader$Scan" (39 : Nat) ({ cls := "java/lang/System", name := "arraycopy", desc := "(Ljava/lang/Object;ILjava/lang/Object;II)V" } : Jvm.MethodName)) ∈ lw_tbl := tm_3 _ (List.mem_of_getElem? (i := 175) (by decide +kernel))
theorem tw_3_176 : (Jvm.Cond.methodLink "SheetReader" (194 : Nat) ({ cls := "SheetReader", name := "takeSpare", desc := "()I" } : Jvm.MethodName)) ∈ lw_tbl := tm_3 _ (List.mem_of_getElem? (i := 176) (by decide +kernel))
theorem tw_3_178 : (Jvm.Cond.instanceMethod ({ cls := "SheetReader", name := "takeSpare", desc := "()I" } : Jvm.MethodName)) ∈ lw_tbl := tm_3 _ (List.mem_of_getElem? (i := 178) (by decide +kernel))
theorem tw_3_179 : (Jvm.Cond.code ({ cls := "SheetReader", name := "takeSpare", desc := "()I" } : Jvm.MethodName) prog_1_method_49_code (2 : Nat) (Option.some Jvm.ClassFile.FieldType.int)) ∈ lw_tbl := tm_3 _ (List.mem_of_getElem? (i := 179) (by decide +kernel))
theorem tw_3_180 : (Jvm.Cond.methodLink "SheetReader" (406 : Nat) ({ cls := "SheetReader$Scan", name := "unlikeDots", desc := "(LSheetReader$Scan;)I" } : Jvm.MethodName)) ∈ lw_tbl := tm_3 _ (List.mem_of_getElem? (i := 180) (by decide +kernel))
theorem tw_3_181 : (Jvm.Cond.instanceMethod ({ cls := "SheetReader$Scan", name := "unlikeDots", desc := "(LSheetReader$Scan;)I" } : Jvm.MethodName)) ∈ lw_tbl := tm_3 _ (List.mem_of_getElem? (i := 181) (by decide +kernel))
theorem tw_3_182 : (Jvm.Cond.selects "SheetReader$Scan" ({ cls := "SheetReader$Scan", name := "unlikeDots", desc := "(LSheetReader$Scan;)I" } : Jvm.MethodName) ({ cls := "SheetReader$Scan", name := "unlikeDots", desc := "(LSheetReader$Scan;)I" } : Jvm.MethodName)) ∈ lw_tbl := tm_3 _ (List.mem_of_getElem? (i := 182) (by decide +kernel))
theorem tw_3_183 : (Jvm.Cond.code ({ cls := "SheetReader$Scan", name := "unlikeDots", desc := "(LSheetReader$Scan;)I" } : Jvm.MethodName) prog_8_method_12_code (4 : Nat) (Option.some Jvm.ClassFile.FieldType.int)) ∈ lw_tbl := tm_3 _ (List.mem_of_getElem? (i := 183) (by decide +kernel))
theorem tw_3_184 : (Jvm.Cond.methodLink "SheetReaderLaw" (71 : Nat) ({ cls := "SheetReader", name := "shift", desc := "(II)I" } : Jvm.MethodName)) ∈ lw_tbl := tm_3 _ (List.mem_of_getElem? (i := 184) (by decide +kernel))
theorem tw_3_185 : (Jvm.Cond.instanceMethod ({ cls := "SheetReader", name := "shift", desc := "(II)I" } : Jvm.MethodName)) ∈ lw_tbl := tm_3 _ (List.mem_of_getElem? (i := 185) (by decide +kernel))
theorem tw_3_186 : (Jvm.Cond.selects "SheetReader" ({ cls := "SheetReader", name := "shift", desc := "(II)I" } : Jvm.MethodName) ({ cls := "SheetReader", name := "shift", desc := "(II)I" } : Jvm.MethodName)) ∈ lw_tbl := tm_3 _ (List.mem_of_getElem? (i := 186) (by decide +kernel))
theorem tw_3_187 : (Jvm.Cond.code ({ cls := "SheetReader", name := "shift", desc := "(II)I" } : Jvm.MethodName) prog_1_method_15_code (3 : Nat) (Option.some Jvm.ClassFile.FieldType.int)) ∈ lw_tbl := tm_3 _ (List.mem_of_getElem? (i := 187) (by decide +kernel))
theorem tw_3_188 : (Jvm.Cond.methodLink "SheetReader" (198 : Nat) ({ cls := "SheetReader$Scan", name := "takeShifted", desc := "(LSheetReader$Scan;II)V" } : Jvm.MethodName)) ∈ lw_tbl := tm_3 _ (List.mem_of_getElem? (i := 188) (by decide +kernel))
theorem tw_3_189 : (Jvm.Cond.instanceMethod ({ cls := "SheetReader$Scan", name := "takeShifted", desc := "(LSheetReader$Scan;II)V" } : Jvm.MethodName)) ∈ lw_tbl := tm_3 _ (List.mem_of_getElem? (i := 189) (by decide +kernel))
theorem tw_3_190 : (Jvm.Cond.selects "SheetReader$Scan" ({ cls := "SheetReader$Scan", name := "takeShifted", desc := "(LSheetReader$Scan;II)V" } : Jvm.MethodName) ({ cls := "SheetReader$Scan", name := "takeShifted", desc := "(LSheetReader$Scan;II)V" } : Jvm.MethodName)) ∈ lw_tbl := tm_3 _ (List.mem_of_getElem? (i := 190) (by decide +kernel))
theorem tw_3_191 : (Jvm.Cond.code ({ cls := "SheetReader$Scan", name := "takeShifted", desc := "(LSheetReader$Scan;II)V" } : Jvm.MethodName) prog_8_method_15_code (6 : Nat) (Option.none : Option Jvm.ClassFile.FieldType)) ∈ lw_tbl := tm_3 _ (List.mem_of_getElem? (i := 191) (by decide +kernel))
theorem tw_3_192 : (Jvm.Cond.methodLink "SheetReaderLaw" (75 : Nat) ({ cls := "SheetReader", name := "stretch", desc := "()I" } : Jvm.MethodName)) ∈ lw_tbl := tm_3 _ (List.mem_of_getElem? (i := 192) (by decide +kernel))
theorem tw_3_193 : (Jvm.Cond.instanceMethod ({ cls := "SheetReader", name := "stretch", desc := "()I" } : Jvm.MethodName)) ∈ lw_tbl := tm_3 _ (List.mem_of_getElem? (i := 193) (by decide +kernel))
theorem tw_3_194 : (Jvm.Cond.selects "SheetReader" ({ cls := "SheetReader", name := "stretch", desc := "()I" } : Jvm.MethodName) ({ cls := "SheetReader", name := "stretch", desc := "()I" } : Jvm.MethodName)) ∈ lw_tbl := tm_3 _ (List.mem_of_getElem? (i := 194) (by decide +kernel))
theorem tw_3_195 : (Jvm.Cond.code ({ cls := "SheetReader", name := "stretch", desc := "()I" } : Jvm.MethodName) prog_1_method_16_code (1 : Nat) (Option.some Jvm.ClassFile.FieldType.int)) ∈ lw_tbl := tm_3 _ (List.mem_of_getElem? (i := 195) (by decide +kernel))
theorem tw_3_196 : (Jvm.Cond.methodLink "SheetReader" (202 : Nat) ({ cls := "SheetReader$Scan", name := "takeStretched", desc := "(LSheetReader$Scan;)V" } : Jvm.MethodName)) ∈ lw_tbl := tm_3 _ (List.mem_of_getElem? (i := 196) (by decide +kernel))
theorem tw_3_197 : (Jvm.Cond.instanceMethod ({ cls := "SheetReader$Scan", name := "takeStretched", desc := "(LSheetReader$Scan;)V" } : Jvm.MethodName)) ∈ lw_tbl := tm_3 _ (List.mem_of_getElem? (i := 197) (by decide +kernel))
theorem tw_3_198 : (Jvm.Cond.selects "SheetReader$Scan" ({ cls := "SheetReader$Scan", name := "takeStretched", desc := "(LSheetReader$Scan;)V" } : Jvm.MethodName) ({ cls := "SheetReader$Scan", name := "takeStretched", desc := "(LSheetReader$Scan;)V" } : Jvm.MethodName)) ∈ lw_tbl := tm_3 _ (List.mem_of_getElem? (i := 198) (by decide +kernel))
theorem tw_3_199 : (Jvm.Cond.code ({ cls := "SheetReader$Scan", name := "takeStretched", desc := "(LSheetReader$Scan;)V" } : Jvm.MethodName) prog_8_method_16_code (6 : Nat) (Option.none : Option Jvm.ClassFile.FieldType)) ∈ lw_tbl := tm_3 _ (List.mem_of_getElem? (i := 199) (by decide +kernel))
theorem tw_3_200 : (Jvm.Cond.methodLink "SheetReader$Scan" (49 : Nat) ({ cls := "SheetReader$Scan", name := "takeAll", desc := "(LSheetReader$Scan;)V" } : Jvm.MethodName)) ∈ lw_tbl := tm_3 _ (List.mem_of_getElem? (i := 200) (by decide +kernel))
theorem tw_3_201 : (Jvm.Cond.methodLink "SheetReader$Scan" (53 : Nat) ({ cls := "java/lang/Math", name := "min", desc := "(II)I" } : Jvm.MethodName)) ∈ lw_tbl := tm_3 _ (List.mem_of_getElem? (i := 201) (by decide +kernel))
theorem tw_3_202 : (Jvm.Cond.methodLink "SheetReader$Scan" (58 : Nat) ({ cls := "java/lang/Math", name := "max", desc := "(II)I" } : Jvm.MethodName)) ∈ lw_tbl := tm_3 _ (List.mem_of_getElem? (i := 202) (by decide +kernel))
theorem tw_3_203 : (Jvm.Cond.methodLink "SheetReaderLaw" (80 : Nat) ({ cls := "SheetReader", name := "clean", desc := "()I" } : Jvm.MethodName)) ∈ lw_tbl := tm_3 _ (List.mem_of_getElem? (i := 203) (by decide +kernel))
theorem tw_3_204 : (Jvm.Cond.instanceMethod ({ cls := "SheetReader", name := "clean", desc := "()I" } : Jvm.MethodName)) ∈ lw_tbl := tm_3 _ (List.mem_of_getElem? (i := 204) (by decide +kernel))
theorem tw_3_205 : (Jvm.Cond.selects "SheetReader" ({ cls := "SheetReader", name := "clean", desc := "()I" } : Jvm.MethodName) ({ cls := "SheetReader", name := "clean", desc := "()I" } : Jvm.MethodName)) ∈ lw_tbl := tm_3 _ (List.mem_of_getElem? (i := 205) (by decide +kernel))
theorem tw_3_206 : (Jvm.Cond.code ({ cls := "SheetReader", name := "clean", desc := "()I" } : Jvm.MethodName) prog_1_method_17_code (1 : Nat) (Option.some Jvm.ClassFile.FieldType.int)) ∈ lw_tbl := tm_3 _ (List.mem_of_getElem? (i := 206) (by decide +kernel))
theorem tw_3_207 : (Jvm.Cond.methodLink "SheetReader" (209 : Nat) ({ cls := "SheetReader$Blobs", name := "wipeSpecks", desc := "(LSheetReader$Scan;II)I" } : Jvm.MethodName)) ∈ lw_tbl := tm_3 _ (List.mem_of_getElem? (i := 207) (by decide +kernel))
theorem tw_3_208 : (Jvm.Cond.instanceMethod ({ cls := "SheetReader$Blobs", name := "wipeSpecks", desc := "(LSheetReader$Scan;II)I" } : Jvm.MethodName)) ∈ lw_tbl := tm_3 _ (List.mem_of_getElem? (i := 208) (by decide +kernel))
theorem tw_3_209 : (Jvm.Cond.selects "SheetReader$Blobs" ({ cls := "SheetReader$Blobs", name := "wipeSpecks", desc := "(LSheetReader$Scan;II)I" } : Jvm.MethodName) ({ cls := "SheetReader$Blobs", name := "wipeSpecks", desc := "(LSheetReader$Scan;II)I" } : Jvm.MethodName)) ∈ lw_tbl := tm_3 _ (List.mem_of_getElem? (i := 209) (by decide +kernel))
theorem tw_3_210 : (Jvm.Cond.code ({ cls := "SheetReader$Blobs", name := "wipeSpecks", desc := "(LSheetReader$Scan;II)I" } : Jvm.MethodName) prog_2_method_3_code (8 : Nat) (Option.some Jvm.ClassFile.FieldType.int)) ∈ lw_tbl := tm_3 _ (List.mem_of_getElem? (i := 210) (by decide +kernel))
theorem tw_3_211 : (Jvm.Cond.methodLink "SheetReader$Blobs" (47 : Nat) ({ cls := "java/util/Arrays", name := "fill", desc := "([BB)V" } : Jvm.MethodName)) ∈ lw_tbl := tm_3 _ (List.mem_of_getElem? (i := 211) (by decide +kernel))
theorem tw_3_212 : (Jvm.Cond.static ({ cls := "java/util/Arrays", name := "fill", desc := "([BB)V" } : Jvm.MethodName)) ∈ lw_tbl := tm_3 _ (List.mem_of_getElem? (i := 212) (by decide +kernel))
theorem tw_3_213 : (Jvm.Cond.code ({ cls := "java/util/Arrays", name := "fill", desc := "([BB)V" } : Jvm.MethodName) prog_17_method_109_code (4 : Nat) (Option.none : Option Jvm.ClassFile.FieldType)) ∈ lw_tbl := tm_3 _ (List.mem_of_getElem? (i := 213) (by decide +kernel))
theorem tw_3_214 : (Jvm.Cond.methodLink "SheetReader$Blobs" (53 : Nat) ({ cls := "SheetReader$Scan", name := "size", desc := "()I" } : Jvm.MethodName)) ∈ lw_tbl := tm_3 _ (List.mem_of_getElem? (i := 214) (by decide +kernel))
theorem tw_3_215 : (Jvm.Cond.instanceMethod ({ cls := "SheetReader$Scan", name := "size", desc := "()I" } : Jvm.MethodName)) ∈ lw_tbl := tm_3 _ (List.mem_of_getElem? (i := 215) (by decide +kernel))
theorem tw_3_216 : (Jvm.Cond.selects "SheetReader$Scan" ({ cls := "SheetReader$Scan", name := "size", desc := "()I" } : Jvm.MethodName) ({ cls := "SheetReader$Scan", name := "size", desc := "()I" } : Jvm.MethodName)) ∈ lw_tbl := tm_3 _ (List.mem_of_getElem? (i := 216) (by decide +kernel))
theorem tw_3_217 : (Jvm.Cond.code ({ cls := "SheetReader$Scan", name := "size", desc := "()I" } : Jvm.MethodName) prog_8_method_3_code (1 : Nat) (Option.some Jvm.ClassFile.FieldType.int)) ∈ lw_tbl := tm_3 _ (List.mem_of_getElem? (i := 217) (by decide +kernel))
theorem tw_3_218 : (Jvm.Cond.methodLink "SheetReader$Blobs" (59 : Nat) ({ cls := "SheetReader$Blobs", name := "gather", desc := "(LSheetReader$Scan;II)I" } : Jvm.MethodName)) ∈ lw_tbl := tm_3 _ (List.mem_of_getElem? (i := 218) (by decide +kernel))
theorem tw_3_220 : (Jvm.Cond.instanceMethod ({ cls := "SheetReader$Blobs", name := "gather", desc := "(LSheetReader$Scan;II)I" } : Jvm.MethodName)) ∈ lw_tbl := tm_3 _ (List.mem_of_getElem? (i := 220) (by decide +kernel))
theorem tw_3_221 : (Jvm.Cond.code ({ cls := "SheetReader$Blobs", name := "gather", desc := "(LSheetReader$Scan;II)I" } : Jvm.MethodName) prog_2_method_4_code (10 : Nat) (Option.some Jvm.ClassFile.FieldType.int)) ∈ lw_tbl := tm_3 _ (List.mem_of_getElem? (i := 221) (by decide +kernel))
theorem tw_3_222 : (Jvm.Cond.methodLink "SheetReader$Blobs" (73 : Nat) ({ cls := "SheetReader$Blobs", name := "join", desc := "(LSheetReader$Scan;III)I" } : Jvm.MethodName)) ∈ lw_tbl := tm_3 _ (List.mem_of_getElem? (i := 222) (by decide +kernel))
theorem tw_3_224 : (Jvm.Cond.instanceMethod ({ cls := "SheetReader$Blobs", name := "join", desc := "(LSheetReader$Scan;III)I" } : Jvm.MethodName)) ∈ lw_tbl := tm_3 _ (List.mem_of_getElem? (i := 224) (by decide +kernel))
theorem tw_3_225 : (Jvm.Cond.code ({ cls := "SheetReader$Blobs", name := "join", desc := "(LSheetReader$Scan;III)I" } : Jvm.MethodName) prog_2_method_5_code (5 : Nat) (Option.some Jvm.ClassFile.FieldType.int)) ∈ lw_tbl := tm_3 _ (List.mem_of_getElem? (i := 225) (by decide +kernel))
theorem tw_3_226 : (Jvm.Cond.methodLink "SheetReaderLaw" (84 : Nat) ({ cls := "SheetReader", name := "smooth", desc := "()I" } : Jvm.MethodName)) ∈ lw_tbl := tm_3 _ (List.mem_of_getElem? (i := 226) (by decide +kernel))
theorem tw_3_227 : (Jvm.Cond.instanceMethod ({ cls := "SheetReader", name := "smooth", desc := "()I" } : Jvm.MethodName)) ∈ lw_tbl := tm_3 _ (List.mem_of_getElem? (i := 227) (by decide +kernel))
theorem tw_3_228 : (Jvm.Cond.selects "SheetReader" ({ cls := "SheetReader", name := "smooth", desc := "()I" } : Jvm.MethodName) ({ cls := "SheetReader", name := "smooth", desc := "()I" } : Jvm.MethodName)) ∈ lw_tbl := tm_3 _ (List.mem_of_getElem? (i := 228) (by decide +kernel))
theorem tw_3_229 : (Jvm.Cond.code ({ cls := "SheetReader", name := "smooth", desc := "()I" } : Jvm.MethodName) prog_1_method_18_code (1 : Nat) (Option.some Jvm.ClassFile.FieldType.int)) ∈ lw_tbl := tm_3 _ (List.mem_of_getElem? (i := 229) (by decide +kernel))
theorem tw_3_230 : (Jvm.Cond.methodLink "SheetReader" (215 : Nat) ({ cls := "SheetReader$Scan", name := "takeSmoothed", desc := "(LSheetReader$Scan;)V" } : Jvm.MethodName)) ∈ lw_tbl := tm_3 _ (List.mem_of_getElem? (i := 230) (by decide +kernel))
theorem tw_3_231 : (Jvm.Cond.instanceMethod ({ cls := "SheetReader$Scan", name := "takeSmoothed", desc := "(LSheetReader$Scan;)V" } : Jvm.MethodName)) ∈ lw_tbl := tm_3 _ (List.mem_of_getElem? (i := 231) (by decide +kernel))
theorem tw_3_232 : (Jvm.Cond.selects "SheetReader$Scan" ({ cls := "SheetReader$Scan", name := "takeSmoothed", desc := "(LSheetReader$Scan;)V" } : Jvm.MethodName) ({ cls := "SheetReader$Scan", name := "takeSmoothed", desc := "(LSheetReader$Scan;)V" } : Jvm.MethodName)) ∈ lw_tbl := tm_3 _ (List.mem_of_getElem? (i := 232) (by decide +kernel))
theorem tw_3_233 : (Jvm.Cond.code ({ cls := "SheetReader$Scan", name := "takeSmoothed", desc := "(LSheetReader$Scan;)V" } : Jvm.MethodName) prog_8_method_17_code (4 : Nat) (Option.none : Option Jvm.ClassFile.FieldType)) ∈ lw_tbl := tm_3 _ (List.mem_of_getElem? (i := 233) (by decide +kernel))
theorem tw_3_234 : (Jvm.Cond.methodLink "SheetReader$Scan" (61 : Nat) ({ cls := "SheetReader$Scan", name := "middleRound", desc := "(II)I" } : Jvm.MethodName)) ∈ lw_tbl := tm_3 _ (List.mem_of_getElem? (i := 234) (by decide +kernel))
theorem tw_3_235 : (Jvm.Cond.instanceMethod ({ cls := "SheetReader$Scan", name := "middleRound", desc := "(II)I" } : Jvm.MethodName)) ∈ lw_tbl := tm_3 _ (List.mem_of_getElem? (i := 235) (by decide +kernel))
theorem tw_3_236 : (Jvm.Cond.selects "SheetReader$Scan" ({ cls := "SheetReader$Scan", name := "middleRound", desc := "(II)I" } : Jvm.MethodName) ({ cls := "SheetReader$Scan", name := "middleRound", desc := "(II)I" } : Jvm.MethodName)) ∈ lw_tbl := tm_3 _ (List.mem_of_getElem? (i := 236) (by decide +kernel))
theorem tw_3_237 : (Jvm.Cond.code ({ cls := "SheetReader$Scan", name := "middleRound", desc := "(II)I" } : Jvm.MethodName) prog_8_method_18_code (7 : Nat) (Option.some Jvm.ClassFile.FieldType.int)) ∈ lw_tbl := tm_3 _ (List.mem_of_getElem? (i := 237) (by decide +kernel))
theorem tw_3_238 : (Jvm.Cond.methodLink "SheetReaderLaw" (88 : Nat) ({ cls := "SheetReader", name := "keep", desc := "(I)Z" } : Jvm.MethodName)) ∈ lw_tbl := tm_3 _ (List.mem_of_getElem? (i := 238) (by decide +kernel))
theorem tw_3_239 : (Jvm.Cond.instanceMethod ({ cls := "SheetReader", name := "keep", desc := "(I)Z" } : Jvm.MethodName)) ∈ lw_tbl := tm_3 _ (List.mem_of_getElem? (i := 239) (by decide +kernel))
theorem tw_4_0 : (Jvm.Cond.selects "SheetReader" ({ cls := "SheetReader", name := "keep", desc := "(I)Z" } : Jvm.MethodName) ({ cls := "SheetReader", name := "keep", desc := "(I)Z" } : Jvm.MethodName)) ∈ lw_tbl := tm_4 _ (List.mem_of_getElem? (i := 0) (by decide +kernel))
theorem tw_4_1 : (Jvm.Cond.code ({ cls := "SheetReader", name := "keep", desc := "(I)Z" } : Jvm.MethodName) prog_1_method_19_code (2 : Nat) (Option.some Jvm.ClassFile.FieldType.boolean)) ∈ lw_tbl := tm_4 _ (List.mem_of_getElem? (i := 1) (by decide +kernel))
theorem tw_4_2 : (Jvm.Cond.methodLink "SheetReaderLaw" (92 : Nat) ({ cls := "SheetReader", name := "back", desc := "(I)Z" } : Jvm.MethodName)) ∈ lw_tbl := tm_4 _ (List.mem_of_getElem? (i := 2) (by decide +kernel))
theorem tw_4_3 : (Jvm.Cond.instanceMethod ({ cls := "SheetReader", name := "back", desc := "(I)Z" } : Jvm.MethodName)) ∈ lw_tbl := tm_4 _ (List.mem_of_getElem? (i := 3) (by decide +kernel))
theorem tw_4_4 : (Jvm.Cond.selects "SheetReader" ({ cls := "SheetReader", name := "back", desc := "(I)Z" } : Jvm.MethodName) ({ cls := "SheetReader", name := "back", desc := "(I)Z" } : Jvm.MethodName)) ∈ lw_tbl := tm_4 _ (List.mem_of_getElem? (i := 4) (by decide +kernel))
theorem tw_4_5 : (Jvm.Cond.code ({ cls := "SheetReader", name := "back", desc := "(I)Z" } : Jvm.MethodName) prog_1_method_20_code (2 : Nat) (Option.some Jvm.ClassFile.FieldType.boolean)) ∈ lw_tbl := tm_4 _ (List.mem_of_getElem? (i := 5) (by decide +kernel))
theorem tw_4_6 : (Jvm.Cond.methodLink "SheetReader" (218 : Nat) ({ cls := "SheetReader$Scan", name := "isNothing", desc := "()Z" } : Jvm.MethodName)) ∈ lw_tbl := tm_4 _ (List.mem_of_getElem? (i := 6) (by decide +kernel))
theorem tw_4_7 : (Jvm.Cond.instanceMethod ({ cls := "SheetReader$Scan", name := "isNothing", desc := "()Z" } : Jvm.MethodName)) ∈ lw_tbl := tm_4 _ (List.mem_of_getElem? (i := 7) (by decide +kernel))
theorem tw_4_8 : (Jvm.Cond.selects "SheetReader$Scan" ({ cls := "SheetReader$Scan", name := "isNothing", desc := "()Z" } : Jvm.MethodName) ({ cls := "SheetReader$Scan", name := "isNothing", desc := "()Z" } : Jvm.MethodName)) ∈ lw_tbl := tm_4 _ (List.mem_of_getElem? (i := 8) (by decide +kernel))
theorem tw_4_9 : (Jvm.Cond.code ({ cls := "SheetReader$Scan", name := "isNothing", desc := "()Z" } : Jvm.MethodName) prog_8_method_2_code (1 : Nat) (Option.some Jvm.ClassFile.FieldType.boolean)) ∈ lw_tbl := tm_4 _ (List.mem_of_getElem? (i := 9) (by decide +kernel))
theorem tw_4_10 : (Jvm.Cond.methodLink "SheetReaderLaw" (96 : Nat) ({ cls := "SheetReader", name := "blob", desc := "(II)I" } : Jvm.MethodName)) ∈ lw_tbl := tm_4 _ (List.mem_of_getElem? (i := 10) (by decide +kernel))
theorem tw_4_11 : (Jvm.Cond.instanceMethod ({ cls := "SheetReader", name := "blob", desc := "(II)I" } : Jvm.MethodName)) ∈ lw_tbl := tm_4 _ (List.mem_of_getElem? (i := 11) (by decide +kernel))
theorem tw_4_12 : (Jvm.Cond.selects "SheetReader" ({ cls := "SheetReader", name := "blob", desc := "(II)I" } : Jvm.MethodName) ({ cls := "SheetReader", name := "blob", desc := "(II)I" } : Jvm.MethodName)) ∈ lw_tbl := tm_4 _ (List.mem_of_getElem? (i := 12) (by decide +kernel))
theorem tw_4_13 : (Jvm.Cond.code ({ cls := "SheetReader", name := "blob", desc := "(II)I" } : Jvm.MethodName) prog_1_method_21_code (4 : Nat) (Option.some Jvm.ClassFile.FieldType.int)) ∈ lw_tbl := tm_4 _ (List.mem_of_getElem? (i := 13) (by decide +kernel))
theorem tw_4_14 : (Jvm.Cond.methodLink "SheetReader" (222 : Nat) ({ cls := "SheetReader$Blobs", name := "find", desc := "(LSheetReader$Scan;II)V" } : Jvm.MethodName)) ∈ lw_tbl := tm_4 _ (List.mem_of_getElem? (i := 14) (by decide +kernel))
theorem tw_4_15 : (Jvm.Cond.instanceMethod ({ cls := "SheetReader$Blobs", name := "find", desc := "(LSheetReader$Scan;II)V" } : Jvm.MethodName)) ∈ lw_tbl := tm_4 _ (List.mem_of_getElem? (i := 15) (by decide +kernel))
theorem tw_4_16 : (Jvm.Cond.selects "SheetReader$Blobs" ({ cls := "SheetReader$Blobs", name := "find", desc := "(LSheetReader$Scan;II)V" } : Jvm.MethodName) ({ cls := "SheetReader$Blobs", name := "find", desc := "(LSheetReader$Scan;II)V" } : Jvm.MethodName)) ∈ lw_tbl := tm_4 _ (List.mem_of_getElem? (i := 16) (by decide +kernel))
theorem tw_4_17 : (Jvm.Cond.code ({ cls := "SheetReader$Blobs", name := "find", desc := "(LSheetReader$Scan;II)V" } : Jvm.MethodName) prog_2_method_2_code (6 : Nat) (Option.none : Option Jvm.ClassFile.FieldType)) ∈ lw_tbl := tm_4 _ (List.mem_of_getElem? (i := 17) (by decide +kernel))
theorem tw_4_18 : (Jvm.Cond.methodLink "SheetReader$Blobs" (66 : Nat) ({ cls := "SheetReader$Blobs", name := "describe", desc := "(II)V" } : Jvm.MethodName)) ∈ lw_tbl := tm_4 _ (List.mem_of_getElem? (i := 18) (by decide +kernel))
theorem tw_4_20 : (Jvm.Cond.instanceMethod ({ cls := "SheetReader$Blobs", name := "describe", desc := "(II)V" } : Jvm.MethodName)) ∈ lw_tbl := tm_4 _ (List.mem_of_getElem? (i := 20) (by decide +kernel))
theorem tw_4_21 : (Jvm.Cond.code ({ cls := "SheetReader$Blobs", name := "describe", desc := "(II)V" } : Jvm.MethodName) prog_2_method_6_code (7 : Nat) (Option.none : Option Jvm.ClassFile.FieldType)) ∈ lw_tbl := tm_4 _ (List.mem_of_getElem? (i := 21) (by decide +kernel))
theorem tw_4_22 : (Jvm.Cond.methodLink "SheetReader$Blobs" (77 : Nat) ({ cls := "java/lang/Math", name := "min", desc := "(II)I" } : Jvm.MethodName)) ∈ lw_tbl := tm_4 _ (List.mem_of_getElem? (i := 22) (by decide +kernel))
theorem tw_4_23 : (Jvm.Cond.methodLink "SheetReader$Blobs" (83 : Nat) ({ cls := "java/lang/Math", name := "max", desc := "(II)I" } : Jvm.MethodName)) ∈ lw_tbl := tm_4 _ (List.mem_of_getElem? (i := 23) (by decide +kernel))
theorem tw_4_24 : (Jvm.Cond.methodLink "SheetReaderLaw" (100 : Nat) ({ cls := "SheetReader", name := "mark", desc := "(I)I" } : Jvm.MethodName)) ∈ lw_tbl := tm_4 _ (List.mem_of_getElem? (i := 24) (by decide +kernel))
theorem tw_4_25 : (Jvm.Cond.instanceMethod ({ cls := "SheetReader", name := "mark", desc := "(I)I" } : Jvm.MethodName)) ∈ lw_tbl := tm_4 _ (List.mem_of_getElem? (i := 25) (by decide +kernel))
theorem tw_4_26 : (Jvm.Cond.selects "SheetReader" ({ cls := "SheetReader", name := "mark", desc := "(I)I" } : Jvm.MethodName) ({ cls := "SheetReader", name := "mark", desc := "(I)I" } : Jvm.MethodName)) ∈ lw_tbl := tm_4 _ (List.mem_of_getElem? (i := 26) (by decide +kernel))
theorem tw_4_27 : (Jvm.Cond.code ({ cls := "SheetReader", name := "mark", desc := "(I)I" } : Jvm.MethodName) prog_1_method_22_code (2 : Nat) (Option.some Jvm.ClassFile.FieldType.int)) ∈ lw_tbl := tm_4 _ (List.mem_of_getElem? (i := 27) (by decide +kernel))
theorem tw_4_28 : (Jvm.Cond.methodLink "SheetReader" (252 : Nat) ({ cls := "SheetReader$Judge", name := "locate", desc := "(LSheetReader$Scan;)Z" } : Jvm.MethodName)) ∈ lw_tbl := tm_4 _ (List.mem_of_getElem? (i := 28) (by decide +kernel))
theorem tw_4_29 : (Jvm.Cond.instanceMethod ({ cls := "SheetReader$Judge", name := "locate", desc := "(LSheetReader$Scan;)Z" } : Jvm.MethodName)) ∈ lw_tbl := tm_4 _ (List.mem_of_getElem? (i := 29) (by decide +kernel))
theorem tw_4_30 : (Jvm.Cond.selects "SheetReader$Judge" ({ cls := "SheetReader$Judge", name := "locate", desc := "(LSheetReader$Scan;)Z" } : Jvm.MethodName) ({ cls := "SheetReader$Judge", name := "locate", desc := "(LSheetReader$Scan;)Z" } : Jvm.MethodName)) ∈ lw_tbl := tm_4 _ (List.mem_of_getElem? (i := 30) (by decide +kernel))
theorem tw_4_31 : (Jvm.Cond.code ({ cls := "SheetReader$Judge", name := "locate", desc := "(LSheetReader$Scan;)Z" } : Jvm.MethodName) prog_5_method_2_code (5 : Nat) (Option.some Jvm.ClassFile.FieldType.boolean)) ∈ lw_tbl := tm_4 _ (List.mem_of_getElem? (i := 31) (by decide +kernel))
theorem tw_4_32 : (Jvm.Cond.methodLink "SheetReader$Judge" (53 : Nat) ({ cls := "SheetReader$Blobs", name := "find", desc := "(LSheetReader$Scan;II)V" } : Jvm.MethodName)) ∈ lw_tbl := tm_4 _ (List.mem_of_getElem? (i := 32) (by decide +kernel))
theorem tw_4_33 : (Jvm.Cond.methodLink "SheetReader$Judge" (66 : Nat) ({ cls := "SheetReader$Blobs", name := "nearest", desc := "(III)I" } : Jvm.MethodName)) ∈ lw_tbl := tm_4 _ (List.mem_of_getElem? (i := 33) (by decide +kernel))
theorem tw_4_34 : (Jvm.Cond.instanceMethod ({ cls := "SheetReader$Blobs", name := "nearest", desc := "(III)I" } : Jvm.MethodName)) ∈ lw_tbl := tm_4 _ (List.mem_of_getElem? (i := 34) (by decide +kernel))
theorem tw_4_35 : (Jvm.Cond.selects "SheetReader$Blobs" ({ cls := "SheetReader$Blobs", name := "nearest", desc := "(III)I" } : Jvm.MethodName) ({ cls := "SheetReader$Blobs", name := "nearest", desc := "(III)I" } : Jvm.MethodName)) ∈ lw_tbl := tm_4 _ (List.mem_of_getElem? (i := 35) (by decide +kernel))
theorem tw_4_36 : (Jvm.Cond.code ({ cls := "SheetReader$Blobs", name := "nearest", desc := "(III)I" } : Jvm.MethodName) prog_2_method_7_code (20 : Nat) (Option.some Jvm.ClassFile.FieldType.int)) ∈ lw_tbl := tm_4 _ (List.mem_of_getElem? (i := 36) (by decide +kernel))
theorem tw_4_37 : (Jvm.Cond.methodLink "SheetReader$Judge" (70 : Nat) ({ cls := "SheetReader$Judge", name := "marksAreFour", desc := "()Z" } : Jvm.MethodName)) ∈ lw_tbl := tm_4 _ (List.mem_of_getElem? (i := 37) (by decide +kernel))
theorem tw_4_39 : (Jvm.Cond.instanceMethod ({ cls := "SheetReader$Judge", name := "marksAreFour", desc := "()Z" } : Jvm.MethodName)) ∈ lw_tbl := tm_4 _ (List.mem_of_getElem? (i := 39) (by decide +kernel))
theorem tw_4_40 : (Jvm.Cond.code ({ cls := "SheetReader$Judge", name := "marksAreFour", desc := "()Z" } : Jvm.MethodName) prog_5_method_3_code (3 : Nat) (Option.some Jvm.ClassFile.FieldType.boolean)) ∈ lw_tbl := tm_4 _ (List.mem_of_getElem? (i := 40) (by decide +kernel))
theorem tw_4_41 : (Jvm.Cond.methodLink "SheetReader$Judge" (83 : Nat) ({ cls := "SheetReader$Places", name := "put", desc := "(IJJJ)V" } : Jvm.MethodName)) ∈ lw_tbl := tm_4 _ (List.mem_of_getElem? (i := 41) (by decide +kernel))
theorem tw_4_42 : (Jvm.Cond.instanceMethod ({ cls := "SheetReader$Places", name := "put", desc := "(IJJJ)V" } : Jvm.MethodName)) ∈ lw_tbl := tm_4 _ (List.mem_of_getElem? (i := 42) (by decide +kernel))
theorem tw_4_43 : (Jvm.Cond.selects "SheetReader$Places" ({ cls := "SheetReader$Places", name := "put", desc := "(IJJJ)V" } : Jvm.MethodName) ({ cls := "SheetReader$Places", name := "put", desc := "(IJJJ)V" } : Jvm.MethodName)) ∈ lw_tbl := tm_4 _ (List.mem_of_getElem? (i := 43) (by decide +kernel))
theorem tw_4_44 : (Jvm.Cond.code ({ cls := "SheetReader$Places", name := "put", desc := "(IJJJ)V" } : Jvm.MethodName) prog_7_method_2_code (8 : Nat) (Option.none : Option Jvm.ClassFile.FieldType)) ∈ lw_tbl := tm_4 _ (List.mem_of_getElem? (i := 44) (by decide +kernel))
theorem tw_4_45 : (Jvm.Cond.methodLink "SheetReaderLaw" (104 : Nat) ({ cls := "SheetReader", name := "marked", desc := "()I" } : Jvm.MethodName)) ∈ lw_tbl := tm_4 _ (List.mem_of_getElem? (i := 45) (by decide +kernel))
theorem tw_4_46 : (Jvm.Cond.instanceMethod ({ cls := "SheetReader", name := "marked", desc := "()I" } : Jvm.MethodName)) ∈ lw_tbl := tm_4 _ (List.mem_of_getElem? (i := 46) (by decide +kernel))
theorem tw_4_47 : (Jvm.Cond.selects "SheetReader" ({ cls := "SheetReader", name := "marked", desc := "()I" } : Jvm.MethodName) ({ cls := "SheetReader", name := "marked", desc := "()I" } : Jvm.MethodName)) ∈ lw_tbl := tm_4 _ (List.mem_of_getElem? (i := 47) (by decide +kernel))
theorem tw_4_48 : (Jvm.Cond.code ({ cls := "SheetReader", name := "marked", desc := "()I" } : Jvm.MethodName) prog_1_method_23_code (1 : Nat) (Option.some Jvm.ClassFile.FieldType.int)) ∈ lw_tbl := tm_4 _ (List.mem_of_getElem? (i := 48) (by decide +kernel))
theorem tw_4_49 : (Jvm.Cond.methodLink "SheetReaderLaw" (108 : Nat) ({ cls := "SheetReader", name := "shape", desc := "(I)I" } : Jvm.MethodName)) ∈ lw_tbl := tm_4 _ (List.mem_of_getElem? (i := 49) (by decide +kernel))
theorem tw_4_50 : (Jvm.Cond.instanceMethod ({ cls := "SheetReader", name := "shape", desc := "(I)I" } : Jvm.MethodName)) ∈ lw_tbl := tm_4 _ (List.mem_of_getElem? (i := 50) (by decide +kernel))
theorem tw_4_51 : (Jvm.Cond.selects "SheetReader" ({ cls := "SheetReader", name := "shape", desc := "(I)I" } : Jvm.MethodName) ({ cls := "SheetReader", name := "shape", desc := "(I)I" } : Jvm.MethodName)) ∈ lw_tbl := tm_4 _ (List.mem_of_getElem? (i := 51) (by decide +kernel))
theorem tw_4_52 : (Jvm.Cond.code ({ cls := "SheetReader", name := "shape", desc := "(I)I" } : Jvm.MethodName) prog_1_method_24_code (2 : Nat) (Option.some Jvm.ClassFile.FieldType.int)) ∈ lw_tbl := tm_4 _ (List.mem_of_getElem? (i := 52) (by decide +kernel))
theorem tw_4_53 : (Jvm.Cond.methodLink "SheetReader" (263 : Nat) ({ cls := "SheetReader$Places", name := "turnsOneWay", desc := "()Z" } : Jvm.MethodName)) ∈ lw_tbl := tm_4 _ (List.mem_of_getElem? (i := 53) (by decide +kernel))
theorem tw_4_54 : (Jvm.Cond.instanceMethod ({ cls := "SheetReader$Places", name := "turnsOneWay", desc := "()Z" } : Jvm.MethodName)) ∈ lw_tbl := tm_4 _ (List.mem_of_getElem? (i := 54) (by decide +kernel))
theorem tw_4_55 : (Jvm.Cond.selects "SheetReader$Places" ({ cls := "SheetReader$Places", name := "turnsOneWay", desc := "()Z" } : Jvm.MethodName) ({ cls := "SheetReader$Places", name := "turnsOneWay", desc := "()Z" } : Jvm.MethodName)) ∈ lw_tbl := tm_4 _ (List.mem_of_getElem? (i := 55) (by decide +kernel))
theorem tw_4_56 : (Jvm.Cond.code ({ cls := "SheetReader$Places", name := "turnsOneWay", desc := "()Z" } : Jvm.MethodName) prog_7_method_11_code (6 : Nat) (Option.some Jvm.ClassFile.FieldType.boolean)) ∈ lw_tbl := tm_4 _ (List.mem_of_getElem? (i := 56) (by decide +kernel))
theorem tw_4_57 : (Jvm.Cond.fieldLink "SheetReader$Places" (53 : Nat) "SheetReader$Places" "AROUND" "[I") ∈ lw_tbl := tm_4 _ (List.mem_of_getElem? (i := 57) (by decide +kernel))
theorem tw_4_58 : (Jvm.Cond.laysStatic "SheetReader$Places" "AROUND" "[I") ∈ lw_tbl := tm_4 _ (List.mem_of_getElem? (i := 58) (by decide +kernel))
theorem tw_4_59 : (Jvm.Cond.methodLink "SheetReader$Places" (57 : Nat) ({ cls := "SheetReader$Places", name := "sideOf", desc := "(III)J" } : Jvm.MethodName)) ∈ lw_tbl := tm_4 _ (List.mem_of_getElem? (i := 59) (by decide +kernel))
theorem tw_4_61 : (Jvm.Cond.instanceMethod ({ cls := "SheetReader$Places", name := "sideOf", desc := "(III)J" } : Jvm.MethodName)) ∈ lw_tbl := tm_4 _ (List.mem_of_getElem? (i := 61) (by decide +kernel))
theorem tw_4_62 : (Jvm.Cond.code ({ cls := "SheetReader$Places", name := "sideOf", desc := "(III)J" } : Jvm.MethodName) prog_7_method_12_code (4 : Nat) (Option.some Jvm.ClassFile.FieldType.long)) ∈ lw_tbl := tm_4 _ (List.mem_of_getElem? (i := 62) (by decide +kernel))
theorem tw_4_63 : (Jvm.Cond.methodLink "SheetReader" (268 : Nat) ({ cls := "SheetReader$Places", name := "area", desc := "()I" } : Jvm.MethodName)) ∈ lw_tbl := tm_4 _ (List.mem_of_getElem? (i := 63) (by decide +kernel))
theorem tw_4_64 : (Jvm.Cond.instanceMethod ({ cls := "SheetReader$Places", name := "area", desc := "()I" } : Jvm.MethodName)) ∈ lw_tbl := tm_4 _ (List.mem_of_getElem? (i := 64) (by decide +kernel))
theorem tw_4_65 : (Jvm.Cond.selects "SheetReader$Places" ({ cls := "SheetReader$Places", name := "area", desc := "()I" } : Jvm.MethodName) ({ cls := "SheetReader$Places", name := "area", desc := "()I" } : Jvm.MethodName)) ∈ lw_tbl := tm_4 _ (List.mem_of_getElem? (i := 65) (by decide +kernel))
theorem tw_4_66 : (Jvm.Cond.code ({ cls := "SheetReader$Places", name := "area", desc := "()I" } : Jvm.MethodName) prog_7_method_13_code (8 : Nat) (Option.some Jvm.ClassFile.FieldType.int)) ∈ lw_tbl := tm_4 _ (List.mem_of_getElem? (i := 66) (by decide +kernel))
theorem tw_4_67 : (Jvm.Cond.constantLong "SheetReader$Places" (38 : Nat) (2 : Int64)) ∈ lw_tbl := tm_4 _ (List.mem_of_getElem? (i := 67) (by decide +kernel))
theorem tw_4_68 : (Jvm.Cond.methodLink "SheetReader$Places" (61 : Nat) ({ cls := "java/lang/Math", name := "abs", desc := "(J)J" } : Jvm.MethodName)) ∈ lw_tbl := tm_4 _ (List.mem_of_getElem? (i := 68) (by decide +kernel))
theorem tw_4_69 : (Jvm.Cond.static ({ cls := "java/lang/Math", name := "abs", desc := "(J)J" } : Jvm.MethodName)) ∈ lw_tbl := tm_4 _ (List.mem_of_getElem? (i := 69) (by decide +kernel))
theorem tw_4_70 : (Jvm.Cond.code ({ cls := "java/lang/Math", name := "abs", desc := "(J)J" } : Jvm.MethodName) prog_12_method_61_code (2 : Nat) (Option.some Jvm.ClassFile.FieldType.long)) ∈ lw_tbl := tm_4 _ (List.mem_of_getElem? (i := 70) (by decide +kernel))
theorem tw_4_71 : (Jvm.Cond.methodLink "SheetReader" (271 : Nat) ({ cls := "SheetReader$Places", name := "slope", desc := "()I" } : Jvm.MethodName)) ∈ lw_tbl := tm_4 _ (List.mem_of_getElem? (i := 71) (by decide +kernel))
theorem tw_4_72 : (Jvm.Cond.instanceMethod ({ cls := "SheetReader$Places", name := "slope", desc := "()I" } : Jvm.MethodName)) ∈ lw_tbl := tm_4 _ (List.mem_of_getElem? (i := 72) (by decide +kernel))
theorem tw_4_73 : (Jvm.Cond.selects "SheetReader$Places" ({ cls := "SheetReader$Places", name := "slope", desc := "()I" } : Jvm.MethodName) ({ cls := "SheetReader$Places", name := "slope", desc := "()I" } : Jvm.MethodName)) ∈ lw_tbl := tm_4 _ (List.mem_of_getElem? (i := 73) (by decide +kernel))
theorem tw_4_74 : (Jvm.Cond.code ({ cls := "SheetReader$Places", name := "slope", desc := "()I" } : Jvm.MethodName) prog_7_method_14_code (5 : Nat) (Option.some Jvm.ClassFile.FieldType.int)) ∈ lw_tbl := tm_4 _ (List.mem_of_getElem? (i := 74) (by decide +kernel))
theorem tw_4_75 : (Jvm.Cond.methodLink "SheetReaderLaw" (112 : Nat) ({ cls := "SheetReader", name := "map", desc := "(III)I" } : Jvm.MethodName)) ∈ lw_tbl := tm_4 _ (List.mem_of_getElem? (i := 75) (by decide +kernel))
theorem tw_4_76 : (Jvm.Cond.instanceMethod ({ cls := "SheetReader", name := "map", desc := "(III)I" } : Jvm.MethodName)) ∈ lw_tbl := tm_4 _ (List.mem_of_getElem? (i := 76) (by decide +kernel))
theorem tw_4_77 : (Jvm.Cond.selects "SheetReader" ({ cls := "SheetReader", name := "map", desc := "(III)I" } : Jvm.MethodName) ({ cls := "SheetReader", name := "map", desc := "(III)I" } : Jvm.MethodName)) ∈ lw_tbl := tm_4 _ (List.mem_of_getElem? (i := 77) (by decide +kernel))
theorem tw_4_78 : (Jvm.Cond.code ({ cls := "SheetReader", name := "map", desc := "(III)I" } : Jvm.MethodName) prog_1_method_25_code (5 : Nat) (Option.some Jvm.ClassFile.FieldType.int)) ∈ lw_tbl := tm_4 _ (List.mem_of_getElem? (i := 78) (by decide +kernel))
theorem tw_4_79 : (Jvm.Cond.methodLink "SheetReader" (277 : Nat) ({ cls := "SheetReader$Places", name := "spread", desc := "(II)V" } : Jvm.MethodName)) ∈ lw_tbl := tm_4 _ (List.mem_of_getElem? (i := 79) (by decide +kernel))
theorem tw_4_80 : (Jvm.Cond.instanceMethod ({ cls := "SheetReader$Places", name := "spread", desc := "(II)V" } : Jvm.MethodName)) ∈ lw_tbl := tm_4 _ (List.mem_of_getElem? (i := 80) (by decide +kernel))
theorem tw_4_81 : (Jvm.Cond.selects "SheetReader$Places" ({ cls := "SheetReader$Places", name := "spread", desc := "(II)V" } : Jvm.MethodName) ({ cls := "SheetReader$Places", name := "spread", desc := "(II)V" } : Jvm.MethodName)) ∈ lw_tbl := tm_4 _ (List.mem_of_getElem? (i := 81) (by decide +kernel))
theorem tw_4_82 : (Jvm.Cond.code ({ cls := "SheetReader$Places", name := "spread", desc := "(II)V" } : Jvm.MethodName) prog_7_method_3_code (7 : Nat) (Option.none : Option Jvm.ClassFile.FieldType)) ∈ lw_tbl := tm_4 _ (List.mem_of_getElem? (i := 82) (by decide +kernel))
theorem tw_4_83 : (Jvm.Cond.methodLink "SheetReader" (280 : Nat) ({ cls := "SheetReader$Places", name := "dotX", desc := "(II)I" } : Jvm.MethodName)) ∈ lw_tbl := tm_4 _ (List.mem_of_getElem? (i := 83) (by decide +kernel))
theorem tw_4_84 : (Jvm.Cond.instanceMethod ({ cls := "SheetReader$Places", name := "dotX", desc := "(II)I" } : Jvm.MethodName)) ∈ lw_tbl := tm_4 _ (List.mem_of_getElem? (i := 84) (by decide +kernel))
theorem tw_4_85 : (Jvm.Cond.selects "SheetReader$Places" ({ cls := "SheetReader$Places", name := "dotX", desc := "(II)I" } : Jvm.MethodName) ({ cls := "SheetReader$Places", name := "dotX", desc := "(II)I" } : Jvm.MethodName)) ∈ lw_tbl := tm_4 _ (List.mem_of_getElem? (i := 85) (by decide +kernel))
theorem tw_4_86 : (Jvm.Cond.code ({ cls := "SheetReader$Places", name := "dotX", desc := "(II)I" } : Jvm.MethodName) prog_7_method_7_code (3 : Nat) (Option.some Jvm.ClassFile.FieldType.int)) ∈ lw_tbl := tm_4 _ (List.mem_of_getElem? (i := 86) (by decide +kernel))
theorem tw_4_87 : (Jvm.Cond.methodLink "SheetReader$Places" (42 : Nat) ({ cls := "SheetReader$Places", name := "weighed", desc := "([JII)J" } : Jvm.MethodName)) ∈ lw_tbl := tm_4 _ (List.mem_of_getElem? (i := 87) (by decide +kernel))
theorem tw_4_89 : (Jvm.Cond.instanceMethod ({ cls := "SheetReader$Places", name := "weighed", desc := "([JII)J" } : Jvm.MethodName)) ∈ lw_tbl := tm_4 _ (List.mem_of_getElem? (i := 89) (by decide +kernel))
theorem tw_4_90 : (Jvm.Cond.code ({ cls := "SheetReader$Places", name := "weighed", desc := "([JII)J" } : Jvm.MethodName) prog_7_method_4_code (4 : Nat) (Option.some Jvm.ClassFile.FieldType.long)) ∈ lw_tbl := tm_4 _ (List.mem_of_getElem? (i := 90) (by decide +kernel))
theorem tw_4_91 : (Jvm.Cond.methodLink "SheetReader$Places" (46 : Nat) ({ cls := "SheetReader$Places", name := "rounded", desc := "(J)I" } : Jvm.MethodName)) ∈ lw_tbl := tm_4 _ (List.mem_of_getElem? (i := 91) (by decide +kernel))
theorem tw_4_93 : (Jvm.Cond.instanceMethod ({ cls := "SheetReader$Places", name := "rounded", desc := "(J)I" } : Jvm.MethodName)) ∈ lw_tbl := tm_4 _ (List.mem_of_getElem? (i := 93) (by decide +kernel))
theorem tw_4_94 : (Jvm.Cond.code ({ cls := "SheetReader$Places", name := "rounded", desc := "(J)I" } : Jvm.MethodName) prog_7_method_5_code (3 : Nat) (Option.some Jvm.ClassFile.FieldType.int)) ∈ lw_tbl := tm_4 _ (List.mem_of_getElem? (i := 94) (by decide +kernel))
theorem tw_4_95 : (Jvm.Cond.methodLink "SheetReader" (283 : Nat) ({ cls := "SheetReader$Places", name := "dotY", desc := "(II)I" } : Jvm.MethodName)) ∈ lw_tbl := tm_4 _ (List.mem_of_getElem? (i := 95) (by decide +kernel))
theorem tw_4_96 : (Jvm.Cond.instanceMethod ({ cls := "SheetReader$Places", name := "dotY", desc := "(II)I" } : Jvm.MethodName)) ∈ lw_tbl := tm_4 _ (List.mem_of_getElem? (i := 96) (by decide +kernel))
theorem tw_4_97 : (Jvm.Cond.selects "SheetReader$Places" ({ cls := "SheetReader$Places", name := "dotY", desc := "(II)I" } : Jvm.MethodName) ({ cls := "SheetReader$Places", name := "dotY", desc := "(II)I" } : Jvm.MethodName)) ∈ lw_tbl := tm_4 _ (List.mem_of_getElem? (i := 97) (by decide +kernel))
theorem tw_4_98 : (Jvm.Cond.code ({ cls := "SheetReader$Places", name := "dotY", desc := "(II)I" } : Jvm.MethodName) prog_7_method_8_code (3 : Nat) (Option.some Jvm.ClassFile.FieldType.int)) ∈ lw_tbl := tm_4 _ (List.mem_of_getElem? (i := 98) (by decide +kernel))
theorem tw_4_99 : (Jvm.Cond.methodLink "SheetReader" (286 : Nat) ({ cls := "SheetReader$Places", name := "hundredthsX", desc := "(II)I" } : Jvm.MethodName)) ∈ lw_tbl := tm_4 _ (List.mem_of_getElem? (i := 99) (by decide +kernel))
theorem tw_4_100 : (Jvm.Cond.instanceMethod ({ cls := "SheetReader$Places", name := "hundredthsX", desc := "(II)I" } : Jvm.MethodName)) ∈ lw_tbl := tm_4 _ (List.mem_of_getElem? (i := 100) (by decide +kernel))
theorem tw_4_101 : (Jvm.Cond.selects "SheetReader$Places" ({ cls := "SheetReader$Places", name := "hundredthsX", desc := "(II)I" } : Jvm.MethodName) ({ cls := "SheetReader$Places", name := "hundredthsX", desc := "(II)I" } : Jvm.MethodName)) ∈ lw_tbl := tm_4 _ (List.mem_of_getElem? (i := 101) (by decide +kernel))
theorem tw_4_102 : (Jvm.Cond.code ({ cls := "SheetReader$Places", name := "hundredthsX", desc := "(II)I" } : Jvm.MethodName) prog_7_method_9_code (3 : Nat) (Option.some Jvm.ClassFile.FieldType.int)) ∈ lw_tbl := tm_4 _ (List.mem_of_getElem? (i := 102) (by decide +kernel))
theorem tw_4_103 : (Jvm.Cond.methodLink "SheetReader$Places" (50 : Nat) ({ cls := "SheetReader$Places", name := "hundredths", desc := "(J)I" } : Jvm.MethodName)) ∈ lw_tbl := tm_4 _ (List.mem_of_getElem? (i := 103) (by decide +kernel))
theorem tw_4_105 : (Jvm.Cond.instanceMethod ({ cls := "SheetReader$Places", name := "hundredths", desc := "(J)I" } : Jvm.MethodName)) ∈ lw_tbl := tm_4 _ (List.mem_of_getElem? (i := 105) (by decide +kernel))
theorem tw_4_106 : (Jvm.Cond.code ({ cls := "SheetReader$Places", name := "hundredths", desc := "(J)I" } : Jvm.MethodName) prog_7_method_6_code (3 : Nat) (Option.some Jvm.ClassFile.FieldType.int)) ∈ lw_tbl := tm_4 _ (List.mem_of_getElem? (i := 106) (by decide +kernel))
theorem tw_4_107 : (Jvm.Cond.constantLong "SheetReader$Places" (40 : Nat) (100 : Int64)) ∈ lw_tbl := tm_4 _ (List.mem_of_getElem? (i := 107) (by decide +kernel))
theorem tw_4_108 : (Jvm.Cond.methodLink "SheetReader" (289 : Nat) ({ cls := "SheetReader$Places", name := "hundredthsY", desc := "(II)I" } : Jvm.MethodName)) ∈ lw_tbl := tm_4 _ (List.mem_of_getElem? (i := 108) (by decide +kernel))
theorem tw_4_109 : (Jvm.Cond.instanceMethod ({ cls := "SheetReader$Places", name := "hundredthsY", desc := "(II)I" } : Jvm.MethodName)) ∈ lw_tbl := tm_4 _ (List.mem_of_getElem? (i := 109) (by decide +kernel))
theorem tw_4_110 : (Jvm.Cond.selects "SheetReader$Places" ({ cls := "SheetReader$Places", name := "hundredthsY", desc := "(II)I" } : Jvm.MethodName) ({ cls := "SheetReader$Places", name := "hundredthsY", desc := "(II)I" } : Jvm.MethodName)) ∈ lw_tbl := tm_4 _ (List.mem_of_getElem? (i := 110) (by decide +kernel))
theorem tw_4_111 : (Jvm.Cond.code ({ cls := "SheetReader$Places", name := "hundredthsY", desc := "(II)I" } : Jvm.MethodName) prog_7_method_10_code (3 : Nat) (Option.some Jvm.ClassFile.FieldType.int)) ∈ lw_tbl := tm_4 _ (List.mem_of_getElem? (i := 111) (by decide +kernel))
theorem tw_4_112 : (Jvm.Cond.methodLink "SheetReaderLaw" (117 : Nat) ({ cls := "SheetReader", name := "dark", desc := "(II)I" } : Jvm.MethodName)) ∈ lw_tbl := tm_4 _ (List.mem_of_getElem? (i := 112) (by decide +kernel))
theorem tw_4_113 : (Jvm.Cond.instanceMethod ({ cls := "SheetReader", name := "dark", desc := "(II)I" } : Jvm.MethodName)) ∈ lw_tbl := tm_4 _ (List.mem_of_getElem? (i := 113) (by decide +kernel))
theorem tw_4_114 : (Jvm.Cond.selects "SheetReader" ({ cls := "SheetReader", name := "dark", desc := "(II)I" } : Jvm.MethodName) ({ cls := "SheetReader", name := "dark", desc := "(II)I" } : Jvm.MethodName)) ∈ lw_tbl := tm_4 _ (List.mem_of_getElem? (i := 114) (by decide +kernel))
theorem tw_4_115 : (Jvm.Cond.code ({ cls := "SheetReader", name := "dark", desc := "(II)I" } : Jvm.MethodName) prog_1_method_26_code (3 : Nat) (Option.some Jvm.ClassFile.FieldType.int)) ∈ lw_tbl := tm_4 _ (List.mem_of_getElem? (i := 115) (by decide +kernel))
theorem tw_4_116 : (Jvm.Cond.methodLink "SheetReader" (292 : Nat) ({ cls := "SheetReader$Judge", name := "measure", desc := "(LSheetReader$Scan;LSheetReader$Form;)Z" } : Jvm.MethodName)) ∈ lw_tbl := tm_4 _ (List.mem_of_getElem? (i := 116) (by decide +kernel))
theorem tw_4_117 : (Jvm.Cond.instanceMethod ({ cls := "SheetReader$Judge", name := "measure", desc := "(LSheetReader$Scan;LSheetReader$Form;)Z" } : Jvm.MethodName)) ∈ lw_tbl := tm_4 _ (List.mem_of_getElem? (i := 117) (by decide +kernel))
theorem tw_4_118 : (Jvm.Cond.selects "SheetReader$Judge" ({ cls := "SheetReader$Judge", name := "measure", desc := "(LSheetReader$Scan;LSheetReader$Form;)Z" } : Jvm.MethodName) ({ cls := "SheetReader$Judge", name := "measure", desc := "(LSheetReader$Scan;LSheetReader$Form;)Z" } : Jvm.MethodName)) ∈ lw_tbl := tm_4 _ (List.mem_of_getElem? (i := 118) (by decide +kernel))
theorem tw_4_119 : (Jvm.Cond.code ({ cls := "SheetReader$Judge", name := "measure", desc := "(LSheetReader$Scan;LSheetReader$Form;)Z" } : Jvm.MethodName) prog_5_method_4_code (4 : Nat) (Option.some Jvm.ClassFile.FieldType.boolean)) ∈ lw_tbl := tm_4 _ (List.mem_of_getElem? (i := 119) (by decide +kernel))
theorem tw_4_120 : (Jvm.Cond.methodLink "SheetReader$Judge" (87 : Nat) ({ cls := "SheetReader$Judge", name := "locate", desc := "(LSheetReader$Scan;)Z" } : Jvm.MethodName)) ∈ lw_tbl := tm_4 _ (List.mem_of_getElem? (i := 120) (by decide +kernel))
theorem tw_4_121 : (Jvm.Cond.methodLink "SheetReader$Judge" (95 : Nat) ({ cls := "SheetReader$Places", name := "spread", desc := "(II)V" } : Jvm.MethodName)) ∈ lw_tbl := tm_4 _ (List.mem_of_getElem? (i := 121) (by decide +kernel))
theorem tw_4_122 : (Jvm.Cond.methodLink "SheetReader$Judge" (102 : Nat) ({ cls := "SheetReader$Judge", name := "darkOf", desc := "(LSheetReader$Scan;LSheetReader$Form;I)I" } : Jvm.MethodName)) ∈ lw_tbl := tm_4 _ (List.mem_of_getElem? (i := 122) (by decide +kernel))
theorem tw_4_124 : (Jvm.Cond.instanceMethod ({ cls := "SheetReader$Judge", name := "darkOf", desc := "(LSheetReader$Scan;LSheetReader$Form;I)I" } : Jvm.MethodName)) ∈ lw_tbl := tm_4 _ (List.mem_of_getElem? (i := 124) (by decide +kernel))
theorem tw_4_125 : (Jvm.Cond.code ({ cls := "SheetReader$Judge", name := "darkOf", desc := "(LSheetReader$Scan;LSheetReader$Form;I)I" } : Jvm.MethodName) prog_5_method_5_code (9 : Nat) (Option.some Jvm.ClassFile.FieldType.int)) ∈ lw_tbl := tm_4 _ (List.mem_of_getElem? (i := 125) (by decide +kernel))
theorem tw_4_126 : (Jvm.Cond.methodLink "SheetReader$Judge" (127 : Nat) ({ cls := "SheetReader$Places", name := "dotX", desc := "(II)I" } : Jvm.MethodName)) ∈ lw_tbl := tm_4 _ (List.mem_of_getElem? (i := 126) (by decide +kernel))
theorem tw_4_127 : (Jvm.Cond.methodLink "SheetReader$Judge" (130 : Nat) ({ cls := "SheetReader$Places", name := "dotY", desc := "(II)I" } : Jvm.MethodName)) ∈ lw_tbl := tm_4 _ (List.mem_of_getElem? (i := 127) (by decide +kernel))
theorem tw_4_128 : (Jvm.Cond.methodLink "SheetReader$Judge" (133 : Nat) ({ cls := "SheetReader$Scan", name := "at", desc := "(II)I" } : Jvm.MethodName)) ∈ lw_tbl := tm_4 _ (List.mem_of_getElem? (i := 128) (by decide +kernel))
theorem tw_4_129 : (Jvm.Cond.methodLink "SheetReader$Judge" (109 : Nat) ({ cls := "java/lang/Math", name := "min", desc := "(II)I" } : Jvm.MethodName)) ∈ lw_tbl := tm_4 _ (List.mem_of_getElem? (i := 129) (by decide +kernel))
theorem tw_4_130 : (Jvm.Cond.methodLink "SheetReaderLaw" (121 : Nat) ({ cls := "SheetReader", name := "judged", desc := "(II)I" } : Jvm.MethodName)) ∈ lw_tbl := tm_4 _ (List.mem_of_getElem? (i := 130) (by decide +kernel))
theorem tw_4_131 : (Jvm.Cond.instanceMethod ({ cls := "SheetReader", name := "judged", desc := "(II)I" } : Jvm.MethodName)) ∈ lw_tbl := tm_4 _ (List.mem_of_getElem? (i := 131) (by decide +kernel))
theorem tw_4_132 : (Jvm.Cond.selects "SheetReader" ({ cls := "SheetReader", name := "judged", desc := "(II)I" } : Jvm.MethodName) ({ cls := "SheetReader", name := "judged", desc := "(II)I" } : Jvm.MethodName)) ∈ lw_tbl := tm_4 _ (List.mem_of_getElem? (i := 132) (by decide +kernel))
theorem tw_4_133 : (Jvm.Cond.code ({ cls := "SheetReader", name := "judged", desc := "(II)I" } : Jvm.MethodName) prog_1_method_27_code (3 : Nat) (Option.some Jvm.ClassFile.FieldType.int)) ∈ lw_tbl := tm_4 _ (List.mem_of_getElem? (i := 133) (by decide +kernel))
theorem tw_4_134 : (Jvm.Cond.constant "SheetReader" (302 : Nat) (-2147483648 : Int32)) ∈ lw_tbl := tm_4 _ (List.mem_of_getElem? (i := 134) (by decide +kernel))
theorem tw_4_135 : (Jvm.Cond.methodLink "SheetReader" (303 : Nat) ({ cls := "SheetReader$Judge", name := "read", desc := "(LSheetReader$Scan;LSheetReader$Form;)Z" } : Jvm.MethodName)) ∈ lw_tbl := tm_4 _ (List.mem_of_getElem? (i := 135) (by decide +kernel))
theorem tw_4_136 : (Jvm.Cond.instanceMethod ({ cls := "SheetReader$Judge", name := "read", desc := "(LSheetReader$Scan;LSheetReader$Form;)Z" } : Jvm.MethodName)) ∈ lw_tbl := tm_4 _ (List.mem_of_getElem? (i := 136) (by decide +kernel))
theorem tw_4_137 : (Jvm.Cond.selects "SheetReader$Judge" ({ cls := "SheetReader$Judge", name := "read", desc := "(LSheetReader$Scan;LSheetReader$Form;)Z" } : Jvm.MethodName) ({ cls := "SheetReader$Judge", name := "read", desc := "(LSheetReader$Scan;LSheetReader$Form;)Z" } : Jvm.MethodName)) ∈ lw_tbl := tm_4 _ (List.mem_of_getElem? (i := 137) (by decide +kernel))
theorem tw_4_138 : (Jvm.Cond.code ({ cls := "SheetReader$Judge", name := "read", desc := "(LSheetReader$Scan;LSheetReader$Form;)Z" } : Jvm.MethodName) prog_5_method_6_code (4 : Nat) (Option.some Jvm.ClassFile.FieldType.boolean)) ∈ lw_tbl := tm_4 _ (List.mem_of_getElem? (i := 138) (by decide +kernel))
theorem tw_4_139 : (Jvm.Cond.methodLink "SheetReader$Judge" (136 : Nat) ({ cls := "SheetReader$Judge", name := "measure", desc := "(LSheetReader$Scan;LSheetReader$Form;)Z" } : Jvm.MethodName)) ∈ lw_tbl := tm_4 _ (List.mem_of_getElem? (i := 139) (by decide +kernel))
theorem tw_4_140 : (Jvm.Cond.methodLink "SheetReader$Judge" (143 : Nat) ({ cls := "SheetReader$Judge", name := "judgeQuestion", desc := "(LSheetReader$Form;I)V" } : Jvm.MethodName)) ∈ lw_tbl := tm_4 _ (List.mem_of_getElem? (i := 140) (by decide +kernel))
theorem tw_4_142 : (Jvm.Cond.instanceMethod ({ cls := "SheetReader$Judge", name := "judgeQuestion", desc := "(LSheetReader$Form;I)V" } : Jvm.MethodName)) ∈ lw_tbl := tm_4 _ (List.mem_of_getElem? (i := 142) (by decide +kernel))
theorem tw_4_143 : (Jvm.Cond.code ({ cls := "SheetReader$Judge", name := "judgeQuestion", desc := "(LSheetReader$Form;I)V" } : Jvm.MethodName) prog_5_method_7_code (10 : Nat) (Option.none : Option Jvm.ClassFile.FieldType)) ∈ lw_tbl := tm_4 _ (List.mem_of_getElem? (i := 143) (by decide +kernel))
theorem tw_4_144 : (Jvm.Cond.methodLink "SheetReader$Judge" (157 : Nat) ({ cls := "SheetReader$Judge", name := "sortByDark", desc := "(II)V" } : Jvm.MethodName)) ∈ lw_tbl := tm_4 _ (List.mem_of_getElem? (i := 144) (by decide +kernel))
theorem tw_4_146 : (Jvm.Cond.instanceMethod ({ cls := "SheetReader$Judge", name := "sortByDark", desc := "(II)V" } : Jvm.MethodName)) ∈ lw_tbl := tm_4 _ (List.mem_of_getElem? (i := 146) (by decide +kernel))
theorem tw_4_147 : (Jvm.Cond.code ({ cls := "SheetReader$Judge", name := "sortByDark", desc := "(II)V" } : Jvm.MethodName) prog_5_method_9_code (6 : Nat) (Option.none : Option Jvm.ClassFile.FieldType)) ∈ lw_tbl := tm_4 _ (List.mem_of_getElem? (i := 147) (by decide +kernel))
theorem tw_4_148 : (Jvm.Cond.methodLink "SheetReader$Judge" (147 : Nat) ({ cls := "SheetReader$Judge", name := "gainOf", desc := "(LSheetReader$Form;I)I" } : Jvm.MethodName)) ∈ lw_tbl := tm_4 _ (List.mem_of_getElem? (i := 148) (by decide +kernel))
theorem tw_4_150 : (Jvm.Cond.instanceMethod ({ cls := "SheetReader$Judge", name := "gainOf", desc := "(LSheetReader$Form;I)I" } : Jvm.MethodName)) ∈ lw_tbl := tm_4 _ (List.mem_of_getElem? (i := 150) (by decide +kernel))
theorem tw_4_151 : (Jvm.Cond.code ({ cls := "SheetReader$Judge", name := "gainOf", desc := "(LSheetReader$Form;I)I" } : Jvm.MethodName) prog_5_method_8_code (3 : Nat) (Option.some Jvm.ClassFile.FieldType.int)) ∈ lw_tbl := tm_4 _ (List.mem_of_getElem? (i := 151) (by decide +kernel))
theorem tw_4_152 : (Jvm.Cond.methodLink "SheetReaderLaw" (125 : Nat) ({ cls := "SheetReader", name := "sheet", desc := "(I)I" } : Jvm.MethodName)) ∈ lw_tbl := tm_4 _ (List.mem_of_getElem? (i := 152) (by decide +kernel))
theorem tw_4_153 : (Jvm.Cond.instanceMethod ({ cls := "SheetReader", name := "sheet", desc := "(I)I" } : Jvm.MethodName)) ∈ lw_tbl := tm_4 _ (List.mem_of_getElem? (i := 153) (by decide +kernel))
theorem tw_4_154 : (Jvm.Cond.selects "SheetReader" ({ cls := "SheetReader", name := "sheet", desc := "(I)I" } : Jvm.MethodName) ({ cls := "SheetReader", name := "sheet", desc := "(I)I" } : Jvm.MethodName)) ∈ lw_tbl := tm_4 _ (List.mem_of_getElem? (i := 154) (by decide +kernel))
theorem tw_4_155 : (Jvm.Cond.code ({ cls := "SheetReader", name := "sheet", desc := "(I)I" } : Jvm.MethodName) prog_1_method_28_code (2 : Nat) (Option.some Jvm.ClassFile.FieldType.int)) ∈ lw_tbl := tm_4 _ (List.mem_of_getElem? (i := 155) (by decide +kernel))
theorem tw_4_156 : (Jvm.Cond.constant "SheetReader" (320 : Nat) (-1000000 : Int32)) ∈ lw_tbl := tm_4 _ (List.mem_of_getElem? (i := 156) (by decide +kernel))
theorem tw_4_157 : (Jvm.Cond.methodLink "SheetReader" (321 : Nat) ({ cls := "SheetReader$Judge", name := "allGains", desc := "(LSheetReader$Form;)I" } : Jvm.MethodName)) ∈ lw_tbl := tm_4 _ (List.mem_of_getElem? (i := 157) (by decide +kernel))
theorem tw_4_158 : (Jvm.Cond.instanceMethod ({ cls := "SheetReader$Judge", name := "allGains", desc := "(LSheetReader$Form;)I" } : Jvm.MethodName)) ∈ lw_tbl := tm_4 _ (List.mem_of_getElem? (i := 158) (by decide +kernel))
theorem tw_4_159 : (Jvm.Cond.selects "SheetReader$Judge" ({ cls := "SheetReader$Judge", name := "allGains", desc := "(LSheetReader$Form;)I" } : Jvm.MethodName) ({ cls := "SheetReader$Judge", name := "allGains", desc := "(LSheetReader$Form;)I" } : Jvm.MethodName)) ∈ lw_tbl := tm_4 _ (List.mem_of_getElem? (i := 159) (by decide +kernel))
theorem tw_4_160 : (Jvm.Cond.code ({ cls := "SheetReader$Judge", name := "allGains", desc := "(LSheetReader$Form;)I" } : Jvm.MethodName) prog_5_method_10_code (4 : Nat) (Option.some Jvm.ClassFile.FieldType.int)) ∈ lw_tbl := tm_4 _ (List.mem_of_getElem? (i := 160) (by decide +kernel))
theorem tw_4_161 : (Jvm.Cond.methodLink "SheetReader" (325 : Nat) ({ cls := "SheetReader$Judge", name := "inState", desc := "(LSheetReader$Form;I)I" } : Jvm.MethodName)) ∈ lw_tbl := tm_4 _ (List.mem_of_getElem? (i := 161) (by decide +kernel))
theorem tw_4_162 : (Jvm.Cond.instanceMethod ({ cls := "SheetReader$Judge", name := "inState", desc := "(LSheetReader$Form;I)I" } : Jvm.MethodName)) ∈ lw_tbl := tm_4 _ (List.mem_of_getElem? (i := 162) (by decide +kernel))
theorem tw_4_163 : (Jvm.Cond.selects "SheetReader$Judge" ({ cls := "SheetReader$Judge", name := "inState", desc := "(LSheetReader$Form;I)I" } : Jvm.MethodName) ({ cls := "SheetReader$Judge", name := "inState", desc := "(LSheetReader$Form;I)I" } : Jvm.MethodName)) ∈ lw_tbl := tm_4 _ (List.mem_of_getElem? (i := 163) (by decide +kernel))
theorem tw_4_164 : (Jvm.Cond.code ({ cls := "SheetReader$Judge", name := "inState", desc := "(LSheetReader$Form;I)I" } : Jvm.MethodName) prog_5_method_11_code (5 : Nat) (Option.some Jvm.ClassFile.FieldType.int)) ∈ lw_tbl := tm_4 _ (List.mem_of_getElem? (i := 164) (by decide +kernel))
theorem tw_4_165 : (Jvm.Cond.methodLink "SheetReader" (329 : Nat) ({ cls := "SheetReader$Judge", name := "leftEmpty", desc := "(LSheetReader$Form;)I" } : Jvm.MethodName)) ∈ lw_tbl := tm_4 _ (List.mem_of_getElem? (i := 165) (by decide +kernel))
theorem tw_4_166 : (Jvm.Cond.instanceMethod ({ cls := "SheetReader$Judge", name := "leftEmpty", desc := "(LSheetReader$Form;)I" } : Jvm.MethodName)) ∈ lw_tbl := tm_4 _ (List.mem_of_getElem? (i := 166) (by decide +kernel))
theorem tw_4_167 : (Jvm.Cond.selects "SheetReader$Judge" ({ cls := "SheetReader$Judge", name := "leftEmpty", desc := "(LSheetReader$Form;)I" } : Jvm.MethodName) ({ cls := "SheetReader$Judge", name := "leftEmpty", desc := "(LSheetReader$Form;)I" } : Jvm.MethodName)) ∈ lw_tbl := tm_4 _ (List.mem_of_getElem? (i := 167) (by decide +kernel))
theorem tw_4_168 : (Jvm.Cond.code ({ cls := "SheetReader$Judge", name := "leftEmpty", desc := "(LSheetReader$Form;)I" } : Jvm.MethodName) prog_5_method_12_code (4 : Nat) (Option.some Jvm.ClassFile.FieldType.int)) ∈ lw_tbl := tm_4 _ (List.mem_of_getElem? (i := 168) (by decide +kernel))
theorem tw_4_169 : (Jvm.Cond.methodLink "SheetReader" (332 : Nat) ({ cls := "SheetReader$Judge", name := "allRubbed", desc := "(LSheetReader$Form;)I" } : Jvm.MethodName)) ∈ lw_tbl := tm_4 _ (List.mem_of_getElem? (i := 169) (by decide +kernel))
theorem tw_4_170 : (Jvm.Cond.instanceMethod ({ cls := "SheetReader$Judge", name := "allRubbed", desc := "(LSheetReader$Form;)I" } : Jvm.MethodName)) ∈ lw_tbl := tm_4 _ (List.mem_of_getElem? (i := 170) (by decide +kernel))
theorem tw_4_171 : (Jvm.Cond.selects "SheetReader$Judge" ({ cls := "SheetReader$Judge", name := "allRubbed", desc := "(LSheetReader$Form;)I" } : Jvm.MethodName) ({ cls := "SheetReader$Judge", name := "allRubbed", desc := "(LSheetReader$Form;)I" } : Jvm.MethodName)) ∈ lw_tbl := tm_4 _ (List.mem_of_getElem? (i := 171) (by decide +kernel))
theorem tw_4_172 : (Jvm.Cond.code ({ cls := "SheetReader$Judge", name := "allRubbed", desc := "(LSheetReader$Form;)I" } : Jvm.MethodName) prog_5_method_13_code (4 : Nat) (Option.some Jvm.ClassFile.FieldType.int)) ∈ lw_tbl := tm_4 _ (List.mem_of_getElem? (i := 172) (by decide +kernel))
theorem tw_4_173 : (Jvm.Cond.methodLink "SheetReader$Judge" (170 : Nat) ({ cls := "java/lang/Integer", name := "bitCount", desc := "(I)I" } : Jvm.MethodName)) ∈ lw_tbl := tm_4 _ (List.mem_of_getElem? (i := 173) (by decide +kernel))
theorem tw_4_174 : (Jvm.Cond.static ({ cls := "java/lang/Integer", name := "bitCount", desc := "(I)I" } : Jvm.MethodName)) ∈ lw_tbl := tm_4 _ (List.mem_of_getElem? (i := 174) (by decide +kernel))
theorem tw_4_175 : (Jvm.Cond.code ({ cls := "java/lang/Integer", name := "bitCount", desc := "(I)I" } : Jvm.MethodName) prog_11_method_49_code (1 : Nat) (Option.some Jvm.ClassFile.FieldType.int)) ∈ lw_tbl := tm_4 _ (List.mem_of_getElem? (i := 175) (by decide +kernel))
theorem tw_4_176 : (Jvm.Cond.constant "java/lang/Integer" (265 : Nat) (1431655765 : Int32)) ∈ lw_tbl := tm_4 _ (List.mem_of_getElem? (i := 176) (by decide +kernel))
theorem tw_4_177 : (Jvm.Cond.constant "java/lang/Integer" (266 : Nat) (858993459 : Int32)) ∈ lw_tbl := tm_4 _ (List.mem_of_getElem? (i := 177) (by decide +kernel))
theorem tw_4_178 : (Jvm.Cond.constant "java/lang/Integer" (267 : Nat) (252645135 : Int32)) ∈ lw_tbl := tm_4 _ (List.mem_of_getElem? (i := 178) (by decide +kernel))
theorem tw_4_179 : (Jvm.Cond.methodLink "SheetReaderLaw" (129 : Nat) ({ cls := "SheetReader", name := "rank", desc := "(II)I" } : Jvm.MethodName)) ∈ lw_tbl := tm_4 _ (List.mem_of_getElem? (i := 179) (by decide +kernel))
theorem tw_4_180 : (Jvm.Cond.instanceMethod ({ cls := "SheetReader", name := "rank", desc := "(II)I" } : Jvm.MethodName)) ∈ lw_tbl := tm_4 _ (List.mem_of_getElem? (i := 180) (by decide +kernel))
theorem tw_4_181 : (Jvm.Cond.selects "SheetReader" ({ cls := "SheetReader", name := "rank", desc := "(II)I" } : Jvm.MethodName) ({ cls := "SheetReader", name := "rank", desc := "(II)I" } : Jvm.MethodName)) ∈ lw_tbl := tm_4 _ (List.mem_of_getElem? (i := 181) (by decide +kernel))
theorem tw_4_182 : (Jvm.Cond.code ({ cls := "SheetReader", name := "rank", desc := "(II)I" } : Jvm.MethodName) prog_1_method_29_code (3 : Nat) (Option.some Jvm.ClassFile.FieldType.int)) ∈ lw_tbl := tm_4 _ (List.mem_of_getElem? (i := 182) (by decide +kernel))
theorem tw_4_183 : (Jvm.Cond.methodLink "SheetReader" (335 : Nat) ({ cls := "SheetReader$Judge", name := "rankOf", desc := "(LSheetReader$Form;I)I" } : Jvm.MethodName)) ∈ lw_tbl := tm_4 _ (List.mem_of_getElem? (i := 183) (by decide +kernel))
theorem tw_4_184 : (Jvm.Cond.instanceMethod ({ cls := "SheetReader$Judge", name := "rankOf", desc := "(LSheetReader$Form;I)I" } : Jvm.MethodName)) ∈ lw_tbl := tm_4 _ (List.mem_of_getElem? (i := 184) (by decide +kernel))
theorem tw_4_185 : (Jvm.Cond.selects "SheetReader$Judge" ({ cls := "SheetReader$Judge", name := "rankOf", desc := "(LSheetReader$Form;I)I" } : Jvm.MethodName) ({ cls := "SheetReader$Judge", name := "rankOf", desc := "(LSheetReader$Form;I)I" } : Jvm.MethodName)) ∈ lw_tbl := tm_4 _ (List.mem_of_getElem? (i := 185) (by decide +kernel))
theorem tw_4_186 : (Jvm.Cond.code ({ cls := "SheetReader$Judge", name := "rankOf", desc := "(LSheetReader$Form;I)I" } : Jvm.MethodName) prog_5_method_14_code (5 : Nat) (Option.some Jvm.ClassFile.FieldType.int)) ∈ lw_tbl := tm_4 _ (List.mem_of_getElem? (i := 186) (by decide +kernel))
theorem tw_4_187 : (Jvm.Cond.methodLink "SheetReaderLaw" (133 : Nat) ({ cls := "SheetReader", name := "apart", desc := "(I)I" } : Jvm.MethodName)) ∈ lw_tbl := tm_4 _ (List.mem_of_getElem? (i := 187) (by decide +kernel))
theorem tw_4_188 : (Jvm.Cond.instanceMethod ({ cls := "SheetReader", name := "apart", desc := "(I)I" } : Jvm.MethodName)) ∈ lw_tbl := tm_4 _ (List.mem_of_getElem? (i := 188) (by decide +kernel))
theorem tw_4_189 : (Jvm.Cond.selects "SheetReader" ({ cls := "SheetReader", name := "apart", desc := "(I)I" } : Jvm.MethodName) ({ cls := "SheetReader", name := "apart", desc := "(I)I" } : Jvm.MethodName)) ∈ lw_tbl := tm_4 _ (List.mem_of_getElem? (i := 189) (by decide +kernel))
theorem tw_4_190 : (Jvm.Cond.code ({ cls := "SheetReader", name := "apart", desc := "(I)I" } : Jvm.MethodName) prog_1_method_30_code (2 : Nat) (Option.some Jvm.ClassFile.FieldType.int)) ∈ lw_tbl := tm_4 _ (List.mem_of_getElem? (i := 190) (by decide +kernel))
theorem tw_4_191 : (Jvm.Cond.methodLink "SheetReader" (338 : Nat) ({ cls := "SheetReader$Judge", name := "partedBy", desc := "(LSheetReader$Form;I)I" } : Jvm.MethodName)) ∈ lw_tbl := tm_4 _ (List.mem_of_getElem? (i := 191) (by decide +kernel))
theorem tw_4_192 : (Jvm.Cond.instanceMethod ({ cls := "SheetReader$Judge", name := "partedBy", desc := "(LSheetReader$Form;I)I" } : Jvm.MethodName)) ∈ lw_tbl := tm_4 _ (List.mem_of_getElem? (i := 192) (by decide +kernel))
theorem tw_4_193 : (Jvm.Cond.selects "SheetReader$Judge" ({ cls := "SheetReader$Judge", name := "partedBy", desc := "(LSheetReader$Form;I)I" } : Jvm.MethodName) ({ cls := "SheetReader$Judge", name := "partedBy", desc := "(LSheetReader$Form;I)I" } : Jvm.MethodName)) ∈ lw_tbl := tm_4 _ (List.mem_of_getElem? (i := 193) (by decide +kernel))
theorem tw_4_194 : (Jvm.Cond.code ({ cls := "SheetReader$Judge", name := "partedBy", desc := "(LSheetReader$Form;I)I" } : Jvm.MethodName) prog_5_method_15_code (6 : Nat) (Option.some Jvm.ClassFile.FieldType.int)) ∈ lw_tbl := tm_4 _ (List.mem_of_getElem? (i := 194) (by decide +kernel))
theorem tw_4_195 : (Jvm.Cond.methodLink "SheetReader$Judge" (176 : Nat) ({ cls := "SheetReader$Judge", name := "judgedElse", desc := "(LSheetReader$Form;I)I" } : Jvm.MethodName)) ∈ lw_tbl := tm_4 _ (List.mem_of_getElem? (i := 195) (by decide +kernel))
theorem tw_4_197 : (Jvm.Cond.instanceMethod ({ cls := "SheetReader$Judge", name := "judgedElse", desc := "(LSheetReader$Form;I)I" } : Jvm.MethodName)) ∈ lw_tbl := tm_4 _ (List.mem_of_getElem? (i := 197) (by decide +kernel))
theorem tw_4_198 : (Jvm.Cond.code ({ cls := "SheetReader$Judge", name := "judgedElse", desc := "(LSheetReader$Form;I)I" } : Jvm.MethodName) prog_5_method_16_code (8 : Nat) (Option.some Jvm.ClassFile.FieldType.int)) ∈ lw_tbl := tm_4 _ (List.mem_of_getElem? (i := 198) (by decide +kernel))
theorem tw_4_199 : (Jvm.Cond.methodLink "SheetReaderLaw" (137 : Nat) ({ cls := "SheetReader", name := "steady", desc := "(II)I" } : Jvm.MethodName)) ∈ lw_tbl := tm_4 _ (List.mem_of_getElem? (i := 199) (by decide +kernel))
theorem tw_4_200 : (Jvm.Cond.instanceMethod ({ cls := "SheetReader", name := "steady", desc := "(II)I" } : Jvm.MethodName)) ∈ lw_tbl := tm_4 _ (List.mem_of_getElem? (i := 200) (by decide +kernel))
theorem tw_4_201 : (Jvm.Cond.selects "SheetReader" ({ cls := "SheetReader", name := "steady", desc := "(II)I" } : Jvm.MethodName) ({ cls := "SheetReader", name := "steady", desc := "(II)I" } : Jvm.MethodName)) ∈ lw_tbl := tm_4 _ (List.mem_of_getElem? (i := 201) (by decide +kernel))
theorem tw_4_202 : (Jvm.Cond.code ({ cls := "SheetReader", name := "steady", desc := "(II)I" } : Jvm.MethodName) prog_1_method_31_code (3 : Nat) (Option.some Jvm.ClassFile.FieldType.int)) ∈ lw_tbl := tm_4 _ (List.mem_of_getElem? (i := 202) (by decide +kernel))
theorem tw_4_203 : (Jvm.Cond.methodLink "SheetReader" (341 : Nat) ({ cls := "SheetReader$Judge", name := "leastMargin", desc := "(I)I" } : Jvm.MethodName)) ∈ lw_tbl := tm_4 _ (List.mem_of_getElem? (i := 203) (by decide +kernel))
theorem tw_4_204 : (Jvm.Cond.instanceMethod ({ cls := "SheetReader$Judge", name := "leastMargin", desc := "(I)I" } : Jvm.MethodName)) ∈ lw_tbl := tm_4 _ (List.mem_of_getElem? (i := 204) (by decide +kernel))
theorem tw_4_205 : (Jvm.Cond.selects "SheetReader$Judge" ({ cls := "SheetReader$Judge", name := "leastMargin", desc := "(I)I" } : Jvm.MethodName) ({ cls := "SheetReader$Judge", name := "leastMargin", desc := "(I)I" } : Jvm.MethodName)) ∈ lw_tbl := tm_4 _ (List.mem_of_getElem? (i := 205) (by decide +kernel))
theorem tw_4_206 : (Jvm.Cond.code ({ cls := "SheetReader$Judge", name := "leastMargin", desc := "(I)I" } : Jvm.MethodName) prog_5_method_17_code (3 : Nat) (Option.some Jvm.ClassFile.FieldType.int)) ∈ lw_tbl := tm_4 _ (List.mem_of_getElem? (i := 206) (by decide +kernel))
theorem tw_4_207 : (Jvm.Cond.methodLink "SheetReader" (344 : Nat) ({ cls := "SheetReader$Judge", name := "greatestMargin", desc := "(I)I" } : Jvm.MethodName)) ∈ lw_tbl := tm_4 _ (List.mem_of_getElem? (i := 207) (by decide +kernel))
theorem tw_4_208 : (Jvm.Cond.instanceMethod ({ cls := "SheetReader$Judge", name := "greatestMargin", desc := "(I)I" } : Jvm.MethodName)) ∈ lw_tbl := tm_4 _ (List.mem_of_getElem? (i := 208) (by decide +kernel))
theorem tw_4_209 : (Jvm.Cond.selects "SheetReader$Judge" ({ cls := "SheetReader$Judge", name := "greatestMargin", desc := "(I)I" } : Jvm.MethodName) ({ cls := "SheetReader$Judge", name := "greatestMargin", desc := "(I)I" } : Jvm.MethodName)) ∈ lw_tbl := tm_4 _ (List.mem_of_getElem? (i := 209) (by decide +kernel))
theorem tw_4_210 : (Jvm.Cond.code ({ cls := "SheetReader$Judge", name := "greatestMargin", desc := "(I)I" } : Jvm.MethodName) prog_5_method_18_code (3 : Nat) (Option.some Jvm.ClassFile.FieldType.int)) ∈ lw_tbl := tm_4 _ (List.mem_of_getElem? (i := 210) (by decide +kernel))
theorem tw_4_211 : (Jvm.Cond.methodLink "SheetReaderLaw" (141 : Nat) ({ cls := "SheetReader", name := "corner", desc := "(III)Z" } : Jvm.MethodName)) ∈ lw_tbl := tm_4 _ (List.mem_of_getElem? (i := 211) (by decide +kernel))
theorem tw_4_212 : (Jvm.Cond.instanceMethod ({ cls := "SheetReader", name := "corner", desc := "(III)Z" } : Jvm.MethodName)) ∈ lw_tbl := tm_4 _ (List.mem_of_getElem? (i := 212) (by decide +kernel))
theorem tw_4_213 : (Jvm.Cond.selects "SheetReader" ({ cls := "SheetReader", name := "corner", desc := "(III)Z" } : Jvm.MethodName) ({ cls := "SheetReader", name := "corner", desc := "(III)Z" } : Jvm.MethodName)) ∈ lw_tbl := tm_4 _ (List.mem_of_getElem? (i := 213) (by decide +kernel))
theorem tw_4_214 : (Jvm.Cond.code ({ cls := "SheetReader", name := "corner", desc := "(III)Z" } : Jvm.MethodName) prog_1_method_32_code (4 : Nat) (Option.some Jvm.ClassFile.FieldType.boolean)) ∈ lw_tbl := tm_4 _ (List.mem_of_getElem? (i := 214) (by decide +kernel))
theorem tw_4_215 : (Jvm.Cond.methodLink "SheetReaderLaw" (146 : Nat) ({ cls := "SheetReader", name := "tick", desc := "(II)I" } : Jvm.MethodName)) ∈ lw_tbl := tm_4 _ (List.mem_of_getElem? (i := 215) (by decide +kernel))
theorem tw_4_216 : (Jvm.Cond.instanceMethod ({ cls := "SheetReader", name := "tick", desc := "(II)I" } : Jvm.MethodName)) ∈ lw_tbl := tm_4 _ (List.mem_of_getElem? (i := 216) (by decide +kernel))
theorem tw_4_217 : (Jvm.Cond.selects "SheetReader" ({ cls := "SheetReader", name := "tick", desc := "(II)I" } : Jvm.MethodName) ({ cls := "SheetReader", name := "tick", desc := "(II)I" } : Jvm.MethodName)) ∈ lw_tbl := tm_4 _ (List.mem_of_getElem? (i := 217) (by decide +kernel))
theorem tw_4_218 : (Jvm.Cond.code ({ cls := "SheetReader", name := "tick", desc := "(II)I" } : Jvm.MethodName) prog_1_method_33_code (4 : Nat) (Option.some Jvm.ClassFile.FieldType.int)) ∈ lw_tbl := tm_4 _ (List.mem_of_getElem? (i := 218) (by decide +kernel))
theorem tw_4_219 : (Jvm.Cond.methodLink "SheetReaderLaw" (150 : Nat) ({ cls := "SheetReader", name := "print", desc := "(I)I" } : Jvm.MethodName)) ∈ lw_tbl := tm_4 _ (List.mem_of_getElem? (i := 219) (by decide +kernel))
theorem tw_4_220 : (Jvm.Cond.instanceMethod ({ cls := "SheetReader", name := "print", desc := "(I)I" } : Jvm.MethodName)) ∈ lw_tbl := tm_4 _ (List.mem_of_getElem? (i := 220) (by decide +kernel))
theorem tw_4_221 : (Jvm.Cond.selects "SheetReader" ({ cls := "SheetReader", name := "print", desc := "(I)I" } : Jvm.MethodName) ({ cls := "SheetReader", name := "print", desc := "(I)I" } : Jvm.MethodName)) ∈ lw_tbl := tm_4 _ (List.mem_of_getElem? (i := 221) (by decide +kernel))
theorem tw_4_222 : (Jvm.Cond.code ({ cls := "SheetReader", name := "print", desc := "(I)I" } : Jvm.MethodName) prog_1_method_34_code (5 : Nat) (Option.some Jvm.ClassFile.FieldType.int)) ∈ lw_tbl := tm_4 _ (List.mem_of_getElem? (i := 222) (by decide +kernel))
theorem tw_4_223 : (Jvm.Cond.methodLink "SheetReader" (347 : Nat) ({ cls := "SheetReader$Scan", name := "holdsRound", desc := "(II)Z" } : Jvm.MethodName)) ∈ lw_tbl := tm_4 _ (List.mem_of_getElem? (i := 223) (by decide +kernel))
theorem tw_4_224 : (Jvm.Cond.instanceMethod ({ cls := "SheetReader$Scan", name := "holdsRound", desc := "(II)Z" } : Jvm.MethodName)) ∈ lw_tbl := tm_4 _ (List.mem_of_getElem? (i := 224) (by decide +kernel))
theorem tw_4_225 : (Jvm.Cond.selects "SheetReader$Scan" ({ cls := "SheetReader$Scan", name := "holdsRound", desc := "(II)Z" } : Jvm.MethodName) ({ cls := "SheetReader$Scan", name := "holdsRound", desc := "(II)Z" } : Jvm.MethodName)) ∈ lw_tbl := tm_4 _ (List.mem_of_getElem? (i := 225) (by decide +kernel))
theorem tw_4_226 : (Jvm.Cond.code ({ cls := "SheetReader$Scan", name := "holdsRound", desc := "(II)Z" } : Jvm.MethodName) prog_8_method_8_code (3 : Nat) (Option.some Jvm.ClassFile.FieldType.boolean)) ∈ lw_tbl := tm_4 _ (List.mem_of_getElem? (i := 226) (by decide +kernel))
theorem tw_4_227 : (Jvm.Cond.methodLink "SheetReader" (350 : Nat) ({ cls := "SheetReader$Scan", name := "putRound", desc := "(III)V" } : Jvm.MethodName)) ∈ lw_tbl := tm_4 _ (List.mem_of_getElem? (i := 227) (by decide +kernel))
theorem tw_4_228 : (Jvm.Cond.instanceMethod ({ cls := "SheetReader$Scan", name := "putRound", desc := "(III)V" } : Jvm.MethodName)) ∈ lw_tbl := tm_4 _ (List.mem_of_getElem? (i := 228) (by decide +kernel))
theorem tw_4_229 : (Jvm.Cond.selects "SheetReader$Scan" ({ cls := "SheetReader$Scan", name := "putRound", desc := "(III)V" } : Jvm.MethodName) ({ cls := "SheetReader$Scan", name := "putRound", desc := "(III)V" } : Jvm.MethodName)) ∈ lw_tbl := tm_4 _ (List.mem_of_getElem? (i := 229) (by decide +kernel))
theorem tw_4_230 : (Jvm.Cond.code ({ cls := "SheetReader$Scan", name := "putRound", desc := "(III)V" } : Jvm.MethodName) prog_8_method_9_code (6 : Nat) (Option.none : Option Jvm.ClassFile.FieldType)) ∈ lw_tbl := tm_4 _ (List.mem_of_getElem? (i := 230) (by decide +kernel))
theorem tw_4_231 : (Jvm.Cond.methodLink "SheetReader" (354 : Nat) ({ cls := "SheetReader$Places", name := "put", desc := "(IJJJ)V" } : Jvm.MethodName)) ∈ lw_tbl := tm_4 _ (List.mem_of_getElem? (i := 231) (by decide +kernel))
theorem tw_4_232 : (Jvm.Cond.methodLink "SheetReader" (357 : Nat) ({ cls := "SheetReader", name := "inkBox", desc := "(II)V" } : Jvm.MethodName)) ∈ lw_tbl := tm_4 _ (List.mem_of_getElem? (i := 232) (by decide +kernel))
theorem tw_4_234 : (Jvm.Cond.instanceMethod ({ cls := "SheetReader", name := "inkBox", desc := "(II)V" } : Jvm.MethodName)) ∈ lw_tbl := tm_4 _ (List.mem_of_getElem? (i := 234) (by decide +kernel))
theorem tw_4_235 : (Jvm.Cond.code ({ cls := "SheetReader", name := "inkBox", desc := "(II)V" } : Jvm.MethodName) prog_1_method_50_code (8 : Nat) (Option.none : Option Jvm.ClassFile.FieldType)) ∈ lw_tbl := tm_4 _ (List.mem_of_getElem? (i := 235) (by decide +kernel))
theorem tw_4_236 : (Jvm.Cond.methodLink "SheetReaderLaw" (154 : Nat) ({ cls := "SheetReader", name := "unlike", desc := "()I" } : Jvm.MethodName)) ∈ lw_tbl := tm_4 _ (List.mem_of_getElem? (i := 236) (by decide +kernel))
theorem tw_4_237 : (Jvm.Cond.instanceMethod ({ cls := "SheetReader", name := "unlike", desc := "()I" } : Jvm.MethodName)) ∈ lw_tbl := tm_4 _ (List.mem_of_getElem? (i := 237) (by decide +kernel))
theorem tw_4_238 : (Jvm.Cond.selects "SheetReader" ({ cls := "SheetReader", name := "unlike", desc := "()I" } : Jvm.MethodName) ({ cls := "SheetReader", name := "unlike", desc := "()I" } : Jvm.MethodName)) ∈ lw_tbl := tm_4 _ (List.mem_of_getElem? (i := 238) (by decide +kernel))
theorem tw_4_239 : (Jvm.Cond.code ({ cls := "SheetReader", name := "unlike", desc := "()I" } : Jvm.MethodName) prog_1_method_35_code (3 : Nat) (Option.some Jvm.ClassFile.FieldType.int)) ∈ lw_tbl := tm_4 _ (List.mem_of_getElem? (i := 239) (by decide +kernel))
theorem tw_5_0 : (Jvm.Cond.methodLink "SheetReaderLaw" (158 : Nat) ({ cls := "SheetReader", name := "up", desc := "()I" } : Jvm.MethodName)) ∈ lw_tbl := tm_5 _ (List.mem_of_getElem? (i := 0) (by decide +kernel))
theorem tw_5_1 : (Jvm.Cond.instanceMethod ({ cls := "SheetReader", name := "up", desc := "()I" } : Jvm.MethodName)) ∈ lw_tbl := tm_5 _ (List.mem_of_getElem? (i := 1) (by decide +kernel))
theorem tw_5_2 : (Jvm.Cond.selects "SheetReader" ({ cls := "SheetReader", name := "up", desc := "()I" } : Jvm.MethodName) ({ cls := "SheetReader", name := "up", desc := "()I" } : Jvm.MethodName)) ∈ lw_tbl := tm_5 _ (List.mem_of_getElem? (i := 2) (by decide +kernel))
theorem tw_5_3 : (Jvm.Cond.code ({ cls := "SheetReader", name := "up", desc := "()I" } : Jvm.MethodName) prog_1_method_36_code (5 : Nat) (Option.some Jvm.ClassFile.FieldType.int)) ∈ lw_tbl := tm_5 _ (List.mem_of_getElem? (i := 3) (by decide +kernel))
theorem tw_5_4 : (Jvm.Cond.methodLink "SheetReaderLaw" (162 : Nat) ({ cls := "SheetReader", name := "lay", desc := "()I" } : Jvm.MethodName)) ∈ lw_tbl := tm_5 _ (List.mem_of_getElem? (i := 4) (by decide +kernel))
theorem tw_5_5 : (Jvm.Cond.instanceMethod ({ cls := "SheetReader", name := "lay", desc := "()I" } : Jvm.MethodName)) ∈ lw_tbl := tm_5 _ (List.mem_of_getElem? (i := 5) (by decide +kernel))
theorem tw_5_6 : (Jvm.Cond.selects "SheetReader" ({ cls := "SheetReader", name := "lay", desc := "()I" } : Jvm.MethodName) ({ cls := "SheetReader", name := "lay", desc := "()I" } : Jvm.MethodName)) ∈ lw_tbl := tm_5 _ (List.mem_of_getElem? (i := 6) (by decide +kernel))
theorem tw_5_7 : (Jvm.Cond.code ({ cls := "SheetReader", name := "lay", desc := "()I" } : Jvm.MethodName) prog_1_method_37_code (1 : Nat) (Option.some Jvm.ClassFile.FieldType.int)) ∈ lw_tbl := tm_5 _ (List.mem_of_getElem? (i := 7) (by decide +kernel))
theorem tw_5_8 : (Jvm.Cond.methodLink "SheetReader" (360 : Nat) ({ cls := "SheetReader$Pile", name := "add", desc := "(LSheetReader$Judge;LSheetReader$Form;)I" } : Jvm.MethodName)) ∈ lw_tbl := tm_5 _ (List.mem_of_getElem? (i := 8) (by decide +kernel))
theorem tw_5_9 : (Jvm.Cond.instanceMethod ({ cls := "SheetReader$Pile", name := "add", desc := "(LSheetReader$Judge;LSheetReader$Form;)I" } : Jvm.MethodName)) ∈ lw_tbl := tm_5 _ (List.mem_of_getElem? (i := 9) (by decide +kernel))
theorem tw_5_10 : (Jvm.Cond.selects "SheetReader$Pile" ({ cls := "SheetReader$Pile", name := "add", desc := "(LSheetReader$Judge;LSheetReader$Form;)I" } : Jvm.MethodName) ({ cls := "SheetReader$Pile", name := "add", desc := "(LSheetReader$Judge;LSheetReader$Form;)I" } : Jvm.MethodName)) ∈ lw_tbl := tm_5 _ (List.mem_of_getElem? (i := 10) (by decide +kernel))
theorem tw_5_11 : (Jvm.Cond.code ({ cls := "SheetReader$Pile", name := "add", desc := "(LSheetReader$Judge;LSheetReader$Form;)I" } : Jvm.MethodName) prog_6_method_4_code (5 : Nat) (Option.some Jvm.ClassFile.FieldType.int)) ∈ lw_tbl := tm_5 _ (List.mem_of_getElem? (i := 11) (by decide +kernel))
theorem tw_5_12 : (Jvm.Cond.methodLink "SheetReader$Pile" (31 : Nat) ({ cls := "SheetReader$Judge", name := "allGains", desc := "(LSheetReader$Form;)I" } : Jvm.MethodName)) ∈ lw_tbl := tm_5 _ (List.mem_of_getElem? (i := 12) (by decide +kernel))
theorem tw_5_13 : (Jvm.Cond.methodLink "SheetReaderLaw" (166 : Nat) ({ cls := "SheetReader", name := "laid", desc := "(II)I" } : Jvm.MethodName)) ∈ lw_tbl := tm_5 _ (List.mem_of_getElem? (i := 13) (by decide +kernel))
theorem tw_5_14 : (Jvm.Cond.instanceMethod ({ cls := "SheetReader", name := "laid", desc := "(II)I" } : Jvm.MethodName)) ∈ lw_tbl := tm_5 _ (List.mem_of_getElem? (i := 14) (by decide +kernel))
theorem tw_5_15 : (Jvm.Cond.selects "SheetReader" ({ cls := "SheetReader", name := "laid", desc := "(II)I" } : Jvm.MethodName) ({ cls := "SheetReader", name := "laid", desc := "(II)I" } : Jvm.MethodName)) ∈ lw_tbl := tm_5 _ (List.mem_of_getElem? (i := 15) (by decide +kernel))
theorem tw_5_16 : (Jvm.Cond.code ({ cls := "SheetReader", name := "laid", desc := "(II)I" } : Jvm.MethodName) prog_1_method_38_code (3 : Nat) (Option.some Jvm.ClassFile.FieldType.int)) ∈ lw_tbl := tm_5 _ (List.mem_of_getElem? (i := 16) (by decide +kernel))
theorem tw_5_17 : (Jvm.Cond.methodLink "SheetReader" (364 : Nat) ({ cls := "SheetReader$Pile", name := "hasSheet", desc := "(I)Z" } : Jvm.MethodName)) ∈ lw_tbl := tm_5 _ (List.mem_of_getElem? (i := 17) (by decide +kernel))
theorem tw_5_18 : (Jvm.Cond.instanceMethod ({ cls := "SheetReader$Pile", name := "hasSheet", desc := "(I)Z" } : Jvm.MethodName)) ∈ lw_tbl := tm_5 _ (List.mem_of_getElem? (i := 18) (by decide +kernel))
theorem tw_5_19 : (Jvm.Cond.selects "SheetReader$Pile" ({ cls := "SheetReader$Pile", name := "hasSheet", desc := "(I)Z" } : Jvm.MethodName) ({ cls := "SheetReader$Pile", name := "hasSheet", desc := "(I)Z" } : Jvm.MethodName)) ∈ lw_tbl := tm_5 _ (List.mem_of_getElem? (i := 19) (by decide +kernel))
theorem tw_5_20 : (Jvm.Cond.code ({ cls := "SheetReader$Pile", name := "hasSheet", desc := "(I)Z" } : Jvm.MethodName) prog_6_method_2_code (2 : Nat) (Option.some Jvm.ClassFile.FieldType.boolean)) ∈ lw_tbl := tm_5 _ (List.mem_of_getElem? (i := 20) (by decide +kernel))
theorem tw_5_21 : (Jvm.Cond.methodLink "SheetReader" (374 : Nat) ({ cls := "SheetReader$Pile", name := "rankOf", desc := "(I)I" } : Jvm.MethodName)) ∈ lw_tbl := tm_5 _ (List.mem_of_getElem? (i := 21) (by decide +kernel))
theorem tw_5_22 : (Jvm.Cond.instanceMethod ({ cls := "SheetReader$Pile", name := "rankOf", desc := "(I)I" } : Jvm.MethodName)) ∈ lw_tbl := tm_5 _ (List.mem_of_getElem? (i := 22) (by decide +kernel))
theorem tw_5_23 : (Jvm.Cond.selects "SheetReader$Pile" ({ cls := "SheetReader$Pile", name := "rankOf", desc := "(I)I" } : Jvm.MethodName) ({ cls := "SheetReader$Pile", name := "rankOf", desc := "(I)I" } : Jvm.MethodName)) ∈ lw_tbl := tm_5 _ (List.mem_of_getElem? (i := 23) (by decide +kernel))
theorem tw_5_24 : (Jvm.Cond.code ({ cls := "SheetReader$Pile", name := "rankOf", desc := "(I)I" } : Jvm.MethodName) prog_6_method_6_code (4 : Nat) (Option.some Jvm.ClassFile.FieldType.int)) ∈ lw_tbl := tm_5 _ (List.mem_of_getElem? (i := 24) (by decide +kernel))
theorem tw_5_25 : (Jvm.Cond.methodLink "SheetReader" (376 : Nat) ({ cls := "SheetReader$Pile", name := "answer", desc := "(II)I" } : Jvm.MethodName)) ∈ lw_tbl := tm_5 _ (List.mem_of_getElem? (i := 25) (by decide +kernel))
theorem tw_5_26 : (Jvm.Cond.instanceMethod ({ cls := "SheetReader$Pile", name := "answer", desc := "(II)I" } : Jvm.MethodName)) ∈ lw_tbl := tm_5 _ (List.mem_of_getElem? (i := 26) (by decide +kernel))
theorem tw_5_27 : (Jvm.Cond.selects "SheetReader$Pile" ({ cls := "SheetReader$Pile", name := "answer", desc := "(II)I" } : Jvm.MethodName) ({ cls := "SheetReader$Pile", name := "answer", desc := "(II)I" } : Jvm.MethodName)) ∈ lw_tbl := tm_5 _ (List.mem_of_getElem? (i := 27) (by decide +kernel))
theorem tw_5_28 : (Jvm.Cond.code ({ cls := "SheetReader$Pile", name := "answer", desc := "(II)I" } : Jvm.MethodName) prog_6_method_3_code (3 : Nat) (Option.some Jvm.ClassFile.FieldType.int)) ∈ lw_tbl := tm_5 _ (List.mem_of_getElem? (i := 28) (by decide +kernel))
theorem tw_5_29 : (Jvm.Cond.methodLink "SheetReaderLaw" (170 : Nat) ({ cls := "SheetReader", name := "chosen", desc := "(II)I" } : Jvm.MethodName)) ∈ lw_tbl := tm_5 _ (List.mem_of_getElem? (i := 29) (by decide +kernel))
theorem tw_5_30 : (Jvm.Cond.instanceMethod ({ cls := "SheetReader", name := "chosen", desc := "(II)I" } : Jvm.MethodName)) ∈ lw_tbl := tm_5 _ (List.mem_of_getElem? (i := 30) (by decide +kernel))
theorem tw_5_31 : (Jvm.Cond.selects "SheetReader" ({ cls := "SheetReader", name := "chosen", desc := "(II)I" } : Jvm.MethodName) ({ cls := "SheetReader", name := "chosen", desc := "(II)I" } : Jvm.MethodName)) ∈ lw_tbl := tm_5 _ (List.mem_of_getElem? (i := 31) (by decide +kernel))
theorem tw_5_32 : (Jvm.Cond.code ({ cls := "SheetReader", name := "chosen", desc := "(II)I" } : Jvm.MethodName) prog_1_method_39_code (3 : Nat) (Option.some Jvm.ClassFile.FieldType.int)) ∈ lw_tbl := tm_5 _ (List.mem_of_getElem? (i := 32) (by decide +kernel))
theorem tw_5_33 : (Jvm.Cond.methodLink "SheetReader" (379 : Nat) ({ cls := "SheetReader$Pile", name := "rightOnes", desc := "(LSheetReader$Form;I)I" } : Jvm.MethodName)) ∈ lw_tbl := tm_5 _ (List.mem_of_getElem? (i := 33) (by decide +kernel))
theorem tw_5_34 : (Jvm.Cond.instanceMethod ({ cls := "SheetReader$Pile", name := "rightOnes", desc := "(LSheetReader$Form;I)I" } : Jvm.MethodName)) ∈ lw_tbl := tm_5 _ (List.mem_of_getElem? (i := 34) (by decide +kernel))
theorem tw_5_35 : (Jvm.Cond.selects "SheetReader$Pile" ({ cls := "SheetReader$Pile", name := "rightOnes", desc := "(LSheetReader$Form;I)I" } : Jvm.MethodName) ({ cls := "SheetReader$Pile", name := "rightOnes", desc := "(LSheetReader$Form;I)I" } : Jvm.MethodName)) ∈ lw_tbl := tm_5 _ (List.mem_of_getElem? (i := 35) (by decide +kernel))
theorem tw_5_36 : (Jvm.Cond.code ({ cls := "SheetReader$Pile", name := "rightOnes", desc := "(LSheetReader$Form;I)I" } : Jvm.MethodName) prog_6_method_8_code (5 : Nat) (Option.some Jvm.ClassFile.FieldType.int)) ∈ lw_tbl := tm_5 _ (List.mem_of_getElem? (i := 36) (by decide +kernel))
theorem tw_5_37 : (Jvm.Cond.methodLink "SheetReader$Pile" (53 : Nat) ({ cls := "SheetReader$Pile", name := "isRight", desc := "(LSheetReader$Form;II)Z" } : Jvm.MethodName)) ∈ lw_tbl := tm_5 _ (List.mem_of_getElem? (i := 37) (by decide +kernel))
theorem tw_5_38 : (Jvm.Cond.instanceMethod ({ cls := "SheetReader$Pile", name := "isRight", desc := "(LSheetReader$Form;II)Z" } : Jvm.MethodName)) ∈ lw_tbl := tm_5 _ (List.mem_of_getElem? (i := 38) (by decide +kernel))
theorem tw_5_39 : (Jvm.Cond.selects "SheetReader$Pile" ({ cls := "SheetReader$Pile", name := "isRight", desc := "(LSheetReader$Form;II)Z" } : Jvm.MethodName) ({ cls := "SheetReader$Pile", name := "isRight", desc := "(LSheetReader$Form;II)Z" } : Jvm.MethodName)) ∈ lw_tbl := tm_5 _ (List.mem_of_getElem? (i := 39) (by decide +kernel))
theorem tw_5_40 : (Jvm.Cond.code ({ cls := "SheetReader$Pile", name := "isRight", desc := "(LSheetReader$Form;II)Z" } : Jvm.MethodName) prog_6_method_7_code (4 : Nat) (Option.some Jvm.ClassFile.FieldType.boolean)) ∈ lw_tbl := tm_5 _ (List.mem_of_getElem? (i := 40) (by decide +kernel))
theorem tw_5_41 : (Jvm.Cond.methodLink "SheetReader$Pile" (46 : Nat) ({ cls := "SheetReader$Pile", name := "answer", desc := "(II)I" } : Jvm.MethodName)) ∈ lw_tbl := tm_5 _ (List.mem_of_getElem? (i := 41) (by decide +kernel))
theorem tw_5_42 : (Jvm.Cond.methodLink "SheetReader" (382 : Nat) ({ cls := "SheetReader$Pile", name := "choosing", desc := "(II)I" } : Jvm.MethodName)) ∈ lw_tbl := tm_5 _ (List.mem_of_getElem? (i := 42) (by decide +kernel))
theorem tw_5_43 : (Jvm.Cond.instanceMethod ({ cls := "SheetReader$Pile", name := "choosing", desc := "(II)I" } : Jvm.MethodName)) ∈ lw_tbl := tm_5 _ (List.mem_of_getElem? (i := 43) (by decide +kernel))
theorem tw_5_44 : (Jvm.Cond.selects "SheetReader$Pile" ({ cls := "SheetReader$Pile", name := "choosing", desc := "(II)I" } : Jvm.MethodName) ({ cls := "SheetReader$Pile", name := "choosing", desc := "(II)I" } : Jvm.MethodName)) ∈ lw_tbl := tm_5 _ (List.mem_of_getElem? (i := 44) (by decide +kernel))
theorem tw_5_45 : (Jvm.Cond.code ({ cls := "SheetReader$Pile", name := "choosing", desc := "(II)I" } : Jvm.MethodName) prog_6_method_9_code (5 : Nat) (Option.some Jvm.ClassFile.FieldType.int)) ∈ lw_tbl := tm_5 _ (List.mem_of_getElem? (i := 45) (by decide +kernel))
theorem tw_5_46 : (Jvm.Cond.methodLink "SheetReaderLaw" (174 : Nat) ({ cls := "SheetReader", name := "copied", desc := "(II)I" } : Jvm.MethodName)) ∈ lw_tbl := tm_5 _ (List.mem_of_getElem? (i := 46) (by decide +kernel))
theorem tw_5_47 : (Jvm.Cond.instanceMethod ({ cls := "SheetReader", name := "copied", desc := "(II)I" } : Jvm.MethodName)) ∈ lw_tbl := tm_5 _ (List.mem_of_getElem? (i := 47) (by decide +kernel))
theorem tw_5_48 : (Jvm.Cond.selects "SheetReader" ({ cls := "SheetReader", name := "copied", desc := "(II)I" } : Jvm.MethodName) ({ cls := "SheetReader", name := "copied", desc := "(II)I" } : Jvm.MethodName)) ∈ lw_tbl := tm_5 _ (List.mem_of_getElem? (i := 48) (by decide +kernel))
theorem tw_5_49 : (Jvm.Cond.code ({ cls := "SheetReader", name := "copied", desc := "(II)I" } : Jvm.MethodName) prog_1_method_40_code (6 : Nat) (Option.some Jvm.ClassFile.FieldType.int)) ∈ lw_tbl := tm_5 _ (List.mem_of_getElem? (i := 49) (by decide +kernel))
theorem tw_5_50 : (Jvm.Cond.methodLink "SheetReader" (385 : Nat) ({ cls := "SheetReader$Pile", name := "sharedFaults", desc := "(LSheetReader$Form;II)I" } : Jvm.MethodName)) ∈ lw_tbl := tm_5 _ (List.mem_of_getElem? (i := 50) (by decide +kernel))
theorem tw_5_51 : (Jvm.Cond.instanceMethod ({ cls := "SheetReader$Pile", name := "sharedFaults", desc := "(LSheetReader$Form;II)I" } : Jvm.MethodName)) ∈ lw_tbl := tm_5 _ (List.mem_of_getElem? (i := 51) (by decide +kernel))
theorem tw_5_52 : (Jvm.Cond.selects "SheetReader$Pile" ({ cls := "SheetReader$Pile", name := "sharedFaults", desc := "(LSheetReader$Form;II)I" } : Jvm.MethodName) ({ cls := "SheetReader$Pile", name := "sharedFaults", desc := "(LSheetReader$Form;II)I" } : Jvm.MethodName)) ∈ lw_tbl := tm_5 _ (List.mem_of_getElem? (i := 52) (by decide +kernel))
theorem tw_5_53 : (Jvm.Cond.code ({ cls := "SheetReader$Pile", name := "sharedFaults", desc := "(LSheetReader$Form;II)I" } : Jvm.MethodName) prog_6_method_10_code (7 : Nat) (Option.some Jvm.ClassFile.FieldType.int)) ∈ lw_tbl := tm_5 _ (List.mem_of_getElem? (i := 53) (by decide +kernel))
theorem tw_5_54 : (Jvm.Cond.methodLink "SheetReaderLaw" (178 : Nat) ({ cls := "SheetReader", name := "telling", desc := "(I)I" } : Jvm.MethodName)) ∈ lw_tbl := tm_5 _ (List.mem_of_getElem? (i := 54) (by decide +kernel))
theorem tw_5_55 : (Jvm.Cond.instanceMethod ({ cls := "SheetReader", name := "telling", desc := "(I)I" } : Jvm.MethodName)) ∈ lw_tbl := tm_5 _ (List.mem_of_getElem? (i := 55) (by decide +kernel))
theorem tw_5_56 : (Jvm.Cond.selects "SheetReader" ({ cls := "SheetReader", name := "telling", desc := "(I)I" } : Jvm.MethodName) ({ cls := "SheetReader", name := "telling", desc := "(I)I" } : Jvm.MethodName)) ∈ lw_tbl := tm_5 _ (List.mem_of_getElem? (i := 56) (by decide +kernel))
theorem tw_5_57 : (Jvm.Cond.code ({ cls := "SheetReader", name := "telling", desc := "(I)I" } : Jvm.MethodName) prog_1_method_41_code (2 : Nat) (Option.some Jvm.ClassFile.FieldType.int)) ∈ lw_tbl := tm_5 _ (List.mem_of_getElem? (i := 57) (by decide +kernel))
theorem tw_5_58 : (Jvm.Cond.methodLink "SheetReader" (389 : Nat) ({ cls := "SheetReader$Pile", name := "tellingOf", desc := "(LSheetReader$Form;I)I" } : Jvm.MethodName)) ∈ lw_tbl := tm_5 _ (List.mem_of_getElem? (i := 58) (by decide +kernel))
theorem tw_5_59 : (Jvm.Cond.instanceMethod ({ cls := "SheetReader$Pile", name := "tellingOf", desc := "(LSheetReader$Form;I)I" } : Jvm.MethodName)) ∈ lw_tbl := tm_5 _ (List.mem_of_getElem? (i := 59) (by decide +kernel))
theorem tw_5_60 : (Jvm.Cond.selects "SheetReader$Pile" ({ cls := "SheetReader$Pile", name := "tellingOf", desc := "(LSheetReader$Form;I)I" } : Jvm.MethodName) ({ cls := "SheetReader$Pile", name := "tellingOf", desc := "(LSheetReader$Form;I)I" } : Jvm.MethodName)) ∈ lw_tbl := tm_5 _ (List.mem_of_getElem? (i := 60) (by decide +kernel))
theorem tw_5_61 : (Jvm.Cond.code ({ cls := "SheetReader$Pile", name := "tellingOf", desc := "(LSheetReader$Form;I)I" } : Jvm.MethodName) prog_6_method_13_code (6 : Nat) (Option.some Jvm.ClassFile.FieldType.int)) ∈ lw_tbl := tm_5 _ (List.mem_of_getElem? (i := 61) (by decide +kernel))
theorem tw_5_62 : (Jvm.Cond.methodLink "SheetReader$Pile" (57 : Nat) ({ cls := "SheetReader$Pile", name := "sort", desc := "()V" } : Jvm.MethodName)) ∈ lw_tbl := tm_5 _ (List.mem_of_getElem? (i := 62) (by decide +kernel))
theorem tw_5_63 : (Jvm.Cond.instanceMethod ({ cls := "SheetReader$Pile", name := "sort", desc := "()V" } : Jvm.MethodName)) ∈ lw_tbl := tm_5 _ (List.mem_of_getElem? (i := 63) (by decide +kernel))
theorem tw_5_64 : (Jvm.Cond.selects "SheetReader$Pile" ({ cls := "SheetReader$Pile", name := "sort", desc := "()V" } : Jvm.MethodName) ({ cls := "SheetReader$Pile", name := "sort", desc := "()V" } : Jvm.MethodName)) ∈ lw_tbl := tm_5 _ (List.mem_of_getElem? (i := 64) (by decide +kernel))
theorem tw_5_65 : (Jvm.Cond.code ({ cls := "SheetReader$Pile", name := "sort", desc := "()V" } : Jvm.MethodName) prog_6_method_11_code (3 : Nat) (Option.none : Option Jvm.ClassFile.FieldType)) ∈ lw_tbl := tm_5 _ (List.mem_of_getElem? (i := 65) (by decide +kernel))
theorem tw_5_66 : (Jvm.Cond.methodLink "SheetReaderLaw" (182 : Nat) ({ cls := "SheetReader", name := "points", desc := "(I)I" } : Jvm.MethodName)) ∈ lw_tbl := tm_5 _ (List.mem_of_getElem? (i := 66) (by decide +kernel))
theorem tw_5_67 : (Jvm.Cond.instanceMethod ({ cls := "SheetReader", name := "points", desc := "(I)I" } : Jvm.MethodName)) ∈ lw_tbl := tm_5 _ (List.mem_of_getElem? (i := 67) (by decide +kernel))
theorem tw_5_68 : (Jvm.Cond.selects "SheetReader" ({ cls := "SheetReader", name := "points", desc := "(I)I" } : Jvm.MethodName) ({ cls := "SheetReader", name := "points", desc := "(I)I" } : Jvm.MethodName)) ∈ lw_tbl := tm_5 _ (List.mem_of_getElem? (i := 68) (by decide +kernel))
theorem tw_5_69 : (Jvm.Cond.code ({ cls := "SheetReader", name := "points", desc := "(I)I" } : Jvm.MethodName) prog_1_method_42_code (2 : Nat) (Option.some Jvm.ClassFile.FieldType.int)) ∈ lw_tbl := tm_5 _ (List.mem_of_getElem? (i := 69) (by decide +kernel))
theorem tw_5_70 : (Jvm.Cond.methodLink "SheetReader" (392 : Nat) ({ cls := "SheetReader$Pile", name := "sort", desc := "()V" } : Jvm.MethodName)) ∈ lw_tbl := tm_5 _ (List.mem_of_getElem? (i := 70) (by decide +kernel))
theorem tw_5_71 : (Jvm.Cond.methodLink "SheetReader" (395 : Nat) ({ cls := "SheetReader$Pile", name := "allGains", desc := "()I" } : Jvm.MethodName)) ∈ lw_tbl := tm_5 _ (List.mem_of_getElem? (i := 71) (by decide +kernel))
theorem tw_5_72 : (Jvm.Cond.instanceMethod ({ cls := "SheetReader$Pile", name := "allGains", desc := "()I" } : Jvm.MethodName)) ∈ lw_tbl := tm_5 _ (List.mem_of_getElem? (i := 72) (by decide +kernel))
theorem tw_5_73 : (Jvm.Cond.selects "SheetReader$Pile" ({ cls := "SheetReader$Pile", name := "allGains", desc := "()I" } : Jvm.MethodName) ({ cls := "SheetReader$Pile", name := "allGains", desc := "()I" } : Jvm.MethodName)) ∈ lw_tbl := tm_5 _ (List.mem_of_getElem? (i := 73) (by decide +kernel))
theorem tw_5_74 : (Jvm.Cond.code ({ cls := "SheetReader$Pile", name := "allGains", desc := "()I" } : Jvm.MethodName) prog_6_method_12_code (3 : Nat) (Option.some Jvm.ClassFile.FieldType.int)) ∈ lw_tbl := tm_5 _ (List.mem_of_getElem? (i := 74) (by decide +kernel))
theorem tw_5_75 : (Jvm.Cond.methodLink "SheetReaderLaw" (186 : Nat) ({ cls := "SheetReader", name := "take", desc := "(I)I" } : Jvm.MethodName)) ∈ lw_tbl := tm_5 _ (List.mem_of_getElem? (i := 75) (by decide +kernel))
theorem tw_5_76 : (Jvm.Cond.instanceMethod ({ cls := "SheetReader", name := "take", desc := "(I)I" } : Jvm.MethodName)) ∈ lw_tbl := tm_5 _ (List.mem_of_getElem? (i := 76) (by decide +kernel))
theorem tw_5_77 : (Jvm.Cond.selects "SheetReader" ({ cls := "SheetReader", name := "take", desc := "(I)I" } : Jvm.MethodName) ({ cls := "SheetReader", name := "take", desc := "(I)I" } : Jvm.MethodName)) ∈ lw_tbl := tm_5 _ (List.mem_of_getElem? (i := 77) (by decide +kernel))
theorem tw_5_78 : (Jvm.Cond.code ({ cls := "SheetReader", name := "take", desc := "(I)I" } : Jvm.MethodName) prog_1_method_43_code (2 : Nat) (Option.some Jvm.ClassFile.FieldType.int)) ∈ lw_tbl := tm_5 _ (List.mem_of_getElem? (i := 78) (by decide +kernel))
theorem tw_5_79 : (Jvm.Cond.methodLink "SheetReader" (400 : Nat) ({ cls := "SheetReader$Pile", name := "remove", desc := "(I)V" } : Jvm.MethodName)) ∈ lw_tbl := tm_5 _ (List.mem_of_getElem? (i := 79) (by decide +kernel))
theorem tw_5_80 : (Jvm.Cond.instanceMethod ({ cls := "SheetReader$Pile", name := "remove", desc := "(I)V" } : Jvm.MethodName)) ∈ lw_tbl := tm_5 _ (List.mem_of_getElem? (i := 80) (by decide +kernel))
theorem tw_5_81 : (Jvm.Cond.selects "SheetReader$Pile" ({ cls := "SheetReader$Pile", name := "remove", desc := "(I)V" } : Jvm.MethodName) ({ cls := "SheetReader$Pile", name := "remove", desc := "(I)V" } : Jvm.MethodName)) ∈ lw_tbl := tm_5 _ (List.mem_of_getElem? (i := 81) (by decide +kernel))
theorem tw_5_82 : (Jvm.Cond.code ({ cls := "SheetReader$Pile", name := "remove", desc := "(I)V" } : Jvm.MethodName) prog_6_method_5_code (4 : Nat) (Option.none : Option Jvm.ClassFile.FieldType)) ∈ lw_tbl := tm_5 _ (List.mem_of_getElem? (i := 82) (by decide +kernel))
theorem tw_5_83 : (Jvm.Cond.methodLink "SheetReaderLaw" (190 : Nat) ({ cls := "SheetReader", name := "level", desc := "()I" } : Jvm.MethodName)) ∈ lw_tbl := tm_5 _ (List.mem_of_getElem? (i := 83) (by decide +kernel))
theorem tw_5_84 : (Jvm.Cond.instanceMethod ({ cls := "SheetReader", name := "level", desc := "()I" } : Jvm.MethodName)) ∈ lw_tbl := tm_5 _ (List.mem_of_getElem? (i := 84) (by decide +kernel))
theorem tw_5_85 : (Jvm.Cond.selects "SheetReader" ({ cls := "SheetReader", name := "level", desc := "()I" } : Jvm.MethodName) ({ cls := "SheetReader", name := "level", desc := "()I" } : Jvm.MethodName)) ∈ lw_tbl := tm_5 _ (List.mem_of_getElem? (i := 85) (by decide +kernel))
theorem tw_5_86 : (Jvm.Cond.code ({ cls := "SheetReader", name := "level", desc := "()I" } : Jvm.MethodName) prog_1_method_44_code (25 : Nat) (Option.some Jvm.ClassFile.FieldType.int)) ∈ lw_tbl := tm_5 _ (List.mem_of_getElem? (i := 86) (by decide +kernel))
theorem tw_5_87 : (Jvm.Cond.methodLink "SheetReader" (403 : Nat) ({ cls := "SheetReader$Scan", name := "size", desc := "()I" } : Jvm.MethodName)) ∈ lw_tbl := tm_5 _ (List.mem_of_getElem? (i := 87) (by decide +kernel))
theorem tw_5_88 : (Jvm.Cond.classLink "SheetReaderLaw" (10 : Nat) "SheetReaderModel") ∈ lw_tbl := tm_5 _ (List.mem_of_getElem? (i := 88) (by decide +kernel))
theorem tw_5_89 : (Jvm.Cond.instantiable "SheetReaderModel" (66 : Nat)) ∈ lw_tbl := tm_5 _ (List.mem_of_getElem? (i := 89) (by decide +kernel))
theorem tw_5_90 : (Jvm.Cond.methodLink "SheetReaderLaw" (12 : Nat) ({ cls := "SheetReaderModel", name := "<init>", desc := "()V" } : Jvm.MethodName)) ∈ lw_tbl := tm_5 _ (List.mem_of_getElem? (i := 90) (by decide +kernel))
theorem tw_5_91 : (Jvm.Cond.instanceMethod ({ cls := "SheetReaderModel", name := "<init>", desc := "()V" } : Jvm.MethodName)) ∈ lw_tbl := tm_5 _ (List.mem_of_getElem? (i := 91) (by decide +kernel))
theorem tw_5_92 : (Jvm.Cond.code ({ cls := "SheetReaderModel", name := "<init>", desc := "()V" } : Jvm.MethodName) prog_10_method_1_code (1 : Nat) (Option.none : Option Jvm.ClassFile.FieldType)) ∈ lw_tbl := tm_5 _ (List.mem_of_getElem? (i := 92) (by decide +kernel))
theorem tw_5_93 : (Jvm.Cond.methodLink "SheetReaderModel" (1 : Nat) ({ cls := "java/lang/Object", name := "<init>", desc := "()V" } : Jvm.MethodName)) ∈ lw_tbl := tm_5 _ (List.mem_of_getElem? (i := 93) (by decide +kernel))
theorem tw_5_94 : (Jvm.Cond.fieldLink "SheetReaderModel" (7 : Nat) "SheetReaderModel" "tape" "[B") ∈ lw_tbl := tm_5 _ (List.mem_of_getElem? (i := 94) (by decide +kernel))
theorem tw_5_95 : (Jvm.Cond.fieldLink "SheetReaderModel" (142 : Nat) "SheetReaderModel" "taped" "I") ∈ lw_tbl := tm_5 _ (List.mem_of_getElem? (i := 95) (by decide +kernel))
theorem tw_5_96 : (Jvm.Cond.fieldLink "SheetReaderModel" (149 : Nat) "SheetReaderModel" "place0" "I") ∈ lw_tbl := tm_5 _ (List.mem_of_getElem? (i := 96) (by decide +kernel))
theorem tw_5_97 : (Jvm.Cond.fieldLink "SheetReaderModel" (152 : Nat) "SheetReaderModel" "length0" "I") ∈ lw_tbl := tm_5 _ (List.mem_of_getElem? (i := 97) (by decide +kernel))
theorem tw_5_98 : (Jvm.Cond.fieldLink "SheetReaderModel" (188 : Nat) "SheetReaderModel" "fault" "I") ∈ lw_tbl := tm_5 _ (List.mem_of_getElem? (i := 98) (by decide +kernel))
theorem tw_5_99 : (Jvm.Cond.fieldLink "SheetReaderModel" (162 : Nat) "SheetReaderModel" "token" "I") ∈ lw_tbl := tm_5 _ (List.mem_of_getElem? (i := 99) (by decide +kernel))
theorem tw_5_100 : (Jvm.Cond.fieldLink "SheetReaderModel" (159 : Nat) "SheetReaderModel" "begun" "I") ∈ lw_tbl := tm_5 _ (List.mem_of_getElem? (i := 100) (by decide +kernel))
theorem tw_5_101 : (Jvm.Cond.fieldLink "SheetReaderModel" (182 : Nat) "SheetReaderModel" "number" "I") ∈ lw_tbl := tm_5 _ (List.mem_of_getElem? (i := 101) (by decide +kernel))
theorem tw_5_102 : (Jvm.Cond.fieldLink "SheetReaderModel" (185 : Nat) "SheetReaderModel" "sign" "I") ∈ lw_tbl := tm_5 _ (List.mem_of_getElem? (i := 102) (by decide +kernel))
theorem tw_5_103 : (Jvm.Cond.fieldLink "SheetReaderModel" (179 : Nat) "SheetReaderModel" "letters" "I") ∈ lw_tbl := tm_5 _ (List.mem_of_getElem? (i := 103) (by decide +kernel))
theorem tw_5_104 : (Jvm.Cond.fieldLink "SheetReaderModel" (169 : Nat) "SheetReaderModel" "word" "J") ∈ lw_tbl := tm_5 _ (List.mem_of_getElem? (i := 104) (by decide +kernel))
theorem tw_5_105 : (Jvm.Cond.fieldLink "SheetReaderModel" (206 : Nat) "SheetReaderModel" "bank" "I") ∈ lw_tbl := tm_5 _ (List.mem_of_getElem? (i := 105) (by decide +kernel))
theorem tw_5_106 : (Jvm.Cond.fieldLink "SheetReaderModel" (202 : Nat) "SheetReaderModel" "isForm" "Z") ∈ lw_tbl := tm_5 _ (List.mem_of_getElem? (i := 106) (by decide +kernel))
theorem tw_5_107 : (Jvm.Cond.fieldLink "SheetReaderModel" (13 : Nat) "SheetReaderModel" "head" "[I") ∈ lw_tbl := tm_5 _ (List.mem_of_getElem? (i := 107) (by decide +kernel))
theorem tw_5_108 : (Jvm.Cond.fieldLink "SheetReaderModel" (17 : Nat) "SheetReaderModel" "qKind" "[I") ∈ lw_tbl := tm_5 _ (List.mem_of_getElem? (i := 108) (by decide +kernel))
theorem tw_5_109 : (Jvm.Cond.fieldLink "SheetReaderModel" (20 : Nat) "SheetReaderModel" "qBoxes" "[I") ∈ lw_tbl := tm_5 _ (List.mem_of_getElem? (i := 109) (by decide +kernel))
theorem tw_5_110 : (Jvm.Cond.fieldLink "SheetReaderModel" (23 : Nat) "SheetReaderModel" "qKey" "[I") ∈ lw_tbl := tm_5 _ (List.mem_of_getElem? (i := 110) (by decide +kernel))
theorem tw_5_111 : (Jvm.Cond.fieldLink "SheetReaderModel" (26 : Nat) "SheetReaderModel" "qWorth" "[I") ∈ lw_tbl := tm_5 _ (List.mem_of_getElem? (i := 111) (by decide +kernel))
theorem tw_5_112 : (Jvm.Cond.fieldLink "SheetReaderModel" (29 : Nat) "SheetReaderModel" "boxX" "[I") ∈ lw_tbl := tm_5 _ (List.mem_of_getElem? (i := 112) (by decide +kernel))
theorem tw_5_113 : (Jvm.Cond.fieldLink "SheetReaderModel" (32 : Nat) "SheetReaderModel" "boxY" "[I") ∈ lw_tbl := tm_5 _ (List.mem_of_getElem? (i := 113) (by decide +kernel))
theorem tw_5_114 : (Jvm.Cond.fieldLink "SheetReaderModel" (35 : Nat) "SheetReaderModel" "ticked" "[I") ∈ lw_tbl := tm_5 _ (List.mem_of_getElem? (i := 114) (by decide +kernel))
theorem tw_5_115 : (Jvm.Cond.fieldLink "SheetReaderModel" (38 : Nat) "SheetReaderModel" "dots" "[I") ∈ lw_tbl := tm_5 _ (List.mem_of_getElem? (i := 115) (by decide +kernel))
theorem tw_5_116 : (Jvm.Cond.fieldLink "SheetReaderModel" (41 : Nat) "SheetReaderModel" "was" "[I") ∈ lw_tbl := tm_5 _ (List.mem_of_getElem? (i := 116) (by decide +kernel))
theorem tw_5_117 : (Jvm.Cond.fieldLink "SheetReaderModel" (44 : Nat) "SheetReaderModel" "kept" "[I") ∈ lw_tbl := tm_5 _ (List.mem_of_getElem? (i := 117) (by decide +kernel))
theorem tw_5_118 : (Jvm.Cond.fieldLink "SheetReaderModel" (47 : Nat) "SheetReaderModel" "keptWide" "[I") ∈ lw_tbl := tm_5 _ (List.mem_of_getElem? (i := 118) (by decide +kernel))
theorem tw_5_119 : (Jvm.Cond.fieldLink "SheetReaderModel" (50 : Nat) "SheetReaderModel" "keptHigh" "[I") ∈ lw_tbl := tm_5 _ (List.mem_of_getElem? (i := 119) (by decide +kernel))
theorem tw_5_120 : (Jvm.Cond.fieldLink "SheetReaderModel" (53 : Nat) "SheetReaderModel" "setting" "[I") ∈ lw_tbl := tm_5 _ (List.mem_of_getElem? (i := 120) (by decide +kernel))
theorem tw_5_121 : (Jvm.Cond.fieldLink "SheetReaderModel" (56 : Nat) "SheetReaderModel" "cornerX" "[I") ∈ lw_tbl := tm_5 _ (List.mem_of_getElem? (i := 121) (by decide +kernel))
theorem tw_5_122 : (Jvm.Cond.fieldLink "SheetReaderModel" (59 : Nat) "SheetReaderModel" "cornerY" "[I") ∈ lw_tbl := tm_5 _ (List.mem_of_getElem? (i := 122) (by decide +kernel))
theorem tw_5_123 : (Jvm.Cond.fieldLink "SheetReaderModel" (132 : Nat) "SheetReaderModel" "wide" "I") ∈ lw_tbl := tm_5 _ (List.mem_of_getElem? (i := 123) (by decide +kernel))
theorem tw_5_124 : (Jvm.Cond.fieldLink "SheetReaderModel" (136 : Nat) "SheetReaderModel" "high" "I") ∈ lw_tbl := tm_5 _ (List.mem_of_getElem? (i := 124) (by decide +kernel))
theorem tw_5_125 : (Jvm.Cond.fieldLink "SheetReaderModel" (139 : Nat) "SheetReaderModel" "seed" "I") ∈ lw_tbl := tm_5 _ (List.mem_of_getElem? (i := 125) (by decide +kernel))
theorem tw_5_126 : (Jvm.Cond.fieldLink "SheetReaderModel" (62 : Nat) "SheetReaderModel" "near" "[I") ∈ lw_tbl := tm_5 _ (List.mem_of_getElem? (i := 126) (by decide +kernel))
theorem tw_5_127 : (Jvm.Cond.fieldLink "SheetReaderModel" (65 : Nat) "SheetReaderModel" "blobOf" "[I") ∈ lw_tbl := tm_5 _ (List.mem_of_getElem? (i := 127) (by decide +kernel))
theorem tw_5_128 : (Jvm.Cond.fieldLink "SheetReaderModel" (68 : Nat) "SheetReaderModel" "met" "[I") ∈ lw_tbl := tm_5 _ (List.mem_of_getElem? (i := 128) (by decide +kernel))
theorem tw_5_129 : (Jvm.Cond.fieldLink "SheetReaderModel" (71 : Nat) "SheetReaderModel" "bSize" "[I") ∈ lw_tbl := tm_5 _ (List.mem_of_getElem? (i := 129) (by decide +kernel))
theorem tw_5_130 : (Jvm.Cond.fieldLink "SheetReaderModel" (74 : Nat) "SheetReaderModel" "bX" "[I") ∈ lw_tbl := tm_5 _ (List.mem_of_getElem? (i := 130) (by decide +kernel))
theorem tw_5_131 : (Jvm.Cond.fieldLink "SheetReaderModel" (77 : Nat) "SheetReaderModel" "bY" "[I") ∈ lw_tbl := tm_5 _ (List.mem_of_getElem? (i := 131) (by decide +kernel))
theorem tw_5_132 : (Jvm.Cond.fieldLink "SheetReaderModel" (80 : Nat) "SheetReaderModel" "bFirst" "[I") ∈ lw_tbl := tm_5 _ (List.mem_of_getElem? (i := 132) (by decide +kernel))
theorem tw_5_133 : (Jvm.Cond.fieldLink "SheetReaderModel" (83 : Nat) "SheetReaderModel" "bLeft" "[I") ∈ lw_tbl := tm_5 _ (List.mem_of_getElem? (i := 133) (by decide +kernel))
theorem tw_5_134 : (Jvm.Cond.fieldLink "SheetReaderModel" (86 : Nat) "SheetReaderModel" "bRight" "[I") ∈ lw_tbl := tm_5 _ (List.mem_of_getElem? (i := 134) (by decide +kernel))
theorem tw_5_135 : (Jvm.Cond.fieldLink "SheetReaderModel" (89 : Nat) "SheetReaderModel" "bTop" "[I") ∈ lw_tbl := tm_5 _ (List.mem_of_getElem? (i := 135) (by decide +kernel))
theorem tw_5_136 : (Jvm.Cond.fieldLink "SheetReaderModel" (92 : Nat) "SheetReaderModel" "bLow" "[I") ∈ lw_tbl := tm_5 _ (List.mem_of_getElem? (i := 136) (by decide +kernel))
theorem tw_5_137 : (Jvm.Cond.fieldLink "SheetReaderModel" (313 : Nat) "SheetReaderModel" "blobs" "I") ∈ lw_tbl := tm_5 _ (List.mem_of_getElem? (i := 137) (by decide +kernel))
theorem tw_5_138 : (Jvm.Cond.fieldLink "SheetReaderModel" (316 : Nat) "SheetReaderModel" "many" "I") ∈ lw_tbl := tm_5 _ (List.mem_of_getElem? (i := 138) (by decide +kernel))
theorem tw_5_139 : (Jvm.Cond.fieldLink "SheetReaderModel" (95 : Nat) "SheetReaderModel" "mark" "[I") ∈ lw_tbl := tm_5 _ (List.mem_of_getElem? (i := 139) (by decide +kernel))
theorem tw_5_140 : (Jvm.Cond.fieldLink "SheetReaderModel" (98 : Nat) "SheetReaderModel" "mX" "[J") ∈ lw_tbl := tm_5 _ (List.mem_of_getElem? (i := 140) (by decide +kernel))
theorem tw_5_141 : (Jvm.Cond.fieldLink "SheetReaderModel" (102 : Nat) "SheetReaderModel" "mY" "[J") ∈ lw_tbl := tm_5 _ (List.mem_of_getElem? (i := 141) (by decide +kernel))
theorem tw_5_142 : (Jvm.Cond.fieldLink "SheetReaderModel" (105 : Nat) "SheetReaderModel" "mSize" "[J") ∈ lw_tbl := tm_5 _ (List.mem_of_getElem? (i := 142) (by decide +kernel))
theorem tw_5_143 : (Jvm.Cond.fieldLink "SheetReaderModel" (326 : Nat) "SheetReaderModel" "isMarked" "Z") ∈ lw_tbl := tm_5 _ (List.mem_of_getElem? (i := 143) (by decide +kernel))
theorem tw_5_144 : (Jvm.Cond.fieldLink "SheetReaderModel" (345 : Nat) "SheetReaderModel" "above" "J") ∈ lw_tbl := tm_5 _ (List.mem_of_getElem? (i := 144) (by decide +kernel))
theorem tw_5_145 : (Jvm.Cond.fieldLink "SheetReaderModel" (350 : Nat) "SheetReaderModel" "below" "J") ∈ lw_tbl := tm_5 _ (List.mem_of_getElem? (i := 145) (by decide +kernel))
theorem tw_5_146 : (Jvm.Cond.fieldLink "SheetReaderModel" (108 : Nat) "SheetReaderModel" "dark" "[I") ∈ lw_tbl := tm_5 _ (List.mem_of_getElem? (i := 146) (by decide +kernel))
theorem tw_5_147 : (Jvm.Cond.fieldLink "SheetReaderModel" (111 : Nat) "SheetReaderModel" "order" "[I") ∈ lw_tbl := tm_5 _ (List.mem_of_getElem? (i := 147) (by decide +kernel))
theorem tw_5_148 : (Jvm.Cond.fieldLink "SheetReaderModel" (363 : Nat) "SheetReaderModel" "paper" "I") ∈ lw_tbl := tm_5 _ (List.mem_of_getElem? (i := 148) (by decide +kernel))
theorem tw_5_149 : (Jvm.Cond.fieldLink "SheetReaderModel" (385 : Nat) "SheetReaderModel" "answer" "I") ∈ lw_tbl := tm_5 _ (List.mem_of_getElem? (i := 149) (by decide +kernel))
theorem tw_5_150 : (Jvm.Cond.fieldLink "SheetReaderModel" (391 : Nat) "SheetReaderModel" "doubt" "I") ∈ lw_tbl := tm_5 _ (List.mem_of_getElem? (i := 150) (by decide +kernel))
theorem tw_5_151 : (Jvm.Cond.fieldLink "SheetReaderModel" (388 : Nat) "SheetReaderModel" "rubbed" "I") ∈ lw_tbl := tm_5 _ (List.mem_of_getElem? (i := 151) (by decide +kernel))
theorem tw_5_152 : (Jvm.Cond.fieldLink "SheetReaderModel" (379 : Nat) "SheetReaderModel" "step" "I") ∈ lw_tbl := tm_5 _ (List.mem_of_getElem? (i := 152) (by decide +kernel))
theorem tw_5_153 : (Jvm.Cond.fieldLink "SheetReaderModel" (114 : Nat) "SheetReaderModel" "row" "[I") ∈ lw_tbl := tm_5 _ (List.mem_of_getElem? (i := 153) (by decide +kernel))
theorem tw_5_154 : (Jvm.Cond.fieldLink "SheetReaderModel" (117 : Nat) "SheetReaderModel" "sPoints" "[I") ∈ lw_tbl := tm_5 _ (List.mem_of_getElem? (i := 154) (by decide +kernel))
theorem tw_5_155 : (Jvm.Cond.fieldLink "SheetReaderModel" (120 : Nat) "SheetReaderModel" "sDoubt" "[I") ∈ lw_tbl := tm_5 _ (List.mem_of_getElem? (i := 155) (by decide +kernel))
theorem tw_5_156 : (Jvm.Cond.fieldLink "SheetReaderModel" (123 : Nat) "SheetReaderModel" "sDouble" "[I") ∈ lw_tbl := tm_5 _ (List.mem_of_getElem? (i := 156) (by decide +kernel))
theorem tw_5_157 : (Jvm.Cond.fieldLink "SheetReaderModel" (126 : Nat) "SheetReaderModel" "sAnswer" "[I") ∈ lw_tbl := tm_5 _ (List.mem_of_getElem? (i := 157) (by decide +kernel))
theorem tw_5_158 : (Jvm.Cond.fieldLink "SheetReaderModel" (129 : Nat) "SheetReaderModel" "sorted" "[I") ∈ lw_tbl := tm_5 _ (List.mem_of_getElem? (i := 158) (by decide +kernel))
theorem tw_5_159 : (Jvm.Cond.fieldLink "SheetReaderModel" (259 : Nat) "SheetReaderModel" "sheets" "I") ∈ lw_tbl := tm_5 _ (List.mem_of_getElem? (i := 159) (by decide +kernel))
theorem tw_5_160 : (Jvm.Cond.laysFinal "SheetReaderModel" "SheetReaderModel" "tape" "[B") ∈ lw_tbl := tm_5 _ (List.mem_of_getElem? (i := 160) (by decide +kernel))
theorem tw_5_162 : (Jvm.Cond.lays "SheetReaderModel" "SheetReaderModel" "taped" "I") ∈ lw_tbl := tm_5 _ (List.mem_of_getElem? (i := 162) (by decide +kernel))
theorem tw_5_164 : (Jvm.Cond.lays "SheetReaderModel" "SheetReaderModel" "place0" "I") ∈ lw_tbl := tm_5 _ (List.mem_of_getElem? (i := 164) (by decide +kernel))
theorem tw_5_166 : (Jvm.Cond.lays "SheetReaderModel" "SheetReaderModel" "length0" "I") ∈ lw_tbl := tm_5 _ (List.mem_of_getElem? (i := 166) (by decide +kernel))
theorem tw_5_168 : (Jvm.Cond.lays "SheetReaderModel" "SheetReaderModel" "fault" "I") ∈ lw_tbl := tm_5 _ (List.mem_of_getElem? (i := 168) (by decide +kernel))
theorem tw_5_170 : (Jvm.Cond.lays "SheetReaderModel" "SheetReaderModel" "token" "I") ∈ lw_tbl := tm_5 _ (List.mem_of_getElem? (i := 170) (by decide +kernel))
theorem tw_5_172 : (Jvm.Cond.lays "SheetReaderModel" "SheetReaderModel" "begun" "I") ∈ lw_tbl := tm_5 _ (List.mem_of_getElem? (i := 172) (by decide +kernel))
theorem tw_5_174 : (Jvm.Cond.lays "SheetReaderModel" "SheetReaderModel" "number" "I") ∈ lw_tbl := tm_5 _ (List.mem_of_getElem? (i := 174) (by decide +kernel))
theorem tw_5_176 : (Jvm.Cond.lays "SheetReaderModel" "SheetReaderModel" "sign" "I") ∈ lw_tbl := tm_5 _ (List.mem_of_getElem? (i := 176) (by decide +kernel))
theorem tw_5_178 : (Jvm.Cond.lays "SheetReaderModel" "SheetReaderModel" "letters" "I") ∈ lw_tbl := tm_5 _ (List.mem_of_getElem? (i := 178) (by decide +kernel))
theorem tw_5_180 : (Jvm.Cond.lays "SheetReaderModel" "SheetReaderModel" "word" "J") ∈ lw_tbl := tm_5 _ (List.mem_of_getElem? (i := 180) (by decide +kernel))
theorem tw_5_182 : (Jvm.Cond.lays "SheetReaderModel" "SheetReaderModel" "bank" "I") ∈ lw_tbl := tm_5 _ (List.mem_of_getElem? (i := 182) (by decide +kernel))
theorem tw_5_184 : (Jvm.Cond.lays "SheetReaderModel" "SheetReaderModel" "isForm" "Z") ∈ lw_tbl := tm_5 _ (List.mem_of_getElem? (i := 184) (by decide +kernel))
theorem tw_5_186 : (Jvm.Cond.laysFinal "SheetReaderModel" "SheetReaderModel" "head" "[I") ∈ lw_tbl := tm_5 _ (List.mem_of_getElem? (i := 186) (by decide +kernel))
theorem tw_5_188 : (Jvm.Cond.laysFinal "SheetReaderModel" "SheetReaderModel" "qKind" "[I") ∈ lw_tbl := tm_5 _ (List.mem_of_getElem? (i := 188) (by decide +kernel))
theorem tw_5_190 : (Jvm.Cond.laysFinal "SheetReaderModel" "SheetReaderModel" "qBoxes" "[I") ∈ lw_tbl := tm_5 _ (List.mem_of_getElem? (i := 190) (by decide +kernel))
theorem tw_5_192 : (Jvm.Cond.laysFinal "SheetReaderModel" "SheetReaderModel" "qKey" "[I") ∈ lw_tbl := tm_5 _ (List.mem_of_getElem? (i := 192) (by decide +kernel))
theorem tw_5_194 : (Jvm.Cond.laysFinal "SheetReaderModel" "SheetReaderModel" "qWorth" "[I") ∈ lw_tbl := tm_5 _ (List.mem_of_getElem? (i := 194) (by decide +kernel))
theorem tw_5_196 : (Jvm.Cond.laysFinal "SheetReaderModel" "SheetReaderModel" "boxX" "[I") ∈ lw_tbl := tm_5 _ (List.mem_of_getElem? (i := 196) (by decide +kernel))
theorem tw_5_198 : (Jvm.Cond.laysFinal "SheetReaderModel" "SheetReaderModel" "boxY" "[I") ∈ lw_tbl := tm_5 _ (List.mem_of_getElem? (i := 198) (by decide +kernel))
theorem tw_5_200 : (Jvm.Cond.laysFinal "SheetReaderModel" "SheetReaderModel" "ticked" "[I") ∈ lw_tbl := tm_5 _ (List.mem_of_getElem? (i := 200) (by decide +kernel))
theorem tw_5_202 : (Jvm.Cond.laysFinal "SheetReaderModel" "SheetReaderModel" "dots" "[I") ∈ lw_tbl := tm_5 _ (List.mem_of_getElem? (i := 202) (by decide +kernel))
theorem tw_5_204 : (Jvm.Cond.laysFinal "SheetReaderModel" "SheetReaderModel" "was" "[I") ∈ lw_tbl := tm_5 _ (List.mem_of_getElem? (i := 204) (by decide +kernel))
theorem tw_5_206 : (Jvm.Cond.laysFinal "SheetReaderModel" "SheetReaderModel" "kept" "[I") ∈ lw_tbl := tm_5 _ (List.mem_of_getElem? (i := 206) (by decide +kernel))
theorem tw_5_208 : (Jvm.Cond.laysFinal "SheetReaderModel" "SheetReaderModel" "keptWide" "[I") ∈ lw_tbl := tm_5 _ (List.mem_of_getElem? (i := 208) (by decide +kernel))
theorem tw_5_210 : (Jvm.Cond.laysFinal "SheetReaderModel" "SheetReaderModel" "keptHigh" "[I") ∈ lw_tbl := tm_5 _ (List.mem_of_getElem? (i := 210) (by decide +kernel))
theorem tw_5_212 : (Jvm.Cond.laysFinal "SheetReaderModel" "SheetReaderModel" "setting" "[I") ∈ lw_tbl := tm_5 _ (List.mem_of_getElem? (i := 212) (by decide +kernel))
theorem tw_5_214 : (Jvm.Cond.laysFinal "SheetReaderModel" "SheetReaderModel" "cornerX" "[I") ∈ lw_tbl := tm_5 _ (List.mem_of_getElem? (i := 214) (by decide +kernel))
theorem tw_5_216 : (Jvm.Cond.laysFinal "SheetReaderModel" "SheetReaderModel" "cornerY" "[I") ∈ lw_tbl := tm_5 _ (List.mem_of_getElem? (i := 216) (by decide +kernel))
theorem tw_5_218 : (Jvm.Cond.lays "SheetReaderModel" "SheetReaderModel" "wide" "I") ∈ lw_tbl := tm_5 _ (List.mem_of_getElem? (i := 218) (by decide +kernel))
theorem tw_5_220 : (Jvm.Cond.lays "SheetReaderModel" "SheetReaderModel" "high" "I") ∈ lw_tbl := tm_5 _ (List.mem_of_getElem? (i := 220) (by decide +kernel))
theorem tw_5_222 : (Jvm.Cond.lays "SheetReaderModel" "SheetReaderModel" "seed" "I") ∈ lw_tbl := tm_5 _ (List.mem_of_getElem? (i := 222) (by decide +kernel))
theorem tw_5_224 : (Jvm.Cond.laysFinal "SheetReaderModel" "SheetReaderModel" "near" "[I") ∈ lw_tbl := tm_5 _ (List.mem_of_getElem? (i := 224) (by decide +kernel))
theorem tw_5_226 : (Jvm.Cond.laysFinal "SheetReaderModel" "SheetReaderModel" "blobOf" "[I") ∈ lw_tbl := tm_5 _ (List.mem_of_getElem? (i := 226) (by decide +kernel))
theorem tw_5_228 : (Jvm.Cond.laysFinal "SheetReaderModel" "SheetReaderModel" "met" "[I") ∈ lw_tbl := tm_5 _ (List.mem_of_getElem? (i := 228) (by decide +kernel))
theorem tw_5_230 : (Jvm.Cond.laysFinal "SheetReaderModel" "SheetReaderModel" "bSize" "[I") ∈ lw_tbl := tm_5 _ (List.mem_of_getElem? (i := 230) (by decide +kernel))
theorem tw_5_232 : (Jvm.Cond.laysFinal "SheetReaderModel" "SheetReaderModel" "bX" "[I") ∈ lw_tbl := tm_5 _ (List.mem_of_getElem? (i := 232) (by decide +kernel))
theorem tw_5_234 : (Jvm.Cond.laysFinal "SheetReaderModel" "SheetReaderModel" "bY" "[I") ∈ lw_tbl := tm_5 _ (List.mem_of_getElem? (i := 234) (by decide +kernel))
theorem tw_5_236 : (Jvm.Cond.laysFinal "SheetReaderModel" "SheetReaderModel" "bFirst" "[I") ∈ lw_tbl := tm_5 _ (List.mem_of_getElem? (i := 236) (by decide +kernel))
theorem tw_5_238 : (Jvm.Cond.laysFinal "SheetReaderModel" "SheetReaderModel" "bLeft" "[I") ∈ lw_tbl := tm_5 _ (List.mem_of_getElem? (i := 238) (by decide +kernel))
theorem tw_6_0 : (Jvm.Cond.laysFinal "SheetReaderModel" "SheetReaderModel" "bRight" "[I") ∈ lw_tbl := tm_6 _ (List.mem_of_getElem? (i := 0) (by decide +kernel))
theorem tw_6_2 : (Jvm.Cond.laysFinal "SheetReaderModel" "SheetReaderModel" "bTop" "[I") ∈ lw_tbl := tm_6 _ (List.mem_of_getElem? (i := 2) (by decide +kernel))
theorem tw_6_4 : (Jvm.Cond.laysFinal "SheetReaderModel" "SheetReaderModel" "bLow" "[I") ∈ lw_tbl := tm_6 _ (List.mem_of_getElem? (i := 4) (by decide +kernel))
theorem tw_6_6 : (Jvm.Cond.lays "SheetReaderModel" "SheetReaderModel" "blobs" "I") ∈ lw_tbl := tm_6 _ (List.mem_of_getElem? (i := 6) (by decide +kernel))
theorem tw_6_8 : (Jvm.Cond.lays "SheetReaderModel" "SheetReaderModel" "many" "I") ∈ lw_tbl := tm_6 _ (List.mem_of_getElem? (i := 8) (by decide +kernel))
theorem tw_6_10 : (Jvm.Cond.laysFinal "SheetReaderModel" "SheetReaderModel" "mark" "[I") ∈ lw_tbl := tm_6 _ (List.mem_of_getElem? (i := 10) (by decide +kernel))
theorem tw_6_12 : (Jvm.Cond.laysFinal "SheetReaderModel" "SheetReaderModel" "mX" "[J") ∈ lw_tbl := tm_6 _ (List.mem_of_getElem? (i := 12) (by decide +kernel))
theorem tw_6_14 : (Jvm.Cond.laysFinal "SheetReaderModel" "SheetReaderModel" "mY" "[J") ∈ lw_tbl := tm_6 _ (List.mem_of_getElem? (i := 14) (by decide +kernel))
theorem tw_6_16 : (Jvm.Cond.laysFinal "SheetReaderModel" "SheetReaderModel" "mSize" "[J") ∈ lw_tbl := tm_6 _ (List.mem_of_getElem? (i := 16) (by decide +kernel))
theorem tw_6_18 : (Jvm.Cond.lays "SheetReaderModel" "SheetReaderModel" "isMarked" "Z") ∈ lw_tbl := tm_6 _ (List.mem_of_getElem? (i := 18) (by decide +kernel))
theorem tw_6_20 : (Jvm.Cond.lays "SheetReaderModel" "SheetReaderModel" "above" "J") ∈ lw_tbl := tm_6 _ (List.mem_of_getElem? (i := 20) (by decide +kernel))
theorem tw_6_22 : (Jvm.Cond.lays "SheetReaderModel" "SheetReaderModel" "below" "J") ∈ lw_tbl := tm_6 _ (List.mem_of_getElem? (i := 22) (by decide +kernel))
theorem tw_6_24 : (Jvm.Cond.laysFinal "SheetReaderModel" "SheetReaderModel" "dark" "[I") ∈ lw_tbl := tm_6 _ (List.mem_of_getElem? (i := 24) (by decide +kernel))
theorem tw_6_26 : (Jvm.Cond.laysFinal "SheetReaderModel" "SheetReaderModel" "order" "[I") ∈ lw_tbl := tm_6 _ (List.mem_of_getElem? (i := 26) (by decide +kernel))
theorem tw_6_28 : (Jvm.Cond.lays "SheetReaderModel" "SheetReaderModel" "paper" "I") ∈ lw_tbl := tm_6 _ (List.mem_of_getElem? (i := 28) (by decide +kernel))
theorem tw_6_30 : (Jvm.Cond.lays "SheetReaderModel" "SheetReaderModel" "answer" "I") ∈ lw_tbl := tm_6 _ (List.mem_of_getElem? (i := 30) (by decide +kernel))
theorem tw_6_32 : (Jvm.Cond.lays "SheetReaderModel" "SheetReaderModel" "doubt" "I") ∈ lw_tbl := tm_6 _ (List.mem_of_getElem? (i := 32) (by decide +kernel))
theorem tw_6_34 : (Jvm.Cond.lays "SheetReaderModel" "SheetReaderModel" "rubbed" "I") ∈ lw_tbl := tm_6 _ (List.mem_of_getElem? (i := 34) (by decide +kernel))
theorem tw_6_36 : (Jvm.Cond.lays "SheetReaderModel" "SheetReaderModel" "step" "I") ∈ lw_tbl := tm_6 _ (List.mem_of_getElem? (i := 36) (by decide +kernel))
theorem tw_6_38 : (Jvm.Cond.laysFinal "SheetReaderModel" "SheetReaderModel" "row" "[I") ∈ lw_tbl := tm_6 _ (List.mem_of_getElem? (i := 38) (by decide +kernel))
theorem tw_6_40 : (Jvm.Cond.laysFinal "SheetReaderModel" "SheetReaderModel" "sPoints" "[I") ∈ lw_tbl := tm_6 _ (List.mem_of_getElem? (i := 40) (by decide +kernel))
theorem tw_6_42 : (Jvm.Cond.laysFinal "SheetReaderModel" "SheetReaderModel" "sDoubt" "[I") ∈ lw_tbl := tm_6 _ (List.mem_of_getElem? (i := 42) (by decide +kernel))
theorem tw_6_44 : (Jvm.Cond.laysFinal "SheetReaderModel" "SheetReaderModel" "sDouble" "[I") ∈ lw_tbl := tm_6 _ (List.mem_of_getElem? (i := 44) (by decide +kernel))
theorem tw_6_46 : (Jvm.Cond.laysFinal "SheetReaderModel" "SheetReaderModel" "sAnswer" "[I") ∈ lw_tbl := tm_6 _ (List.mem_of_getElem? (i := 46) (by decide +kernel))
theorem tw_6_48 : (Jvm.Cond.laysFinal "SheetReaderModel" "SheetReaderModel" "sorted" "[I") ∈ lw_tbl := tm_6 _ (List.mem_of_getElem? (i := 48) (by decide +kernel))
theorem tw_6_50 : (Jvm.Cond.lays "SheetReaderModel" "SheetReaderModel" "sheets" "I") ∈ lw_tbl := tm_6 _ (List.mem_of_getElem? (i := 50) (by decide +kernel))
theorem tw_6_53 : (Jvm.Cond.methodLink "SheetReaderLaw" (17 : Nat) ({ cls := "SheetReaderModel", name := "feed", desc := "(IIIII)I" } : Jvm.MethodName)) ∈ lw_tbl := tm_6 _ (List.mem_of_getElem? (i := 53) (by decide +kernel))
theorem tw_6_54 : (Jvm.Cond.instanceMethod ({ cls := "SheetReaderModel", name := "feed", desc := "(IIIII)I" } : Jvm.MethodName)) ∈ lw_tbl := tm_6 _ (List.mem_of_getElem? (i := 54) (by decide +kernel))
theorem tw_6_55 : (Jvm.Cond.selects "SheetReaderModel" ({ cls := "SheetReaderModel", name := "feed", desc := "(IIIII)I" } : Jvm.MethodName) ({ cls := "SheetReaderModel", name := "feed", desc := "(IIIII)I" } : Jvm.MethodName)) ∈ lw_tbl := tm_6 _ (List.mem_of_getElem? (i := 55) (by decide +kernel))
theorem tw_6_56 : (Jvm.Cond.code ({ cls := "SheetReaderModel", name := "feed", desc := "(IIIII)I" } : Jvm.MethodName) prog_10_method_6_code (6 : Nat) (Option.some Jvm.ClassFile.FieldType.int)) ∈ lw_tbl := tm_6 _ (List.mem_of_getElem? (i := 56) (by decide +kernel))
theorem tw_6_57 : (Jvm.Cond.methodLink "SheetReaderModel" (145 : Nat) ({ cls := "SheetReaderModel", name := "typed4", desc := "(I)V" } : Jvm.MethodName)) ∈ lw_tbl := tm_6 _ (List.mem_of_getElem? (i := 57) (by decide +kernel))
theorem tw_6_59 : (Jvm.Cond.instanceMethod ({ cls := "SheetReaderModel", name := "typed4", desc := "(I)V" } : Jvm.MethodName)) ∈ lw_tbl := tm_6 _ (List.mem_of_getElem? (i := 59) (by decide +kernel))
theorem tw_6_60 : (Jvm.Cond.code ({ cls := "SheetReaderModel", name := "typed4", desc := "(I)V" } : Jvm.MethodName) prog_10_method_5_code (3 : Nat) (Option.none : Option Jvm.ClassFile.FieldType)) ∈ lw_tbl := tm_6 _ (List.mem_of_getElem? (i := 60) (by decide +kernel))
theorem tw_6_61 : (Jvm.Cond.methodLink "SheetReaderLaw" (22 : Nat) ({ cls := "SheetReaderModel", name := "form", desc := "(I)I" } : Jvm.MethodName)) ∈ lw_tbl := tm_6 _ (List.mem_of_getElem? (i := 61) (by decide +kernel))
theorem tw_6_62 : (Jvm.Cond.instanceMethod ({ cls := "SheetReaderModel", name := "form", desc := "(I)I" } : Jvm.MethodName)) ∈ lw_tbl := tm_6 _ (List.mem_of_getElem? (i := 62) (by decide +kernel))
theorem tw_6_63 : (Jvm.Cond.selects "SheetReaderModel" ({ cls := "SheetReaderModel", name := "form", desc := "(I)I" } : Jvm.MethodName) ({ cls := "SheetReaderModel", name := "form", desc := "(I)I" } : Jvm.MethodName)) ∈ lw_tbl := tm_6 _ (List.mem_of_getElem? (i := 63) (by decide +kernel))
theorem tw_6_64 : (Jvm.Cond.code ({ cls := "SheetReaderModel", name := "form", desc := "(I)I" } : Jvm.MethodName) prog_10_method_22_code (3 : Nat) (Option.some Jvm.ClassFile.FieldType.int)) ∈ lw_tbl := tm_6 _ (List.mem_of_getElem? (i := 64) (by decide +kernel))
theorem tw_6_65 : (Jvm.Cond.methodLink "SheetReaderModel" (165 : Nat) ({ cls := "SheetReaderModel", name := "in", desc := "(III)Z" } : Jvm.MethodName)) ∈ lw_tbl := tm_6 _ (List.mem_of_getElem? (i := 65) (by decide +kernel))
theorem tw_6_66 : (Jvm.Cond.static ({ cls := "SheetReaderModel", name := "in", desc := "(III)Z" } : Jvm.MethodName)) ∈ lw_tbl := tm_6 _ (List.mem_of_getElem? (i := 66) (by decide +kernel))
theorem tw_6_67 : (Jvm.Cond.code ({ cls := "SheetReaderModel", name := "in", desc := "(III)Z" } : Jvm.MethodName) prog_10_method_2_code (3 : Nat) (Option.some Jvm.ClassFile.FieldType.boolean)) ∈ lw_tbl := tm_6 _ (List.mem_of_getElem? (i := 67) (by decide +kernel))
theorem tw_6_68 : (Jvm.Cond.methodLink "SheetReaderModel" (199 : Nat) ({ cls := "SheetReaderModel", name := "next", desc := "()V" } : Jvm.MethodName)) ∈ lw_tbl := tm_6 _ (List.mem_of_getElem? (i := 68) (by decide +kernel))
theorem tw_6_70 : (Jvm.Cond.instanceMethod ({ cls := "SheetReaderModel", name := "next", desc := "()V" } : Jvm.MethodName)) ∈ lw_tbl := tm_6 _ (List.mem_of_getElem? (i := 70) (by decide +kernel))
theorem tw_6_71 : (Jvm.Cond.code ({ cls := "SheetReaderModel", name := "next", desc := "()V" } : Jvm.MethodName) prog_10_method_8_code (2 : Nat) (Option.none : Option Jvm.ClassFile.FieldType)) ∈ lw_tbl := tm_6 _ (List.mem_of_getElem? (i := 71) (by decide +kernel))
theorem tw_6_72 : (Jvm.Cond.methodLink "SheetReaderModel" (155 : Nat) ({ cls := "SheetReaderModel", name := "here", desc := "()I" } : Jvm.MethodName)) ∈ lw_tbl := tm_6 _ (List.mem_of_getElem? (i := 72) (by decide +kernel))
theorem tw_6_74 : (Jvm.Cond.instanceMethod ({ cls := "SheetReaderModel", name := "here", desc := "()I" } : Jvm.MethodName)) ∈ lw_tbl := tm_6 _ (List.mem_of_getElem? (i := 74) (by decide +kernel))
theorem tw_6_75 : (Jvm.Cond.code ({ cls := "SheetReaderModel", name := "here", desc := "()I" } : Jvm.MethodName) prog_10_method_7_code (1 : Nat) (Option.some Jvm.ClassFile.FieldType.int)) ∈ lw_tbl := tm_6 _ (List.mem_of_getElem? (i := 75) (by decide +kernel))
theorem tw_6_76 : (Jvm.Cond.constantLong "SheetReaderModel" (173 : Nat) (32 : Int64)) ∈ lw_tbl := tm_6 _ (List.mem_of_getElem? (i := 76) (by decide +kernel))
theorem tw_6_77 : (Jvm.Cond.constantLong "SheetReaderModel" (175 : Nat) (97 : Int64)) ∈ lw_tbl := tm_6 _ (List.mem_of_getElem? (i := 77) (by decide +kernel))
theorem tw_6_78 : (Jvm.Cond.constantLong "SheetReaderModel" (177 : Nat) (-1 : Int64)) ∈ lw_tbl := tm_6 _ (List.mem_of_getElem? (i := 78) (by decide +kernel))
theorem tw_6_79 : (Jvm.Cond.methodLink "SheetReaderModel" (256 : Nat) ({ cls := "SheetReaderModel", name := "reads", desc := "()Z" } : Jvm.MethodName)) ∈ lw_tbl := tm_6 _ (List.mem_of_getElem? (i := 79) (by decide +kernel))
theorem tw_6_81 : (Jvm.Cond.instanceMethod ({ cls := "SheetReaderModel", name := "reads", desc := "()Z" } : Jvm.MethodName)) ∈ lw_tbl := tm_6 _ (List.mem_of_getElem? (i := 81) (by decide +kernel))
theorem tw_6_82 : (Jvm.Cond.code ({ cls := "SheetReaderModel", name := "reads", desc := "()Z" } : Jvm.MethodName) prog_10_method_21_code (1 : Nat) (Option.some Jvm.ClassFile.FieldType.boolean)) ∈ lw_tbl := tm_6 _ (List.mem_of_getElem? (i := 82) (by decide +kernel))
theorem tw_6_83 : (Jvm.Cond.constantLong "SheetReaderModel" (245 : Nat) (632645 : Int64)) ∈ lw_tbl := tm_6 _ (List.mem_of_getElem? (i := 83) (by decide +kernel))
theorem tw_6_84 : (Jvm.Cond.methodLink "SheetReaderModel" (247 : Nat) ({ cls := "SheetReaderModel", name := "readsTwo", desc := "(IJII)Z" } : Jvm.MethodName)) ∈ lw_tbl := tm_6 _ (List.mem_of_getElem? (i := 84) (by decide +kernel))
theorem tw_6_86 : (Jvm.Cond.instanceMethod ({ cls := "SheetReaderModel", name := "readsTwo", desc := "(IJII)Z" } : Jvm.MethodName)) ∈ lw_tbl := tm_6 _ (List.mem_of_getElem? (i := 86) (by decide +kernel))
theorem tw_6_87 : (Jvm.Cond.code ({ cls := "SheetReaderModel", name := "readsTwo", desc := "(IJII)Z" } : Jvm.MethodName) prog_10_method_15_code (7 : Nat) (Option.some Jvm.ClassFile.FieldType.boolean)) ∈ lw_tbl := tm_6 _ (List.mem_of_getElem? (i := 87) (by decide +kernel))
theorem tw_6_88 : (Jvm.Cond.methodLink "SheetReaderModel" (209 : Nat) ({ cls := "SheetReaderModel", name := "takesWord", desc := "(J)Z" } : Jvm.MethodName)) ∈ lw_tbl := tm_6 _ (List.mem_of_getElem? (i := 88) (by decide +kernel))
theorem tw_6_90 : (Jvm.Cond.instanceMethod ({ cls := "SheetReaderModel", name := "takesWord", desc := "(J)Z" } : Jvm.MethodName)) ∈ lw_tbl := tm_6 _ (List.mem_of_getElem? (i := 90) (by decide +kernel))
theorem tw_6_91 : (Jvm.Cond.code ({ cls := "SheetReaderModel", name := "takesWord", desc := "(J)Z" } : Jvm.MethodName) prog_10_method_11_code (3 : Nat) (Option.some Jvm.ClassFile.FieldType.boolean)) ∈ lw_tbl := tm_6 _ (List.mem_of_getElem? (i := 91) (by decide +kernel))
theorem tw_6_92 : (Jvm.Cond.methodLink "SheetReaderModel" (191 : Nat) ({ cls := "SheetReaderModel", name := "isWord", desc := "(J)Z" } : Jvm.MethodName)) ∈ lw_tbl := tm_6 _ (List.mem_of_getElem? (i := 92) (by decide +kernel))
theorem tw_6_94 : (Jvm.Cond.instanceMethod ({ cls := "SheetReaderModel", name := "isWord", desc := "(J)Z" } : Jvm.MethodName)) ∈ lw_tbl := tm_6 _ (List.mem_of_getElem? (i := 94) (by decide +kernel))
theorem tw_6_95 : (Jvm.Cond.code ({ cls := "SheetReaderModel", name := "isWord", desc := "(J)Z" } : Jvm.MethodName) prog_10_method_10_code (3 : Nat) (Option.some Jvm.ClassFile.FieldType.boolean)) ∈ lw_tbl := tm_6 _ (List.mem_of_getElem? (i := 95) (by decide +kernel))
theorem tw_6_96 : (Jvm.Cond.methodLink "SheetReaderModel" (195 : Nat) ({ cls := "SheetReaderModel", name := "wrong", desc := "(I)Z" } : Jvm.MethodName)) ∈ lw_tbl := tm_6 _ (List.mem_of_getElem? (i := 96) (by decide +kernel))
theorem tw_6_98 : (Jvm.Cond.instanceMethod ({ cls := "SheetReaderModel", name := "wrong", desc := "(I)Z" } : Jvm.MethodName)) ∈ lw_tbl := tm_6 _ (List.mem_of_getElem? (i := 98) (by decide +kernel))
theorem tw_6_99 : (Jvm.Cond.code ({ cls := "SheetReaderModel", name := "wrong", desc := "(I)Z" } : Jvm.MethodName) prog_10_method_9_code (2 : Nat) (Option.some Jvm.ClassFile.FieldType.boolean)) ∈ lw_tbl := tm_6 _ (List.mem_of_getElem? (i := 99) (by decide +kernel))
theorem tw_6_100 : (Jvm.Cond.methodLink "SheetReaderModel" (212 : Nat) ({ cls := "SheetReaderModel", name := "isNumber", desc := "(II)Z" } : Jvm.MethodName)) ∈ lw_tbl := tm_6 _ (List.mem_of_getElem? (i := 100) (by decide +kernel))
theorem tw_6_102 : (Jvm.Cond.instanceMethod ({ cls := "SheetReaderModel", name := "isNumber", desc := "(II)Z" } : Jvm.MethodName)) ∈ lw_tbl := tm_6 _ (List.mem_of_getElem? (i := 102) (by decide +kernel))
theorem tw_6_103 : (Jvm.Cond.code ({ cls := "SheetReaderModel", name := "isNumber", desc := "(II)Z" } : Jvm.MethodName) prog_10_method_13_code (3 : Nat) (Option.some Jvm.ClassFile.FieldType.boolean)) ∈ lw_tbl := tm_6 _ (List.mem_of_getElem? (i := 103) (by decide +kernel))
theorem tw_6_104 : (Jvm.Cond.methodLink "SheetReaderModel" (216 : Nat) ({ cls := "SheetReaderModel", name := "takesSign", desc := "(I)Z" } : Jvm.MethodName)) ∈ lw_tbl := tm_6 _ (List.mem_of_getElem? (i := 104) (by decide +kernel))
theorem tw_6_106 : (Jvm.Cond.instanceMethod ({ cls := "SheetReaderModel", name := "takesSign", desc := "(I)Z" } : Jvm.MethodName)) ∈ lw_tbl := tm_6 _ (List.mem_of_getElem? (i := 106) (by decide +kernel))
theorem tw_6_107 : (Jvm.Cond.code ({ cls := "SheetReaderModel", name := "takesSign", desc := "(I)Z" } : Jvm.MethodName) prog_10_method_12_code (2 : Nat) (Option.some Jvm.ClassFile.FieldType.boolean)) ∈ lw_tbl := tm_6 _ (List.mem_of_getElem? (i := 107) (by decide +kernel))
theorem tw_6_108 : (Jvm.Cond.constantLong "SheetReaderModel" (251 : Nat) (2552 : Int64)) ∈ lw_tbl := tm_6 _ (List.mem_of_getElem? (i := 108) (by decide +kernel))
theorem tw_6_109 : (Jvm.Cond.methodLink "SheetReaderModel" (253 : Nat) ({ cls := "SheetReaderModel", name := "readsQuestion", desc := "()Z" } : Jvm.MethodName)) ∈ lw_tbl := tm_6 _ (List.mem_of_getElem? (i := 109) (by decide +kernel))
theorem tw_6_111 : (Jvm.Cond.instanceMethod ({ cls := "SheetReaderModel", name := "readsQuestion", desc := "()Z" } : Jvm.MethodName)) ∈ lw_tbl := tm_6 _ (List.mem_of_getElem? (i := 111) (by decide +kernel))
theorem tw_6_112 : (Jvm.Cond.code ({ cls := "SheetReaderModel", name := "readsQuestion", desc := "()Z" } : Jvm.MethodName) prog_10_method_20_code (3 : Nat) (Option.some Jvm.ClassFile.FieldType.boolean)) ∈ lw_tbl := tm_6 _ (List.mem_of_getElem? (i := 112) (by decide +kernel))
theorem tw_6_113 : (Jvm.Cond.constantLong "SheetReaderModel" (231 : Nat) (15813 : Int64)) ∈ lw_tbl := tm_6 _ (List.mem_of_getElem? (i := 113) (by decide +kernel))
theorem tw_6_114 : (Jvm.Cond.constantLong "SheetReaderModel" (233 : Nat) (427481 : Int64)) ∈ lw_tbl := tm_6 _ (List.mem_of_getElem? (i := 114) (by decide +kernel))
theorem tw_6_115 : (Jvm.Cond.methodLink "SheetReaderModel" (235 : Nat) ({ cls := "SheetReaderModel", name := "readsPlace", desc := "(I)Z" } : Jvm.MethodName)) ∈ lw_tbl := tm_6 _ (List.mem_of_getElem? (i := 115) (by decide +kernel))
theorem tw_6_117 : (Jvm.Cond.instanceMethod ({ cls := "SheetReaderModel", name := "readsPlace", desc := "(I)Z" } : Jvm.MethodName)) ∈ lw_tbl := tm_6 _ (List.mem_of_getElem? (i := 117) (by decide +kernel))
theorem tw_6_118 : (Jvm.Cond.code ({ cls := "SheetReaderModel", name := "readsPlace", desc := "(I)Z" } : Jvm.MethodName) prog_10_method_17_code (4 : Nat) (Option.some Jvm.ClassFile.FieldType.boolean)) ∈ lw_tbl := tm_6 _ (List.mem_of_getElem? (i := 118) (by decide +kernel))
theorem tw_6_119 : (Jvm.Cond.methodLink "SheetReaderModel" (219 : Nat) ({ cls := "SheetReaderModel", name := "isOver", desc := "(III)Z" } : Jvm.MethodName)) ∈ lw_tbl := tm_6 _ (List.mem_of_getElem? (i := 119) (by decide +kernel))
theorem tw_6_121 : (Jvm.Cond.instanceMethod ({ cls := "SheetReaderModel", name := "isOver", desc := "(III)Z" } : Jvm.MethodName)) ∈ lw_tbl := tm_6 _ (List.mem_of_getElem? (i := 121) (by decide +kernel))
theorem tw_6_122 : (Jvm.Cond.code ({ cls := "SheetReaderModel", name := "isOver", desc := "(III)Z" } : Jvm.MethodName) prog_10_method_16_code (9 : Nat) (Option.some Jvm.ClassFile.FieldType.boolean)) ∈ lw_tbl := tm_6 _ (List.mem_of_getElem? (i := 122) (by decide +kernel))
theorem tw_6_123 : (Jvm.Cond.constantLong "SheetReaderModel" (238 : Nat) (11449 : Int64)) ∈ lw_tbl := tm_6 _ (List.mem_of_getElem? (i := 123) (by decide +kernel))
theorem tw_6_124 : (Jvm.Cond.methodLink "SheetReaderModel" (240 : Nat) ({ cls := "SheetReaderModel", name := "readsKey", desc := "(I)Z" } : Jvm.MethodName)) ∈ lw_tbl := tm_6 _ (List.mem_of_getElem? (i := 124) (by decide +kernel))
theorem tw_6_126 : (Jvm.Cond.instanceMethod ({ cls := "SheetReaderModel", name := "readsKey", desc := "(I)Z" } : Jvm.MethodName)) ∈ lw_tbl := tm_6 _ (List.mem_of_getElem? (i := 126) (by decide +kernel))
theorem tw_6_127 : (Jvm.Cond.code ({ cls := "SheetReaderModel", name := "readsKey", desc := "(I)Z" } : Jvm.MethodName) prog_10_method_19_code (3 : Nat) (Option.some Jvm.ClassFile.FieldType.boolean)) ∈ lw_tbl := tm_6 _ (List.mem_of_getElem? (i := 127) (by decide +kernel))
theorem tw_6_128 : (Jvm.Cond.methodLink "SheetReaderModel" (224 : Nat) ({ cls := "SheetReaderModel", name := "isLetter", desc := "()Z" } : Jvm.MethodName)) ∈ lw_tbl := tm_6 _ (List.mem_of_getElem? (i := 128) (by decide +kernel))
theorem tw_6_130 : (Jvm.Cond.instanceMethod ({ cls := "SheetReaderModel", name := "isLetter", desc := "()Z" } : Jvm.MethodName)) ∈ lw_tbl := tm_6 _ (List.mem_of_getElem? (i := 130) (by decide +kernel))
theorem tw_6_131 : (Jvm.Cond.code ({ cls := "SheetReaderModel", name := "isLetter", desc := "()Z" } : Jvm.MethodName) prog_10_method_18_code (1 : Nat) (Option.some Jvm.ClassFile.FieldType.boolean)) ∈ lw_tbl := tm_6 _ (List.mem_of_getElem? (i := 131) (by decide +kernel))
theorem tw_6_132 : (Jvm.Cond.constantLong "SheetReaderModel" (222 : Nat) (7 : Int64)) ∈ lw_tbl := tm_6 _ (List.mem_of_getElem? (i := 132) (by decide +kernel))
theorem tw_6_133 : (Jvm.Cond.methodLink "SheetReaderModel" (228 : Nat) ({ cls := "SheetReaderModel", name := "has", desc := "(II)Z" } : Jvm.MethodName)) ∈ lw_tbl := tm_6 _ (List.mem_of_getElem? (i := 133) (by decide +kernel))
theorem tw_6_134 : (Jvm.Cond.static ({ cls := "SheetReaderModel", name := "has", desc := "(II)Z" } : Jvm.MethodName)) ∈ lw_tbl := tm_6 _ (List.mem_of_getElem? (i := 134) (by decide +kernel))
theorem tw_6_135 : (Jvm.Cond.code ({ cls := "SheetReaderModel", name := "has", desc := "(II)Z" } : Jvm.MethodName) prog_10_method_3_code (2 : Nat) (Option.some Jvm.ClassFile.FieldType.boolean)) ∈ lw_tbl := tm_6 _ (List.mem_of_getElem? (i := 135) (by decide +kernel))
theorem tw_6_136 : (Jvm.Cond.constantLong "SheetReaderModel" (243 : Nat) (24627848 : Int64)) ∈ lw_tbl := tm_6 _ (List.mem_of_getElem? (i := 136) (by decide +kernel))
theorem tw_6_137 : (Jvm.Cond.methodLink "SheetReaderLaw" (31 : Nat) ({ cls := "SheetReaderModel", name := "question", desc := "(II)I" } : Jvm.MethodName)) ∈ lw_tbl := tm_6 _ (List.mem_of_getElem? (i := 137) (by decide +kernel))
theorem tw_6_138 : (Jvm.Cond.instanceMethod ({ cls := "SheetReaderModel", name := "question", desc := "(II)I" } : Jvm.MethodName)) ∈ lw_tbl := tm_6 _ (List.mem_of_getElem? (i := 138) (by decide +kernel))
theorem tw_6_139 : (Jvm.Cond.selects "SheetReaderModel" ({ cls := "SheetReaderModel", name := "question", desc := "(II)I" } : Jvm.MethodName) ({ cls := "SheetReaderModel", name := "question", desc := "(II)I" } : Jvm.MethodName)) ∈ lw_tbl := tm_6 _ (List.mem_of_getElem? (i := 139) (by decide +kernel))
theorem tw_6_140 : (Jvm.Cond.code ({ cls := "SheetReaderModel", name := "question", desc := "(II)I" } : Jvm.MethodName) prog_10_method_30_code (4 : Nat) (Option.some Jvm.ClassFile.FieldType.int)) ∈ lw_tbl := tm_6 _ (List.mem_of_getElem? (i := 140) (by decide +kernel))
theorem tw_6_141 : (Jvm.Cond.methodLink "SheetReaderModel" (269 : Nat) ({ cls := "SheetReaderModel", name := "isQuestion", desc := "(I)Z" } : Jvm.MethodName)) ∈ lw_tbl := tm_6 _ (List.mem_of_getElem? (i := 141) (by decide +kernel))
theorem tw_6_143 : (Jvm.Cond.instanceMethod ({ cls := "SheetReaderModel", name := "isQuestion", desc := "(I)Z" } : Jvm.MethodName)) ∈ lw_tbl := tm_6 _ (List.mem_of_getElem? (i := 143) (by decide +kernel))
theorem tw_6_144 : (Jvm.Cond.code ({ cls := "SheetReaderModel", name := "isQuestion", desc := "(I)Z" } : Jvm.MethodName) prog_10_method_27_code (2 : Nat) (Option.some Jvm.ClassFile.FieldType.boolean)) ∈ lw_tbl := tm_6 _ (List.mem_of_getElem? (i := 144) (by decide +kernel))
theorem tw_6_145 : (Jvm.Cond.methodLink "SheetReaderModel" (266 : Nat) ({ cls := "SheetReaderModel", name := "questions", desc := "()I" } : Jvm.MethodName)) ∈ lw_tbl := tm_6 _ (List.mem_of_getElem? (i := 145) (by decide +kernel))
theorem tw_6_147 : (Jvm.Cond.instanceMethod ({ cls := "SheetReaderModel", name := "questions", desc := "()I" } : Jvm.MethodName)) ∈ lw_tbl := tm_6 _ (List.mem_of_getElem? (i := 147) (by decide +kernel))
theorem tw_6_148 : (Jvm.Cond.code ({ cls := "SheetReaderModel", name := "questions", desc := "()I" } : Jvm.MethodName) prog_10_method_23_code (1 : Nat) (Option.some Jvm.ClassFile.FieldType.int)) ∈ lw_tbl := tm_6 _ (List.mem_of_getElem? (i := 148) (by decide +kernel))
theorem tw_6_149 : (Jvm.Cond.methodLink "SheetReaderModel" (262 : Nat) ({ cls := "SheetReaderModel", name := "headOf", desc := "(I)I" } : Jvm.MethodName)) ∈ lw_tbl := tm_6 _ (List.mem_of_getElem? (i := 149) (by decide +kernel))
theorem tw_6_151 : (Jvm.Cond.instanceMethod ({ cls := "SheetReaderModel", name := "headOf", desc := "(I)I" } : Jvm.MethodName)) ∈ lw_tbl := tm_6 _ (List.mem_of_getElem? (i := 151) (by decide +kernel))
theorem tw_6_152 : (Jvm.Cond.code ({ cls := "SheetReaderModel", name := "headOf", desc := "(I)I" } : Jvm.MethodName) prog_10_method_14_code (2 : Nat) (Option.some Jvm.ClassFile.FieldType.int)) ∈ lw_tbl := tm_6 _ (List.mem_of_getElem? (i := 152) (by decide +kernel))
theorem tw_6_153 : (Jvm.Cond.methodLink "SheetReaderLaw" (35 : Nat) ({ cls := "SheetReaderModel", name := "set", desc := "(II)I" } : Jvm.MethodName)) ∈ lw_tbl := tm_6 _ (List.mem_of_getElem? (i := 153) (by decide +kernel))
theorem tw_6_154 : (Jvm.Cond.instanceMethod ({ cls := "SheetReaderModel", name := "set", desc := "(II)I" } : Jvm.MethodName)) ∈ lw_tbl := tm_6 _ (List.mem_of_getElem? (i := 154) (by decide +kernel))
theorem tw_6_155 : (Jvm.Cond.selects "SheetReaderModel" ({ cls := "SheetReaderModel", name := "set", desc := "(II)I" } : Jvm.MethodName) ({ cls := "SheetReaderModel", name := "set", desc := "(II)I" } : Jvm.MethodName)) ∈ lw_tbl := tm_6 _ (List.mem_of_getElem? (i := 155) (by decide +kernel))
theorem tw_6_156 : (Jvm.Cond.code ({ cls := "SheetReaderModel", name := "set", desc := "(II)I" } : Jvm.MethodName) prog_10_method_35_code (6 : Nat) (Option.some Jvm.ClassFile.FieldType.int)) ∈ lw_tbl := tm_6 _ (List.mem_of_getElem? (i := 156) (by decide +kernel))
theorem tw_6_157 : (Jvm.Cond.methodLink "SheetReaderLaw" (40 : Nat) ({ cls := "SheetReaderModel", name := "blank", desc := "(II)Z" } : Jvm.MethodName)) ∈ lw_tbl := tm_6 _ (List.mem_of_getElem? (i := 157) (by decide +kernel))
theorem tw_6_158 : (Jvm.Cond.instanceMethod ({ cls := "SheetReaderModel", name := "blank", desc := "(II)Z" } : Jvm.MethodName)) ∈ lw_tbl := tm_6 _ (List.mem_of_getElem? (i := 158) (by decide +kernel))
theorem tw_6_159 : (Jvm.Cond.selects "SheetReaderModel" ({ cls := "SheetReaderModel", name := "blank", desc := "(II)Z" } : Jvm.MethodName) ({ cls := "SheetReaderModel", name := "blank", desc := "(II)Z" } : Jvm.MethodName)) ∈ lw_tbl := tm_6 _ (List.mem_of_getElem? (i := 159) (by decide +kernel))
theorem tw_6_160 : (Jvm.Cond.code ({ cls := "SheetReaderModel", name := "blank", desc := "(II)Z" } : Jvm.MethodName) prog_10_method_36_code (3 : Nat) (Option.some Jvm.ClassFile.FieldType.boolean)) ∈ lw_tbl := tm_6 _ (List.mem_of_getElem? (i := 160) (by decide +kernel))
theorem tw_6_161 : (Jvm.Cond.methodLink "SheetReaderModel" (278 : Nat) ({ cls := "SheetReaderModel", name := "clears", desc := "()V" } : Jvm.MethodName)) ∈ lw_tbl := tm_6 _ (List.mem_of_getElem? (i := 161) (by decide +kernel))
theorem tw_6_163 : (Jvm.Cond.instanceMethod ({ cls := "SheetReaderModel", name := "clears", desc := "()V" } : Jvm.MethodName)) ∈ lw_tbl := tm_6 _ (List.mem_of_getElem? (i := 163) (by decide +kernel))
theorem tw_6_164 : (Jvm.Cond.code ({ cls := "SheetReaderModel", name := "clears", desc := "()V" } : Jvm.MethodName) prog_10_method_37_code (2 : Nat) (Option.none : Option Jvm.ClassFile.FieldType)) ∈ lw_tbl := tm_6 _ (List.mem_of_getElem? (i := 164) (by decide +kernel))
theorem tw_6_165 : (Jvm.Cond.methodLink "SheetReaderLaw" (45 : Nat) ({ cls := "SheetReaderModel", name := "row", desc := "(I)Z" } : Jvm.MethodName)) ∈ lw_tbl := tm_6 _ (List.mem_of_getElem? (i := 165) (by decide +kernel))
theorem tw_6_166 : (Jvm.Cond.instanceMethod ({ cls := "SheetReaderModel", name := "row", desc := "(I)Z" } : Jvm.MethodName)) ∈ lw_tbl := tm_6 _ (List.mem_of_getElem? (i := 166) (by decide +kernel))
theorem tw_6_167 : (Jvm.Cond.selects "SheetReaderModel" ({ cls := "SheetReaderModel", name := "row", desc := "(I)Z" } : Jvm.MethodName) ({ cls := "SheetReaderModel", name := "row", desc := "(I)Z" } : Jvm.MethodName)) ∈ lw_tbl := tm_6 _ (List.mem_of_getElem? (i := 167) (by decide +kernel))
theorem tw_6_168 : (Jvm.Cond.code ({ cls := "SheetReaderModel", name := "row", desc := "(I)Z" } : Jvm.MethodName) prog_10_method_38_code (3 : Nat) (Option.some Jvm.ClassFile.FieldType.boolean)) ∈ lw_tbl := tm_6 _ (List.mem_of_getElem? (i := 168) (by decide +kernel))
theorem tw_6_169 : (Jvm.Cond.methodLink "SheetReaderLaw" (49 : Nat) ({ cls := "SheetReaderModel", name := "fill", desc := "(IIIII)I" } : Jvm.MethodName)) ∈ lw_tbl := tm_6 _ (List.mem_of_getElem? (i := 169) (by decide +kernel))
theorem tw_6_170 : (Jvm.Cond.instanceMethod ({ cls := "SheetReaderModel", name := "fill", desc := "(IIIII)I" } : Jvm.MethodName)) ∈ lw_tbl := tm_6 _ (List.mem_of_getElem? (i := 170) (by decide +kernel))
theorem tw_6_171 : (Jvm.Cond.selects "SheetReaderModel" ({ cls := "SheetReaderModel", name := "fill", desc := "(IIIII)I" } : Jvm.MethodName) ({ cls := "SheetReaderModel", name := "fill", desc := "(IIIII)I" } : Jvm.MethodName)) ∈ lw_tbl := tm_6 _ (List.mem_of_getElem? (i := 171) (by decide +kernel))
theorem tw_6_172 : (Jvm.Cond.code ({ cls := "SheetReaderModel", name := "fill", desc := "(IIIII)I" } : Jvm.MethodName) prog_10_method_39_code (9 : Nat) (Option.some Jvm.ClassFile.FieldType.int)) ∈ lw_tbl := tm_6 _ (List.mem_of_getElem? (i := 172) (by decide +kernel))
theorem tw_6_173 : (Jvm.Cond.methodLink "SheetReaderModel" (281 : Nat) ({ cls := "SheetReaderModel", name := "isDot", desc := "(II)Z" } : Jvm.MethodName)) ∈ lw_tbl := tm_6 _ (List.mem_of_getElem? (i := 173) (by decide +kernel))
theorem tw_6_175 : (Jvm.Cond.instanceMethod ({ cls := "SheetReaderModel", name := "isDot", desc := "(II)Z" } : Jvm.MethodName)) ∈ lw_tbl := tm_6 _ (List.mem_of_getElem? (i := 175) (by decide +kernel))
theorem tw_6_176 : (Jvm.Cond.code ({ cls := "SheetReaderModel", name := "isDot", desc := "(II)Z" } : Jvm.MethodName) prog_10_method_31_code (3 : Nat) (Option.some Jvm.ClassFile.FieldType.boolean)) ∈ lw_tbl := tm_6 _ (List.mem_of_getElem? (i := 176) (by decide +kernel))
theorem tw_6_177 : (Jvm.Cond.methodLink "SheetReaderLaw" (53 : Nat) ({ cls := "SheetReaderModel", name := "dot", desc := "(II)I" } : Jvm.MethodName)) ∈ lw_tbl := tm_6 _ (List.mem_of_getElem? (i := 177) (by decide +kernel))
theorem tw_6_178 : (Jvm.Cond.instanceMethod ({ cls := "SheetReaderModel", name := "dot", desc := "(II)I" } : Jvm.MethodName)) ∈ lw_tbl := tm_6 _ (List.mem_of_getElem? (i := 178) (by decide +kernel))
theorem tw_6_179 : (Jvm.Cond.selects "SheetReaderModel" ({ cls := "SheetReaderModel", name := "dot", desc := "(II)I" } : Jvm.MethodName) ({ cls := "SheetReaderModel", name := "dot", desc := "(II)I" } : Jvm.MethodName)) ∈ lw_tbl := tm_6 _ (List.mem_of_getElem? (i := 179) (by decide +kernel))
theorem tw_6_180 : (Jvm.Cond.code ({ cls := "SheetReaderModel", name := "dot", desc := "(II)I" } : Jvm.MethodName) prog_10_method_40_code (3 : Nat) (Option.some Jvm.ClassFile.FieldType.int)) ∈ lw_tbl := tm_6 _ (List.mem_of_getElem? (i := 180) (by decide +kernel))
theorem tw_6_181 : (Jvm.Cond.methodLink "SheetReaderLaw" (57 : Nat) ({ cls := "SheetReaderModel", name := "noise", desc := "(I)I" } : Jvm.MethodName)) ∈ lw_tbl := tm_6 _ (List.mem_of_getElem? (i := 181) (by decide +kernel))
theorem tw_6_182 : (Jvm.Cond.instanceMethod ({ cls := "SheetReaderModel", name := "noise", desc := "(I)I" } : Jvm.MethodName)) ∈ lw_tbl := tm_6 _ (List.mem_of_getElem? (i := 182) (by decide +kernel))
theorem tw_6_183 : (Jvm.Cond.selects "SheetReaderModel" ({ cls := "SheetReaderModel", name := "noise", desc := "(I)I" } : Jvm.MethodName) ({ cls := "SheetReaderModel", name := "noise", desc := "(I)I" } : Jvm.MethodName)) ∈ lw_tbl := tm_6 _ (List.mem_of_getElem? (i := 183) (by decide +kernel))
theorem tw_6_184 : (Jvm.Cond.code ({ cls := "SheetReaderModel", name := "noise", desc := "(I)I" } : Jvm.MethodName) prog_10_method_42_code (8 : Nat) (Option.some Jvm.ClassFile.FieldType.int)) ∈ lw_tbl := tm_6 _ (List.mem_of_getElem? (i := 184) (by decide +kernel))
theorem tw_6_185 : (Jvm.Cond.methodLink "SheetReaderModel" (285 : Nat) ({ cls := "SheetReaderModel", name := "draw", desc := "(I)I" } : Jvm.MethodName)) ∈ lw_tbl := tm_6 _ (List.mem_of_getElem? (i := 185) (by decide +kernel))
theorem tw_6_187 : (Jvm.Cond.instanceMethod ({ cls := "SheetReaderModel", name := "draw", desc := "(I)I" } : Jvm.MethodName)) ∈ lw_tbl := tm_6 _ (List.mem_of_getElem? (i := 187) (by decide +kernel))
theorem tw_6_188 : (Jvm.Cond.code ({ cls := "SheetReaderModel", name := "draw", desc := "(I)I" } : Jvm.MethodName) prog_10_method_41_code (2 : Nat) (Option.some Jvm.ClassFile.FieldType.int)) ∈ lw_tbl := tm_6 _ (List.mem_of_getElem? (i := 188) (by decide +kernel))
theorem tw_6_189 : (Jvm.Cond.constant "SheetReaderModel" (284 : Nat) (65536 : Int32)) ∈ lw_tbl := tm_6 _ (List.mem_of_getElem? (i := 189) (by decide +kernel))
theorem tw_6_190 : (Jvm.Cond.methodLink "SheetReaderLaw" (61 : Nat) ({ cls := "SheetReaderModel", name := "seed", desc := "(I)I" } : Jvm.MethodName)) ∈ lw_tbl := tm_6 _ (List.mem_of_getElem? (i := 190) (by decide +kernel))
theorem tw_6_191 : (Jvm.Cond.instanceMethod ({ cls := "SheetReaderModel", name := "seed", desc := "(I)I" } : Jvm.MethodName)) ∈ lw_tbl := tm_6 _ (List.mem_of_getElem? (i := 191) (by decide +kernel))
theorem tw_6_192 : (Jvm.Cond.selects "SheetReaderModel" ({ cls := "SheetReaderModel", name := "seed", desc := "(I)I" } : Jvm.MethodName) ({ cls := "SheetReaderModel", name := "seed", desc := "(I)I" } : Jvm.MethodName)) ∈ lw_tbl := tm_6 _ (List.mem_of_getElem? (i := 192) (by decide +kernel))
theorem tw_6_193 : (Jvm.Cond.code ({ cls := "SheetReaderModel", name := "seed", desc := "(I)I" } : Jvm.MethodName) prog_10_method_43_code (3 : Nat) (Option.some Jvm.ClassFile.FieldType.int)) ∈ lw_tbl := tm_6 _ (List.mem_of_getElem? (i := 193) (by decide +kernel))
theorem tw_6_194 : (Jvm.Cond.constant "SheetReaderModel" (288 : Nat) (65535 : Int32)) ∈ lw_tbl := tm_6 _ (List.mem_of_getElem? (i := 194) (by decide +kernel))
theorem tw_6_195 : (Jvm.Cond.methodLink "SheetReaderLaw" (65 : Nat) ({ cls := "SheetReaderModel", name := "turn", desc := "(I)I" } : Jvm.MethodName)) ∈ lw_tbl := tm_6 _ (List.mem_of_getElem? (i := 195) (by decide +kernel))
theorem tw_6_196 : (Jvm.Cond.instanceMethod ({ cls := "SheetReaderModel", name := "turn", desc := "(I)I" } : Jvm.MethodName)) ∈ lw_tbl := tm_6 _ (List.mem_of_getElem? (i := 196) (by decide +kernel))
theorem tw_6_197 : (Jvm.Cond.selects "SheetReaderModel" ({ cls := "SheetReaderModel", name := "turn", desc := "(I)I" } : Jvm.MethodName) ({ cls := "SheetReaderModel", name := "turn", desc := "(I)I" } : Jvm.MethodName)) ∈ lw_tbl := tm_6 _ (List.mem_of_getElem? (i := 197) (by decide +kernel))
theorem tw_6_198 : (Jvm.Cond.code ({ cls := "SheetReaderModel", name := "turn", desc := "(I)I" } : Jvm.MethodName) prog_10_method_45_code (3 : Nat) (Option.some Jvm.ClassFile.FieldType.int)) ∈ lw_tbl := tm_6 _ (List.mem_of_getElem? (i := 198) (by decide +kernel))
theorem tw_6_199 : (Jvm.Cond.methodLink "SheetReaderModel" (292 : Nat) ({ cls := "SheetReaderModel", name := "turns", desc := "()V" } : Jvm.MethodName)) ∈ lw_tbl := tm_6 _ (List.mem_of_getElem? (i := 199) (by decide +kernel))
theorem tw_6_201 : (Jvm.Cond.instanceMethod ({ cls := "SheetReaderModel", name := "turns", desc := "()V" } : Jvm.MethodName)) ∈ lw_tbl := tm_6 _ (List.mem_of_getElem? (i := 201) (by decide +kernel))
theorem tw_6_202 : (Jvm.Cond.code ({ cls := "SheetReaderModel", name := "turns", desc := "()V" } : Jvm.MethodName) prog_10_method_44_code (5 : Nat) (Option.none : Option Jvm.ClassFile.FieldType)) ∈ lw_tbl := tm_6 _ (List.mem_of_getElem? (i := 202) (by decide +kernel))
theorem tw_6_203 : (Jvm.Cond.methodLink "SheetReaderModel" (289 : Nat) ({ cls := "SheetReaderModel", name := "puts", desc := "()V" } : Jvm.MethodName)) ∈ lw_tbl := tm_6 _ (List.mem_of_getElem? (i := 203) (by decide +kernel))
theorem tw_6_205 : (Jvm.Cond.instanceMethod ({ cls := "SheetReaderModel", name := "puts", desc := "()V" } : Jvm.MethodName)) ∈ lw_tbl := tm_6 _ (List.mem_of_getElem? (i := 205) (by decide +kernel))
theorem tw_6_206 : (Jvm.Cond.code ({ cls := "SheetReaderModel", name := "puts", desc := "()V" } : Jvm.MethodName) prog_10_method_33_code (2 : Nat) (Option.none : Option Jvm.ClassFile.FieldType)) ∈ lw_tbl := tm_6 _ (List.mem_of_getElem? (i := 206) (by decide +kernel))
theorem tw_6_207 : (Jvm.Cond.methodLink "SheetReaderLaw" (70 : Nat) ({ cls := "SheetReaderModel", name := "copy", desc := "(IIIIII)I" } : Jvm.MethodName)) ∈ lw_tbl := tm_6 _ (List.mem_of_getElem? (i := 207) (by decide +kernel))
theorem tw_6_208 : (Jvm.Cond.instanceMethod ({ cls := "SheetReaderModel", name := "copy", desc := "(IIIIII)I" } : Jvm.MethodName)) ∈ lw_tbl := tm_6 _ (List.mem_of_getElem? (i := 208) (by decide +kernel))
theorem tw_6_209 : (Jvm.Cond.selects "SheetReaderModel" ({ cls := "SheetReaderModel", name := "copy", desc := "(IIIIII)I" } : Jvm.MethodName) ({ cls := "SheetReaderModel", name := "copy", desc := "(IIIIII)I" } : Jvm.MethodName)) ∈ lw_tbl := tm_6 _ (List.mem_of_getElem? (i := 209) (by decide +kernel))
theorem tw_6_210 : (Jvm.Cond.code ({ cls := "SheetReaderModel", name := "copy", desc := "(IIIIII)I" } : Jvm.MethodName) prog_10_method_46_code (9 : Nat) (Option.some Jvm.ClassFile.FieldType.int)) ∈ lw_tbl := tm_6 _ (List.mem_of_getElem? (i := 210) (by decide +kernel))
theorem tw_6_211 : (Jvm.Cond.methodLink "SheetReaderModel" (295 : Nat) ({ cls := "SheetReaderModel", name := "others", desc := "()I" } : Jvm.MethodName)) ∈ lw_tbl := tm_6 _ (List.mem_of_getElem? (i := 211) (by decide +kernel))
theorem tw_6_213 : (Jvm.Cond.instanceMethod ({ cls := "SheetReaderModel", name := "others", desc := "()I" } : Jvm.MethodName)) ∈ lw_tbl := tm_6 _ (List.mem_of_getElem? (i := 213) (by decide +kernel))
theorem tw_6_214 : (Jvm.Cond.code ({ cls := "SheetReaderModel", name := "others", desc := "()I" } : Jvm.MethodName) prog_10_method_34_code (3 : Nat) (Option.some Jvm.ClassFile.FieldType.int)) ∈ lw_tbl := tm_6 _ (List.mem_of_getElem? (i := 214) (by decide +kernel))
theorem tw_6_215 : (Jvm.Cond.methodLink "SheetReaderModel" (275 : Nat) ({ cls := "SheetReaderModel", name := "all", desc := "()I" } : Jvm.MethodName)) ∈ lw_tbl := tm_6 _ (List.mem_of_getElem? (i := 215) (by decide +kernel))
theorem tw_6_217 : (Jvm.Cond.instanceMethod ({ cls := "SheetReaderModel", name := "all", desc := "()I" } : Jvm.MethodName)) ∈ lw_tbl := tm_6 _ (List.mem_of_getElem? (i := 217) (by decide +kernel))
theorem tw_6_218 : (Jvm.Cond.code ({ cls := "SheetReaderModel", name := "all", desc := "()I" } : Jvm.MethodName) prog_10_method_32_code (1 : Nat) (Option.some Jvm.ClassFile.FieldType.int)) ∈ lw_tbl := tm_6 _ (List.mem_of_getElem? (i := 218) (by decide +kernel))
theorem tw_6_219 : (Jvm.Cond.methodLink "SheetReaderLaw" (74 : Nat) ({ cls := "SheetReaderModel", name := "shift", desc := "(II)I" } : Jvm.MethodName)) ∈ lw_tbl := tm_6 _ (List.mem_of_getElem? (i := 219) (by decide +kernel))
theorem tw_6_220 : (Jvm.Cond.instanceMethod ({ cls := "SheetReaderModel", name := "shift", desc := "(II)I" } : Jvm.MethodName)) ∈ lw_tbl := tm_6 _ (List.mem_of_getElem? (i := 220) (by decide +kernel))
theorem tw_6_221 : (Jvm.Cond.selects "SheetReaderModel" ({ cls := "SheetReaderModel", name := "shift", desc := "(II)I" } : Jvm.MethodName) ({ cls := "SheetReaderModel", name := "shift", desc := "(II)I" } : Jvm.MethodName)) ∈ lw_tbl := tm_6 _ (List.mem_of_getElem? (i := 221) (by decide +kernel))
theorem tw_6_222 : (Jvm.Cond.code ({ cls := "SheetReaderModel", name := "shift", desc := "(II)I" } : Jvm.MethodName) prog_10_method_47_code (5 : Nat) (Option.some Jvm.ClassFile.FieldType.int)) ∈ lw_tbl := tm_6 _ (List.mem_of_getElem? (i := 222) (by decide +kernel))
theorem tw_6_223 : (Jvm.Cond.methodLink "SheetReaderLaw" (79 : Nat) ({ cls := "SheetReaderModel", name := "stretch", desc := "()I" } : Jvm.MethodName)) ∈ lw_tbl := tm_6 _ (List.mem_of_getElem? (i := 223) (by decide +kernel))
theorem tw_6_224 : (Jvm.Cond.instanceMethod ({ cls := "SheetReaderModel", name := "stretch", desc := "()I" } : Jvm.MethodName)) ∈ lw_tbl := tm_6 _ (List.mem_of_getElem? (i := 224) (by decide +kernel))
theorem tw_6_225 : (Jvm.Cond.selects "SheetReaderModel" ({ cls := "SheetReaderModel", name := "stretch", desc := "()I" } : Jvm.MethodName) ({ cls := "SheetReaderModel", name := "stretch", desc := "()I" } : Jvm.MethodName)) ∈ lw_tbl := tm_6 _ (List.mem_of_getElem? (i := 225) (by decide +kernel))
theorem tw_6_226 : (Jvm.Cond.code ({ cls := "SheetReaderModel", name := "stretch", desc := "()I" } : Jvm.MethodName) prog_10_method_48_code (4 : Nat) (Option.some Jvm.ClassFile.FieldType.int)) ∈ lw_tbl := tm_6 _ (List.mem_of_getElem? (i := 226) (by decide +kernel))
theorem tw_6_227 : (Jvm.Cond.methodLink "SheetReaderLaw" (83 : Nat) ({ cls := "SheetReaderModel", name := "clean", desc := "()I" } : Jvm.MethodName)) ∈ lw_tbl := tm_6 _ (List.mem_of_getElem? (i := 227) (by decide +kernel))
theorem tw_6_228 : (Jvm.Cond.instanceMethod ({ cls := "SheetReaderModel", name := "clean", desc := "()I" } : Jvm.MethodName)) ∈ lw_tbl := tm_6 _ (List.mem_of_getElem? (i := 228) (by decide +kernel))
theorem tw_6_229 : (Jvm.Cond.selects "SheetReaderModel" ({ cls := "SheetReaderModel", name := "clean", desc := "()I" } : Jvm.MethodName) ({ cls := "SheetReaderModel", name := "clean", desc := "()I" } : Jvm.MethodName)) ∈ lw_tbl := tm_6 _ (List.mem_of_getElem? (i := 229) (by decide +kernel))
theorem tw_6_230 : (Jvm.Cond.code ({ cls := "SheetReaderModel", name := "clean", desc := "()I" } : Jvm.MethodName) prog_10_method_49_code (3 : Nat) (Option.some Jvm.ClassFile.FieldType.int)) ∈ lw_tbl := tm_6 _ (List.mem_of_getElem? (i := 230) (by decide +kernel))
theorem tw_6_231 : (Jvm.Cond.methodLink "SheetReaderModel" (298 : Nat) ({ cls := "SheetReaderModel", name := "laysBlobs", desc := "()V" } : Jvm.MethodName)) ∈ lw_tbl := tm_6 _ (List.mem_of_getElem? (i := 231) (by decide +kernel))
theorem tw_6_233 : (Jvm.Cond.instanceMethod ({ cls := "SheetReaderModel", name := "laysBlobs", desc := "()V" } : Jvm.MethodName)) ∈ lw_tbl := tm_6 _ (List.mem_of_getElem? (i := 233) (by decide +kernel))
theorem tw_6_234 : (Jvm.Cond.code ({ cls := "SheetReaderModel", name := "laysBlobs", desc := "()V" } : Jvm.MethodName) prog_10_method_59_code (3 : Nat) (Option.none : Option Jvm.ClassFile.FieldType)) ∈ lw_tbl := tm_6 _ (List.mem_of_getElem? (i := 234) (by decide +kernel))
theorem tw_6_235 : (Jvm.Cond.methodLink "SheetReaderModel" (323 : Nat) ({ cls := "SheetReaderModel", name := "laysBlob", desc := "(I)V" } : Jvm.MethodName)) ∈ lw_tbl := tm_6 _ (List.mem_of_getElem? (i := 235) (by decide +kernel))
theorem tw_6_237 : (Jvm.Cond.instanceMethod ({ cls := "SheetReaderModel", name := "laysBlob", desc := "(I)V" } : Jvm.MethodName)) ∈ lw_tbl := tm_6 _ (List.mem_of_getElem? (i := 237) (by decide +kernel))
theorem tw_6_238 : (Jvm.Cond.code ({ cls := "SheetReaderModel", name := "laysBlob", desc := "(I)V" } : Jvm.MethodName) prog_10_method_58_code (6 : Nat) (Option.none : Option Jvm.ClassFile.FieldType)) ∈ lw_tbl := tm_6 _ (List.mem_of_getElem? (i := 238) (by decide +kernel))
theorem tw_6_239 : (Jvm.Cond.methodLink "SheetReaderModel" (319 : Nat) ({ cls := "SheetReaderModel", name := "meets", desc := "(II)V" } : Jvm.MethodName)) ∈ lw_tbl := tm_6 _ (List.mem_of_getElem? (i := 239) (by decide +kernel))
theorem tw_7_1 : (Jvm.Cond.instanceMethod ({ cls := "SheetReaderModel", name := "meets", desc := "(II)V" } : Jvm.MethodName)) ∈ lw_tbl := tm_7 _ (List.mem_of_getElem? (i := 1) (by decide +kernel))
theorem tw_7_2 : (Jvm.Cond.code ({ cls := "SheetReaderModel", name := "meets", desc := "(II)V" } : Jvm.MethodName) prog_10_method_57_code (3 : Nat) (Option.none : Option Jvm.ClassFile.FieldType)) ∈ lw_tbl := tm_7 _ (List.mem_of_getElem? (i := 2) (by decide +kernel))
theorem tw_7_3 : (Jvm.Cond.methodLink "SheetReaderLaw" (87 : Nat) ({ cls := "SheetReaderModel", name := "smooth", desc := "()I" } : Jvm.MethodName)) ∈ lw_tbl := tm_7 _ (List.mem_of_getElem? (i := 3) (by decide +kernel))
theorem tw_7_4 : (Jvm.Cond.instanceMethod ({ cls := "SheetReaderModel", name := "smooth", desc := "()I" } : Jvm.MethodName)) ∈ lw_tbl := tm_7 _ (List.mem_of_getElem? (i := 4) (by decide +kernel))
theorem tw_7_5 : (Jvm.Cond.selects "SheetReaderModel" ({ cls := "SheetReaderModel", name := "smooth", desc := "()I" } : Jvm.MethodName) ({ cls := "SheetReaderModel", name := "smooth", desc := "()I" } : Jvm.MethodName)) ∈ lw_tbl := tm_7 _ (List.mem_of_getElem? (i := 5) (by decide +kernel))
theorem tw_7_6 : (Jvm.Cond.code ({ cls := "SheetReaderModel", name := "smooth", desc := "()I" } : Jvm.MethodName) prog_10_method_50_code (6 : Nat) (Option.some Jvm.ClassFile.FieldType.int)) ∈ lw_tbl := tm_7 _ (List.mem_of_getElem? (i := 6) (by decide +kernel))
theorem tw_7_7 : (Jvm.Cond.methodLink "SheetReaderLaw" (91 : Nat) ({ cls := "SheetReaderModel", name := "keep", desc := "(I)Z" } : Jvm.MethodName)) ∈ lw_tbl := tm_7 _ (List.mem_of_getElem? (i := 7) (by decide +kernel))
theorem tw_7_8 : (Jvm.Cond.instanceMethod ({ cls := "SheetReaderModel", name := "keep", desc := "(I)Z" } : Jvm.MethodName)) ∈ lw_tbl := tm_7 _ (List.mem_of_getElem? (i := 8) (by decide +kernel))
theorem tw_7_9 : (Jvm.Cond.selects "SheetReaderModel" ({ cls := "SheetReaderModel", name := "keep", desc := "(I)Z" } : Jvm.MethodName) ({ cls := "SheetReaderModel", name := "keep", desc := "(I)Z" } : Jvm.MethodName)) ∈ lw_tbl := tm_7 _ (List.mem_of_getElem? (i := 9) (by decide +kernel))
theorem tw_7_10 : (Jvm.Cond.code ({ cls := "SheetReaderModel", name := "keep", desc := "(I)Z" } : Jvm.MethodName) prog_10_method_52_code (2 : Nat) (Option.some Jvm.ClassFile.FieldType.boolean)) ∈ lw_tbl := tm_7 _ (List.mem_of_getElem? (i := 10) (by decide +kernel))
theorem tw_7_11 : (Jvm.Cond.methodLink "SheetReaderModel" (301 : Nat) ({ cls := "SheetReaderModel", name := "keeps", desc := "(I)V" } : Jvm.MethodName)) ∈ lw_tbl := tm_7 _ (List.mem_of_getElem? (i := 11) (by decide +kernel))
theorem tw_7_13 : (Jvm.Cond.instanceMethod ({ cls := "SheetReaderModel", name := "keeps", desc := "(I)V" } : Jvm.MethodName)) ∈ lw_tbl := tm_7 _ (List.mem_of_getElem? (i := 13) (by decide +kernel))
theorem tw_7_14 : (Jvm.Cond.code ({ cls := "SheetReaderModel", name := "keeps", desc := "(I)V" } : Jvm.MethodName) prog_10_method_51_code (3 : Nat) (Option.none : Option Jvm.ClassFile.FieldType)) ∈ lw_tbl := tm_7 _ (List.mem_of_getElem? (i := 14) (by decide +kernel))
theorem tw_7_15 : (Jvm.Cond.methodLink "SheetReaderLaw" (95 : Nat) ({ cls := "SheetReaderModel", name := "back", desc := "(I)Z" } : Jvm.MethodName)) ∈ lw_tbl := tm_7 _ (List.mem_of_getElem? (i := 15) (by decide +kernel))
theorem tw_7_16 : (Jvm.Cond.instanceMethod ({ cls := "SheetReaderModel", name := "back", desc := "(I)Z" } : Jvm.MethodName)) ∈ lw_tbl := tm_7 _ (List.mem_of_getElem? (i := 16) (by decide +kernel))
theorem tw_7_17 : (Jvm.Cond.selects "SheetReaderModel" ({ cls := "SheetReaderModel", name := "back", desc := "(I)Z" } : Jvm.MethodName) ({ cls := "SheetReaderModel", name := "back", desc := "(I)Z" } : Jvm.MethodName)) ∈ lw_tbl := tm_7 _ (List.mem_of_getElem? (i := 17) (by decide +kernel))
theorem tw_7_18 : (Jvm.Cond.code ({ cls := "SheetReaderModel", name := "back", desc := "(I)Z" } : Jvm.MethodName) prog_10_method_53_code (3 : Nat) (Option.some Jvm.ClassFile.FieldType.boolean)) ∈ lw_tbl := tm_7 _ (List.mem_of_getElem? (i := 18) (by decide +kernel))
theorem tw_7_19 : (Jvm.Cond.methodLink "SheetReaderLaw" (26 : Nat) ({ cls := "SheetReaderModel", name := "count", desc := "(I)I" } : Jvm.MethodName)) ∈ lw_tbl := tm_7 _ (List.mem_of_getElem? (i := 19) (by decide +kernel))
theorem tw_7_20 : (Jvm.Cond.instanceMethod ({ cls := "SheetReaderModel", name := "count", desc := "(I)I" } : Jvm.MethodName)) ∈ lw_tbl := tm_7 _ (List.mem_of_getElem? (i := 20) (by decide +kernel))
theorem tw_7_21 : (Jvm.Cond.selects "SheetReaderModel" ({ cls := "SheetReaderModel", name := "count", desc := "(I)I" } : Jvm.MethodName) ({ cls := "SheetReaderModel", name := "count", desc := "(I)I" } : Jvm.MethodName)) ∈ lw_tbl := tm_7 _ (List.mem_of_getElem? (i := 21) (by decide +kernel))
theorem tw_7_22 : (Jvm.Cond.code ({ cls := "SheetReaderModel", name := "count", desc := "(I)I" } : Jvm.MethodName) prog_10_method_56_code (2 : Nat) (Option.some Jvm.ClassFile.FieldType.int)) ∈ lw_tbl := tm_7 _ (List.mem_of_getElem? (i := 22) (by decide +kernel))
theorem tw_7_23 : (Jvm.Cond.methodLink "SheetReaderModel" (304 : Nat) ({ cls := "SheetReaderModel", name := "allBoxes", desc := "()I" } : Jvm.MethodName)) ∈ lw_tbl := tm_7 _ (List.mem_of_getElem? (i := 23) (by decide +kernel))
theorem tw_7_25 : (Jvm.Cond.instanceMethod ({ cls := "SheetReaderModel", name := "allBoxes", desc := "()I" } : Jvm.MethodName)) ∈ lw_tbl := tm_7 _ (List.mem_of_getElem? (i := 25) (by decide +kernel))
theorem tw_7_26 : (Jvm.Cond.code ({ cls := "SheetReaderModel", name := "allBoxes", desc := "()I" } : Jvm.MethodName) prog_10_method_29_code (3 : Nat) (Option.some Jvm.ClassFile.FieldType.int)) ∈ lw_tbl := tm_7 _ (List.mem_of_getElem? (i := 26) (by decide +kernel))
theorem tw_7_27 : (Jvm.Cond.methodLink "SheetReaderModel" (272 : Nat) ({ cls := "SheetReaderModel", name := "boxesOf", desc := "(I)I" } : Jvm.MethodName)) ∈ lw_tbl := tm_7 _ (List.mem_of_getElem? (i := 27) (by decide +kernel))
theorem tw_7_29 : (Jvm.Cond.instanceMethod ({ cls := "SheetReaderModel", name := "boxesOf", desc := "(I)I" } : Jvm.MethodName)) ∈ lw_tbl := tm_7 _ (List.mem_of_getElem? (i := 29) (by decide +kernel))
theorem tw_7_30 : (Jvm.Cond.code ({ cls := "SheetReaderModel", name := "boxesOf", desc := "(I)I" } : Jvm.MethodName) prog_10_method_24_code (2 : Nat) (Option.some Jvm.ClassFile.FieldType.int)) ∈ lw_tbl := tm_7 _ (List.mem_of_getElem? (i := 30) (by decide +kernel))
theorem tw_7_31 : (Jvm.Cond.methodLink "SheetReaderModel" (307 : Nat) ({ cls := "SheetReaderModel", name := "inked", desc := "()I" } : Jvm.MethodName)) ∈ lw_tbl := tm_7 _ (List.mem_of_getElem? (i := 31) (by decide +kernel))
theorem tw_7_33 : (Jvm.Cond.instanceMethod ({ cls := "SheetReaderModel", name := "inked", desc := "()I" } : Jvm.MethodName)) ∈ lw_tbl := tm_7 _ (List.mem_of_getElem? (i := 33) (by decide +kernel))
theorem tw_7_34 : (Jvm.Cond.code ({ cls := "SheetReaderModel", name := "inked", desc := "()I" } : Jvm.MethodName) prog_10_method_54_code (3 : Nat) (Option.some Jvm.ClassFile.FieldType.int)) ∈ lw_tbl := tm_7 _ (List.mem_of_getElem? (i := 34) (by decide +kernel))
theorem tw_7_35 : (Jvm.Cond.methodLink "SheetReaderModel" (310 : Nat) ({ cls := "SheetReaderModel", name := "darkness", desc := "()I" } : Jvm.MethodName)) ∈ lw_tbl := tm_7 _ (List.mem_of_getElem? (i := 35) (by decide +kernel))
theorem tw_7_37 : (Jvm.Cond.instanceMethod ({ cls := "SheetReaderModel", name := "darkness", desc := "()I" } : Jvm.MethodName)) ∈ lw_tbl := tm_7 _ (List.mem_of_getElem? (i := 37) (by decide +kernel))
theorem tw_7_38 : (Jvm.Cond.code ({ cls := "SheetReaderModel", name := "darkness", desc := "()I" } : Jvm.MethodName) prog_10_method_55_code (3 : Nat) (Option.some Jvm.ClassFile.FieldType.int)) ∈ lw_tbl := tm_7 _ (List.mem_of_getElem? (i := 38) (by decide +kernel))
theorem tw_7_39 : (Jvm.Cond.methodLink "SheetReaderLaw" (99 : Nat) ({ cls := "SheetReaderModel", name := "blob", desc := "(II)I" } : Jvm.MethodName)) ∈ lw_tbl := tm_7 _ (List.mem_of_getElem? (i := 39) (by decide +kernel))
theorem tw_7_40 : (Jvm.Cond.instanceMethod ({ cls := "SheetReaderModel", name := "blob", desc := "(II)I" } : Jvm.MethodName)) ∈ lw_tbl := tm_7 _ (List.mem_of_getElem? (i := 40) (by decide +kernel))
theorem tw_7_41 : (Jvm.Cond.selects "SheetReaderModel" ({ cls := "SheetReaderModel", name := "blob", desc := "(II)I" } : Jvm.MethodName) ({ cls := "SheetReaderModel", name := "blob", desc := "(II)I" } : Jvm.MethodName)) ∈ lw_tbl := tm_7 _ (List.mem_of_getElem? (i := 41) (by decide +kernel))
theorem tw_7_42 : (Jvm.Cond.code ({ cls := "SheetReaderModel", name := "blob", desc := "(II)I" } : Jvm.MethodName) prog_10_method_60_code (3 : Nat) (Option.some Jvm.ClassFile.FieldType.int)) ∈ lw_tbl := tm_7 _ (List.mem_of_getElem? (i := 42) (by decide +kernel))
theorem tw_7_43 : (Jvm.Cond.methodLink "SheetReaderLaw" (103 : Nat) ({ cls := "SheetReaderModel", name := "mark", desc := "(I)I" } : Jvm.MethodName)) ∈ lw_tbl := tm_7 _ (List.mem_of_getElem? (i := 43) (by decide +kernel))
theorem tw_7_44 : (Jvm.Cond.instanceMethod ({ cls := "SheetReaderModel", name := "mark", desc := "(I)I" } : Jvm.MethodName)) ∈ lw_tbl := tm_7 _ (List.mem_of_getElem? (i := 44) (by decide +kernel))
theorem tw_7_45 : (Jvm.Cond.selects "SheetReaderModel" ({ cls := "SheetReaderModel", name := "mark", desc := "(I)I" } : Jvm.MethodName) ({ cls := "SheetReaderModel", name := "mark", desc := "(I)I" } : Jvm.MethodName)) ∈ lw_tbl := tm_7 _ (List.mem_of_getElem? (i := 45) (by decide +kernel))
theorem tw_7_46 : (Jvm.Cond.code ({ cls := "SheetReaderModel", name := "mark", desc := "(I)I" } : Jvm.MethodName) prog_10_method_63_code (2 : Nat) (Option.some Jvm.ClassFile.FieldType.int)) ∈ lw_tbl := tm_7 _ (List.mem_of_getElem? (i := 46) (by decide +kernel))
theorem tw_7_47 : (Jvm.Cond.methodLink "SheetReaderModel" (332 : Nat) ({ cls := "SheetReaderModel", name := "laysMarks", desc := "()V" } : Jvm.MethodName)) ∈ lw_tbl := tm_7 _ (List.mem_of_getElem? (i := 47) (by decide +kernel))
theorem tw_7_49 : (Jvm.Cond.instanceMethod ({ cls := "SheetReaderModel", name := "laysMarks", desc := "()V" } : Jvm.MethodName)) ∈ lw_tbl := tm_7 _ (List.mem_of_getElem? (i := 49) (by decide +kernel))
theorem tw_7_50 : (Jvm.Cond.code ({ cls := "SheetReaderModel", name := "laysMarks", desc := "()V" } : Jvm.MethodName) prog_10_method_62_code (3 : Nat) (Option.none : Option Jvm.ClassFile.FieldType)) ∈ lw_tbl := tm_7 _ (List.mem_of_getElem? (i := 50) (by decide +kernel))
theorem tw_7_51 : (Jvm.Cond.methodLink "SheetReaderModel" (329 : Nat) ({ cls := "SheetReaderModel", name := "laysMark", desc := "(I)V" } : Jvm.MethodName)) ∈ lw_tbl := tm_7 _ (List.mem_of_getElem? (i := 51) (by decide +kernel))
theorem tw_7_53 : (Jvm.Cond.instanceMethod ({ cls := "SheetReaderModel", name := "laysMark", desc := "(I)V" } : Jvm.MethodName)) ∈ lw_tbl := tm_7 _ (List.mem_of_getElem? (i := 53) (by decide +kernel))
theorem tw_7_54 : (Jvm.Cond.code ({ cls := "SheetReaderModel", name := "laysMark", desc := "(I)V" } : Jvm.MethodName) prog_10_method_61_code (18 : Nat) (Option.none : Option Jvm.ClassFile.FieldType)) ∈ lw_tbl := tm_7 _ (List.mem_of_getElem? (i := 54) (by decide +kernel))
theorem tw_7_55 : (Jvm.Cond.methodLink "SheetReaderLaw" (107 : Nat) ({ cls := "SheetReaderModel", name := "marked", desc := "()I" } : Jvm.MethodName)) ∈ lw_tbl := tm_7 _ (List.mem_of_getElem? (i := 55) (by decide +kernel))
theorem tw_7_56 : (Jvm.Cond.instanceMethod ({ cls := "SheetReaderModel", name := "marked", desc := "()I" } : Jvm.MethodName)) ∈ lw_tbl := tm_7 _ (List.mem_of_getElem? (i := 56) (by decide +kernel))
theorem tw_7_57 : (Jvm.Cond.selects "SheetReaderModel" ({ cls := "SheetReaderModel", name := "marked", desc := "()I" } : Jvm.MethodName) ({ cls := "SheetReaderModel", name := "marked", desc := "()I" } : Jvm.MethodName)) ∈ lw_tbl := tm_7 _ (List.mem_of_getElem? (i := 57) (by decide +kernel))
theorem tw_7_58 : (Jvm.Cond.code ({ cls := "SheetReaderModel", name := "marked", desc := "()I" } : Jvm.MethodName) prog_10_method_64_code (1 : Nat) (Option.some Jvm.ClassFile.FieldType.int)) ∈ lw_tbl := tm_7 _ (List.mem_of_getElem? (i := 58) (by decide +kernel))
theorem tw_7_59 : (Jvm.Cond.methodLink "SheetReaderLaw" (111 : Nat) ({ cls := "SheetReaderModel", name := "shape", desc := "(I)I" } : Jvm.MethodName)) ∈ lw_tbl := tm_7 _ (List.mem_of_getElem? (i := 59) (by decide +kernel))
theorem tw_7_60 : (Jvm.Cond.instanceMethod ({ cls := "SheetReaderModel", name := "shape", desc := "(I)I" } : Jvm.MethodName)) ∈ lw_tbl := tm_7 _ (List.mem_of_getElem? (i := 60) (by decide +kernel))
theorem tw_7_61 : (Jvm.Cond.selects "SheetReaderModel" ({ cls := "SheetReaderModel", name := "shape", desc := "(I)I" } : Jvm.MethodName) ({ cls := "SheetReaderModel", name := "shape", desc := "(I)I" } : Jvm.MethodName)) ∈ lw_tbl := tm_7 _ (List.mem_of_getElem? (i := 61) (by decide +kernel))
theorem tw_7_62 : (Jvm.Cond.code ({ cls := "SheetReaderModel", name := "shape", desc := "(I)I" } : Jvm.MethodName) prog_10_method_67_code (6 : Nat) (Option.some Jvm.ClassFile.FieldType.int)) ∈ lw_tbl := tm_7 _ (List.mem_of_getElem? (i := 62) (by decide +kernel))
theorem tw_7_63 : (Jvm.Cond.methodLink "SheetReaderModel" (335 : Nat) ({ cls := "SheetReaderModel", name := "turnAt", desc := "(III)I" } : Jvm.MethodName)) ∈ lw_tbl := tm_7 _ (List.mem_of_getElem? (i := 63) (by decide +kernel))
theorem tw_7_65 : (Jvm.Cond.instanceMethod ({ cls := "SheetReaderModel", name := "turnAt", desc := "(III)I" } : Jvm.MethodName)) ∈ lw_tbl := tm_7 _ (List.mem_of_getElem? (i := 65) (by decide +kernel))
theorem tw_7_66 : (Jvm.Cond.code ({ cls := "SheetReaderModel", name := "turnAt", desc := "(III)I" } : Jvm.MethodName) prog_10_method_65_code (14 : Nat) (Option.some Jvm.ClassFile.FieldType.int)) ∈ lw_tbl := tm_7 _ (List.mem_of_getElem? (i := 66) (by decide +kernel))
theorem tw_7_67 : (Jvm.Cond.methodLink "SheetReaderModel" (339 : Nat) ({ cls := "SheetReaderModel", name := "side", desc := "(IIII)J" } : Jvm.MethodName)) ∈ lw_tbl := tm_7 _ (List.mem_of_getElem? (i := 67) (by decide +kernel))
theorem tw_7_69 : (Jvm.Cond.instanceMethod ({ cls := "SheetReaderModel", name := "side", desc := "(IIII)J" } : Jvm.MethodName)) ∈ lw_tbl := tm_7 _ (List.mem_of_getElem? (i := 69) (by decide +kernel))
theorem tw_7_70 : (Jvm.Cond.code ({ cls := "SheetReaderModel", name := "side", desc := "(IIII)J" } : Jvm.MethodName) prog_10_method_66_code (5 : Nat) (Option.some Jvm.ClassFile.FieldType.long)) ∈ lw_tbl := tm_7 _ (List.mem_of_getElem? (i := 70) (by decide +kernel))
theorem tw_7_71 : (Jvm.Cond.constantLong "SheetReaderModel" (343 : Nat) (2 : Int64)) ∈ lw_tbl := tm_7 _ (List.mem_of_getElem? (i := 71) (by decide +kernel))
theorem tw_7_72 : (Jvm.Cond.methodLink "SheetReaderLaw" (116 : Nat) ({ cls := "SheetReaderModel", name := "map", desc := "(III)I" } : Jvm.MethodName)) ∈ lw_tbl := tm_7 _ (List.mem_of_getElem? (i := 72) (by decide +kernel))
theorem tw_7_73 : (Jvm.Cond.instanceMethod ({ cls := "SheetReaderModel", name := "map", desc := "(III)I" } : Jvm.MethodName)) ∈ lw_tbl := tm_7 _ (List.mem_of_getElem? (i := 73) (by decide +kernel))
theorem tw_7_74 : (Jvm.Cond.selects "SheetReaderModel" ({ cls := "SheetReaderModel", name := "map", desc := "(III)I" } : Jvm.MethodName) ({ cls := "SheetReaderModel", name := "map", desc := "(III)I" } : Jvm.MethodName)) ∈ lw_tbl := tm_7 _ (List.mem_of_getElem? (i := 74) (by decide +kernel))
theorem tw_7_75 : (Jvm.Cond.code ({ cls := "SheetReaderModel", name := "map", desc := "(III)I" } : Jvm.MethodName) prog_10_method_70_code (4 : Nat) (Option.some Jvm.ClassFile.FieldType.int)) ∈ lw_tbl := tm_7 _ (List.mem_of_getElem? (i := 75) (by decide +kernel))
theorem tw_7_76 : (Jvm.Cond.methodLink "SheetReaderModel" (357 : Nat) ({ cls := "SheetReaderModel", name := "mapped", desc := "(IIZ)I" } : Jvm.MethodName)) ∈ lw_tbl := tm_7 _ (List.mem_of_getElem? (i := 76) (by decide +kernel))
theorem tw_7_78 : (Jvm.Cond.instanceMethod ({ cls := "SheetReaderModel", name := "mapped", desc := "(IIZ)I" } : Jvm.MethodName)) ∈ lw_tbl := tm_7 _ (List.mem_of_getElem? (i := 78) (by decide +kernel))
theorem tw_7_79 : (Jvm.Cond.code ({ cls := "SheetReaderModel", name := "mapped", desc := "(IIZ)I" } : Jvm.MethodName) prog_10_method_69_code (4 : Nat) (Option.some Jvm.ClassFile.FieldType.int)) ∈ lw_tbl := tm_7 _ (List.mem_of_getElem? (i := 79) (by decide +kernel))
theorem tw_7_80 : (Jvm.Cond.methodLink "SheetReaderModel" (353 : Nat) ({ cls := "SheetReaderModel", name := "maps", desc := "(IIZ)V" } : Jvm.MethodName)) ∈ lw_tbl := tm_7 _ (List.mem_of_getElem? (i := 80) (by decide +kernel))
theorem tw_7_82 : (Jvm.Cond.instanceMethod ({ cls := "SheetReaderModel", name := "maps", desc := "(IIZ)V" } : Jvm.MethodName)) ∈ lw_tbl := tm_7 _ (List.mem_of_getElem? (i := 82) (by decide +kernel))
theorem tw_7_83 : (Jvm.Cond.code ({ cls := "SheetReaderModel", name := "maps", desc := "(IIZ)V" } : Jvm.MethodName) prog_10_method_68_code (13 : Nat) (Option.none : Option Jvm.ClassFile.FieldType)) ∈ lw_tbl := tm_7 _ (List.mem_of_getElem? (i := 83) (by decide +kernel))
theorem tw_7_84 : (Jvm.Cond.constantLong "SheetReaderModel" (348 : Nat) (4 : Int64)) ∈ lw_tbl := tm_7 _ (List.mem_of_getElem? (i := 84) (by decide +kernel))
theorem tw_7_85 : (Jvm.Cond.constantLong "SheetReaderModel" (361 : Nat) (100 : Int64)) ∈ lw_tbl := tm_7 _ (List.mem_of_getElem? (i := 85) (by decide +kernel))
theorem tw_7_86 : (Jvm.Cond.methodLink "SheetReaderLaw" (120 : Nat) ({ cls := "SheetReaderModel", name := "dark", desc := "(II)I" } : Jvm.MethodName)) ∈ lw_tbl := tm_7 _ (List.mem_of_getElem? (i := 86) (by decide +kernel))
theorem tw_7_87 : (Jvm.Cond.instanceMethod ({ cls := "SheetReaderModel", name := "dark", desc := "(II)I" } : Jvm.MethodName)) ∈ lw_tbl := tm_7 _ (List.mem_of_getElem? (i := 87) (by decide +kernel))
theorem tw_7_88 : (Jvm.Cond.selects "SheetReaderModel" ({ cls := "SheetReaderModel", name := "dark", desc := "(II)I" } : Jvm.MethodName) ({ cls := "SheetReaderModel", name := "dark", desc := "(II)I" } : Jvm.MethodName)) ∈ lw_tbl := tm_7 _ (List.mem_of_getElem? (i := 88) (by decide +kernel))
theorem tw_7_89 : (Jvm.Cond.code ({ cls := "SheetReaderModel", name := "dark", desc := "(II)I" } : Jvm.MethodName) prog_10_method_73_code (3 : Nat) (Option.some Jvm.ClassFile.FieldType.int)) ∈ lw_tbl := tm_7 _ (List.mem_of_getElem? (i := 89) (by decide +kernel))
theorem tw_7_90 : (Jvm.Cond.methodLink "SheetReaderModel" (370 : Nat) ({ cls := "SheetReaderModel", name := "isBox", desc := "(II)Z" } : Jvm.MethodName)) ∈ lw_tbl := tm_7 _ (List.mem_of_getElem? (i := 90) (by decide +kernel))
theorem tw_7_92 : (Jvm.Cond.instanceMethod ({ cls := "SheetReaderModel", name := "isBox", desc := "(II)Z" } : Jvm.MethodName)) ∈ lw_tbl := tm_7 _ (List.mem_of_getElem? (i := 92) (by decide +kernel))
theorem tw_7_93 : (Jvm.Cond.code ({ cls := "SheetReaderModel", name := "isBox", desc := "(II)Z" } : Jvm.MethodName) prog_10_method_28_code (3 : Nat) (Option.some Jvm.ClassFile.FieldType.boolean)) ∈ lw_tbl := tm_7 _ (List.mem_of_getElem? (i := 93) (by decide +kernel))
theorem tw_7_94 : (Jvm.Cond.methodLink "SheetReaderModel" (373 : Nat) ({ cls := "SheetReaderModel", name := "finds", desc := "()Z" } : Jvm.MethodName)) ∈ lw_tbl := tm_7 _ (List.mem_of_getElem? (i := 94) (by decide +kernel))
theorem tw_7_96 : (Jvm.Cond.instanceMethod ({ cls := "SheetReaderModel", name := "finds", desc := "()Z" } : Jvm.MethodName)) ∈ lw_tbl := tm_7 _ (List.mem_of_getElem? (i := 96) (by decide +kernel))
theorem tw_7_97 : (Jvm.Cond.code ({ cls := "SheetReaderModel", name := "finds", desc := "()Z" } : Jvm.MethodName) prog_10_method_72_code (4 : Nat) (Option.some Jvm.ClassFile.FieldType.boolean)) ∈ lw_tbl := tm_7 _ (List.mem_of_getElem? (i := 97) (by decide +kernel))
theorem tw_7_98 : (Jvm.Cond.methodLink "SheetReaderModel" (366 : Nat) ({ cls := "SheetReaderModel", name := "darkOf", desc := "(II)I" } : Jvm.MethodName)) ∈ lw_tbl := tm_7 _ (List.mem_of_getElem? (i := 98) (by decide +kernel))
theorem tw_7_100 : (Jvm.Cond.instanceMethod ({ cls := "SheetReaderModel", name := "darkOf", desc := "(II)I" } : Jvm.MethodName)) ∈ lw_tbl := tm_7 _ (List.mem_of_getElem? (i := 100) (by decide +kernel))
theorem tw_7_101 : (Jvm.Cond.code ({ cls := "SheetReaderModel", name := "darkOf", desc := "(II)I" } : Jvm.MethodName) prog_10_method_71_code (11 : Nat) (Option.some Jvm.ClassFile.FieldType.int)) ∈ lw_tbl := tm_7 _ (List.mem_of_getElem? (i := 101) (by decide +kernel))
theorem tw_7_102 : (Jvm.Cond.methodLink "SheetReaderLaw" (124 : Nat) ({ cls := "SheetReaderModel", name := "judged", desc := "(II)I" } : Jvm.MethodName)) ∈ lw_tbl := tm_7 _ (List.mem_of_getElem? (i := 102) (by decide +kernel))
theorem tw_7_103 : (Jvm.Cond.instanceMethod ({ cls := "SheetReaderModel", name := "judged", desc := "(II)I" } : Jvm.MethodName)) ∈ lw_tbl := tm_7 _ (List.mem_of_getElem? (i := 103) (by decide +kernel))
theorem tw_7_104 : (Jvm.Cond.selects "SheetReaderModel" ({ cls := "SheetReaderModel", name := "judged", desc := "(II)I" } : Jvm.MethodName) ({ cls := "SheetReaderModel", name := "judged", desc := "(II)I" } : Jvm.MethodName)) ∈ lw_tbl := tm_7 _ (List.mem_of_getElem? (i := 104) (by decide +kernel))
theorem tw_7_105 : (Jvm.Cond.code ({ cls := "SheetReaderModel", name := "judged", desc := "(II)I" } : Jvm.MethodName) prog_10_method_78_code (3 : Nat) (Option.some Jvm.ClassFile.FieldType.int)) ∈ lw_tbl := tm_7 _ (List.mem_of_getElem? (i := 105) (by decide +kernel))
theorem tw_7_106 : (Jvm.Cond.constant "SheetReaderModel" (400 : Nat) (-2147483648 : Int32)) ∈ lw_tbl := tm_7 _ (List.mem_of_getElem? (i := 106) (by decide +kernel))
theorem tw_7_107 : (Jvm.Cond.methodLink "SheetReaderModel" (401 : Nat) ({ cls := "SheetReaderModel", name := "judges", desc := "(II)V" } : Jvm.MethodName)) ∈ lw_tbl := tm_7 _ (List.mem_of_getElem? (i := 107) (by decide +kernel))
theorem tw_7_109 : (Jvm.Cond.instanceMethod ({ cls := "SheetReaderModel", name := "judges", desc := "(II)V" } : Jvm.MethodName)) ∈ lw_tbl := tm_7 _ (List.mem_of_getElem? (i := 109) (by decide +kernel))
theorem tw_7_110 : (Jvm.Cond.code ({ cls := "SheetReaderModel", name := "judges", desc := "(II)V" } : Jvm.MethodName) prog_10_method_76_code (7 : Nat) (Option.none : Option Jvm.ClassFile.FieldType)) ∈ lw_tbl := tm_7 _ (List.mem_of_getElem? (i := 110) (by decide +kernel))
theorem tw_7_111 : (Jvm.Cond.methodLink "SheetReaderModel" (376 : Nat) ({ cls := "SheetReaderModel", name := "laysOrder", desc := "(I)V" } : Jvm.MethodName)) ∈ lw_tbl := tm_7 _ (List.mem_of_getElem? (i := 111) (by decide +kernel))
theorem tw_7_113 : (Jvm.Cond.instanceMethod ({ cls := "SheetReaderModel", name := "laysOrder", desc := "(I)V" } : Jvm.MethodName)) ∈ lw_tbl := tm_7 _ (List.mem_of_getElem? (i := 113) (by decide +kernel))
theorem tw_7_114 : (Jvm.Cond.code ({ cls := "SheetReaderModel", name := "laysOrder", desc := "(I)V" } : Jvm.MethodName) prog_10_method_74_code (5 : Nat) (Option.none : Option Jvm.ClassFile.FieldType)) ∈ lw_tbl := tm_7 _ (List.mem_of_getElem? (i := 114) (by decide +kernel))
theorem tw_7_115 : (Jvm.Cond.methodLink "SheetReaderModel" (382 : Nat) ({ cls := "SheetReaderModel", name := "darkAt", desc := "(II)I" } : Jvm.MethodName)) ∈ lw_tbl := tm_7 _ (List.mem_of_getElem? (i := 115) (by decide +kernel))
theorem tw_7_117 : (Jvm.Cond.instanceMethod ({ cls := "SheetReaderModel", name := "darkAt", desc := "(II)I" } : Jvm.MethodName)) ∈ lw_tbl := tm_7 _ (List.mem_of_getElem? (i := 117) (by decide +kernel))
theorem tw_7_118 : (Jvm.Cond.code ({ cls := "SheetReaderModel", name := "darkAt", desc := "(II)I" } : Jvm.MethodName) prog_10_method_75_code (3 : Nat) (Option.some Jvm.ClassFile.FieldType.int)) ∈ lw_tbl := tm_7 _ (List.mem_of_getElem? (i := 118) (by decide +kernel))
theorem tw_7_119 : (Jvm.Cond.methodLink "SheetReaderModel" (404 : Nat) ({ cls := "SheetReaderModel", name := "pointsOf", desc := "(I)I" } : Jvm.MethodName)) ∈ lw_tbl := tm_7 _ (List.mem_of_getElem? (i := 119) (by decide +kernel))
theorem tw_7_121 : (Jvm.Cond.instanceMethod ({ cls := "SheetReaderModel", name := "pointsOf", desc := "(I)I" } : Jvm.MethodName)) ∈ lw_tbl := tm_7 _ (List.mem_of_getElem? (i := 121) (by decide +kernel))
theorem tw_7_122 : (Jvm.Cond.code ({ cls := "SheetReaderModel", name := "pointsOf", desc := "(I)I" } : Jvm.MethodName) prog_10_method_77_code (2 : Nat) (Option.some Jvm.ClassFile.FieldType.int)) ∈ lw_tbl := tm_7 _ (List.mem_of_getElem? (i := 122) (by decide +kernel))
theorem tw_7_123 : (Jvm.Cond.methodLink "SheetReaderModel" (394 : Nat) ({ cls := "SheetReaderModel", name := "keyOf", desc := "(I)I" } : Jvm.MethodName)) ∈ lw_tbl := tm_7 _ (List.mem_of_getElem? (i := 123) (by decide +kernel))
theorem tw_7_125 : (Jvm.Cond.instanceMethod ({ cls := "SheetReaderModel", name := "keyOf", desc := "(I)I" } : Jvm.MethodName)) ∈ lw_tbl := tm_7 _ (List.mem_of_getElem? (i := 125) (by decide +kernel))
theorem tw_7_126 : (Jvm.Cond.code ({ cls := "SheetReaderModel", name := "keyOf", desc := "(I)I" } : Jvm.MethodName) prog_10_method_25_code (2 : Nat) (Option.some Jvm.ClassFile.FieldType.int)) ∈ lw_tbl := tm_7 _ (List.mem_of_getElem? (i := 126) (by decide +kernel))
theorem tw_7_127 : (Jvm.Cond.methodLink "SheetReaderModel" (397 : Nat) ({ cls := "SheetReaderModel", name := "worthOf", desc := "(I)I" } : Jvm.MethodName)) ∈ lw_tbl := tm_7 _ (List.mem_of_getElem? (i := 127) (by decide +kernel))
theorem tw_7_129 : (Jvm.Cond.instanceMethod ({ cls := "SheetReaderModel", name := "worthOf", desc := "(I)I" } : Jvm.MethodName)) ∈ lw_tbl := tm_7 _ (List.mem_of_getElem? (i := 129) (by decide +kernel))
theorem tw_7_130 : (Jvm.Cond.code ({ cls := "SheetReaderModel", name := "worthOf", desc := "(I)I" } : Jvm.MethodName) prog_10_method_26_code (2 : Nat) (Option.some Jvm.ClassFile.FieldType.int)) ∈ lw_tbl := tm_7 _ (List.mem_of_getElem? (i := 130) (by decide +kernel))
theorem tw_7_131 : (Jvm.Cond.methodLink "SheetReaderLaw" (128 : Nat) ({ cls := "SheetReaderModel", name := "sheet", desc := "(I)I" } : Jvm.MethodName)) ∈ lw_tbl := tm_7 _ (List.mem_of_getElem? (i := 131) (by decide +kernel))
theorem tw_7_132 : (Jvm.Cond.instanceMethod ({ cls := "SheetReaderModel", name := "sheet", desc := "(I)I" } : Jvm.MethodName)) ∈ lw_tbl := tm_7 _ (List.mem_of_getElem? (i := 132) (by decide +kernel))
theorem tw_7_133 : (Jvm.Cond.selects "SheetReaderModel" ({ cls := "SheetReaderModel", name := "sheet", desc := "(I)I" } : Jvm.MethodName) ({ cls := "SheetReaderModel", name := "sheet", desc := "(I)I" } : Jvm.MethodName)) ∈ lw_tbl := tm_7 _ (List.mem_of_getElem? (i := 133) (by decide +kernel))
theorem tw_7_134 : (Jvm.Cond.code ({ cls := "SheetReaderModel", name := "sheet", desc := "(I)I" } : Jvm.MethodName) prog_10_method_80_code (2 : Nat) (Option.some Jvm.ClassFile.FieldType.int)) ∈ lw_tbl := tm_7 _ (List.mem_of_getElem? (i := 134) (by decide +kernel))
theorem tw_7_135 : (Jvm.Cond.methodLink "SheetReaderModel" (410 : Nat) ({ cls := "SheetReaderModel", name := "sum", desc := "(I)I" } : Jvm.MethodName)) ∈ lw_tbl := tm_7 _ (List.mem_of_getElem? (i := 135) (by decide +kernel))
theorem tw_7_137 : (Jvm.Cond.instanceMethod ({ cls := "SheetReaderModel", name := "sum", desc := "(I)I" } : Jvm.MethodName)) ∈ lw_tbl := tm_7 _ (List.mem_of_getElem? (i := 137) (by decide +kernel))
theorem tw_7_138 : (Jvm.Cond.code ({ cls := "SheetReaderModel", name := "sum", desc := "(I)I" } : Jvm.MethodName) prog_10_method_79_code (4 : Nat) (Option.some Jvm.ClassFile.FieldType.int)) ∈ lw_tbl := tm_7 _ (List.mem_of_getElem? (i := 138) (by decide +kernel))
theorem tw_7_139 : (Jvm.Cond.methodLink "SheetReaderModel" (407 : Nat) ({ cls := "SheetReaderModel", name := "bits", desc := "(I)I" } : Jvm.MethodName)) ∈ lw_tbl := tm_7 _ (List.mem_of_getElem? (i := 139) (by decide +kernel))
theorem tw_7_140 : (Jvm.Cond.static ({ cls := "SheetReaderModel", name := "bits", desc := "(I)I" } : Jvm.MethodName)) ∈ lw_tbl := tm_7 _ (List.mem_of_getElem? (i := 140) (by decide +kernel))
theorem tw_7_141 : (Jvm.Cond.code ({ cls := "SheetReaderModel", name := "bits", desc := "(I)I" } : Jvm.MethodName) prog_10_method_4_code (3 : Nat) (Option.some Jvm.ClassFile.FieldType.int)) ∈ lw_tbl := tm_7 _ (List.mem_of_getElem? (i := 141) (by decide +kernel))
theorem tw_7_142 : (Jvm.Cond.constant "SheetReaderModel" (413 : Nat) (-1000000 : Int32)) ∈ lw_tbl := tm_7 _ (List.mem_of_getElem? (i := 142) (by decide +kernel))
theorem tw_7_143 : (Jvm.Cond.methodLink "SheetReaderLaw" (132 : Nat) ({ cls := "SheetReaderModel", name := "rank", desc := "(II)I" } : Jvm.MethodName)) ∈ lw_tbl := tm_7 _ (List.mem_of_getElem? (i := 143) (by decide +kernel))
theorem tw_7_144 : (Jvm.Cond.instanceMethod ({ cls := "SheetReaderModel", name := "rank", desc := "(II)I" } : Jvm.MethodName)) ∈ lw_tbl := tm_7 _ (List.mem_of_getElem? (i := 144) (by decide +kernel))
theorem tw_7_145 : (Jvm.Cond.selects "SheetReaderModel" ({ cls := "SheetReaderModel", name := "rank", desc := "(II)I" } : Jvm.MethodName) ({ cls := "SheetReaderModel", name := "rank", desc := "(II)I" } : Jvm.MethodName)) ∈ lw_tbl := tm_7 _ (List.mem_of_getElem? (i := 145) (by decide +kernel))
theorem tw_7_146 : (Jvm.Cond.code ({ cls := "SheetReaderModel", name := "rank", desc := "(II)I" } : Jvm.MethodName) prog_10_method_81_code (6 : Nat) (Option.some Jvm.ClassFile.FieldType.int)) ∈ lw_tbl := tm_7 _ (List.mem_of_getElem? (i := 146) (by decide +kernel))
theorem tw_7_147 : (Jvm.Cond.methodLink "SheetReaderLaw" (136 : Nat) ({ cls := "SheetReaderModel", name := "apart", desc := "(I)I" } : Jvm.MethodName)) ∈ lw_tbl := tm_7 _ (List.mem_of_getElem? (i := 147) (by decide +kernel))
theorem tw_7_148 : (Jvm.Cond.instanceMethod ({ cls := "SheetReaderModel", name := "apart", desc := "(I)I" } : Jvm.MethodName)) ∈ lw_tbl := tm_7 _ (List.mem_of_getElem? (i := 148) (by decide +kernel))
theorem tw_7_149 : (Jvm.Cond.selects "SheetReaderModel" ({ cls := "SheetReaderModel", name := "apart", desc := "(I)I" } : Jvm.MethodName) ({ cls := "SheetReaderModel", name := "apart", desc := "(I)I" } : Jvm.MethodName)) ∈ lw_tbl := tm_7 _ (List.mem_of_getElem? (i := 149) (by decide +kernel))
theorem tw_7_150 : (Jvm.Cond.code ({ cls := "SheetReaderModel", name := "apart", desc := "(I)I" } : Jvm.MethodName) prog_10_method_82_code (7 : Nat) (Option.some Jvm.ClassFile.FieldType.int)) ∈ lw_tbl := tm_7 _ (List.mem_of_getElem? (i := 150) (by decide +kernel))
theorem tw_7_151 : (Jvm.Cond.methodLink "SheetReaderLaw" (140 : Nat) ({ cls := "SheetReaderModel", name := "steady", desc := "(II)I" } : Jvm.MethodName)) ∈ lw_tbl := tm_7 _ (List.mem_of_getElem? (i := 151) (by decide +kernel))
theorem tw_7_152 : (Jvm.Cond.instanceMethod ({ cls := "SheetReaderModel", name := "steady", desc := "(II)I" } : Jvm.MethodName)) ∈ lw_tbl := tm_7 _ (List.mem_of_getElem? (i := 152) (by decide +kernel))
theorem tw_7_153 : (Jvm.Cond.selects "SheetReaderModel" ({ cls := "SheetReaderModel", name := "steady", desc := "(II)I" } : Jvm.MethodName) ({ cls := "SheetReaderModel", name := "steady", desc := "(II)I" } : Jvm.MethodName)) ∈ lw_tbl := tm_7 _ (List.mem_of_getElem? (i := 153) (by decide +kernel))
theorem tw_7_154 : (Jvm.Cond.code ({ cls := "SheetReaderModel", name := "steady", desc := "(II)I" } : Jvm.MethodName) prog_10_method_83_code (8 : Nat) (Option.some Jvm.ClassFile.FieldType.int)) ∈ lw_tbl := tm_7 _ (List.mem_of_getElem? (i := 154) (by decide +kernel))
theorem tw_7_155 : (Jvm.Cond.methodLink "SheetReaderLaw" (145 : Nat) ({ cls := "SheetReaderModel", name := "corner", desc := "(III)Z" } : Jvm.MethodName)) ∈ lw_tbl := tm_7 _ (List.mem_of_getElem? (i := 155) (by decide +kernel))
theorem tw_7_156 : (Jvm.Cond.instanceMethod ({ cls := "SheetReaderModel", name := "corner", desc := "(III)Z" } : Jvm.MethodName)) ∈ lw_tbl := tm_7 _ (List.mem_of_getElem? (i := 156) (by decide +kernel))
theorem tw_7_157 : (Jvm.Cond.selects "SheetReaderModel" ({ cls := "SheetReaderModel", name := "corner", desc := "(III)Z" } : Jvm.MethodName) ({ cls := "SheetReaderModel", name := "corner", desc := "(III)Z" } : Jvm.MethodName)) ∈ lw_tbl := tm_7 _ (List.mem_of_getElem? (i := 157) (by decide +kernel))
theorem tw_7_158 : (Jvm.Cond.code ({ cls := "SheetReaderModel", name := "corner", desc := "(III)Z" } : Jvm.MethodName) prog_10_method_84_code (4 : Nat) (Option.some Jvm.ClassFile.FieldType.boolean)) ∈ lw_tbl := tm_7 _ (List.mem_of_getElem? (i := 158) (by decide +kernel))
theorem tw_7_159 : (Jvm.Cond.methodLink "SheetReaderLaw" (149 : Nat) ({ cls := "SheetReaderModel", name := "tick", desc := "(II)I" } : Jvm.MethodName)) ∈ lw_tbl := tm_7 _ (List.mem_of_getElem? (i := 159) (by decide +kernel))
theorem tw_7_160 : (Jvm.Cond.instanceMethod ({ cls := "SheetReaderModel", name := "tick", desc := "(II)I" } : Jvm.MethodName)) ∈ lw_tbl := tm_7 _ (List.mem_of_getElem? (i := 160) (by decide +kernel))
theorem tw_7_161 : (Jvm.Cond.selects "SheetReaderModel" ({ cls := "SheetReaderModel", name := "tick", desc := "(II)I" } : Jvm.MethodName) ({ cls := "SheetReaderModel", name := "tick", desc := "(II)I" } : Jvm.MethodName)) ∈ lw_tbl := tm_7 _ (List.mem_of_getElem? (i := 161) (by decide +kernel))
theorem tw_7_162 : (Jvm.Cond.code ({ cls := "SheetReaderModel", name := "tick", desc := "(II)I" } : Jvm.MethodName) prog_10_method_85_code (4 : Nat) (Option.some Jvm.ClassFile.FieldType.int)) ∈ lw_tbl := tm_7 _ (List.mem_of_getElem? (i := 162) (by decide +kernel))
theorem tw_7_163 : (Jvm.Cond.methodLink "SheetReaderLaw" (153 : Nat) ({ cls := "SheetReaderModel", name := "print", desc := "(I)I" } : Jvm.MethodName)) ∈ lw_tbl := tm_7 _ (List.mem_of_getElem? (i := 163) (by decide +kernel))
theorem tw_7_164 : (Jvm.Cond.instanceMethod ({ cls := "SheetReaderModel", name := "print", desc := "(I)I" } : Jvm.MethodName)) ∈ lw_tbl := tm_7 _ (List.mem_of_getElem? (i := 164) (by decide +kernel))
theorem tw_7_165 : (Jvm.Cond.selects "SheetReaderModel" ({ cls := "SheetReaderModel", name := "print", desc := "(I)I" } : Jvm.MethodName) ({ cls := "SheetReaderModel", name := "print", desc := "(I)I" } : Jvm.MethodName)) ∈ lw_tbl := tm_7 _ (List.mem_of_getElem? (i := 165) (by decide +kernel))
theorem tw_7_166 : (Jvm.Cond.code ({ cls := "SheetReaderModel", name := "print", desc := "(I)I" } : Jvm.MethodName) prog_10_method_87_code (4 : Nat) (Option.some Jvm.ClassFile.FieldType.int)) ∈ lw_tbl := tm_7 _ (List.mem_of_getElem? (i := 166) (by decide +kernel))
theorem tw_7_167 : (Jvm.Cond.methodLink "SheetReaderModel" (414 : Nat) ({ cls := "SheetReaderModel", name := "inks", desc := "(III)V" } : Jvm.MethodName)) ∈ lw_tbl := tm_7 _ (List.mem_of_getElem? (i := 167) (by decide +kernel))
theorem tw_7_169 : (Jvm.Cond.instanceMethod ({ cls := "SheetReaderModel", name := "inks", desc := "(III)V" } : Jvm.MethodName)) ∈ lw_tbl := tm_7 _ (List.mem_of_getElem? (i := 169) (by decide +kernel))
theorem tw_7_170 : (Jvm.Cond.code ({ cls := "SheetReaderModel", name := "inks", desc := "(III)V" } : Jvm.MethodName) prog_10_method_86_code (9 : Nat) (Option.none : Option Jvm.ClassFile.FieldType)) ∈ lw_tbl := tm_7 _ (List.mem_of_getElem? (i := 170) (by decide +kernel))
theorem tw_7_171 : (Jvm.Cond.methodLink "SheetReaderLaw" (157 : Nat) ({ cls := "SheetReaderModel", name := "unlike", desc := "()I" } : Jvm.MethodName)) ∈ lw_tbl := tm_7 _ (List.mem_of_getElem? (i := 171) (by decide +kernel))
theorem tw_7_172 : (Jvm.Cond.instanceMethod ({ cls := "SheetReaderModel", name := "unlike", desc := "()I" } : Jvm.MethodName)) ∈ lw_tbl := tm_7 _ (List.mem_of_getElem? (i := 172) (by decide +kernel))
theorem tw_7_173 : (Jvm.Cond.selects "SheetReaderModel" ({ cls := "SheetReaderModel", name := "unlike", desc := "()I" } : Jvm.MethodName) ({ cls := "SheetReaderModel", name := "unlike", desc := "()I" } : Jvm.MethodName)) ∈ lw_tbl := tm_7 _ (List.mem_of_getElem? (i := 173) (by decide +kernel))
theorem tw_7_174 : (Jvm.Cond.code ({ cls := "SheetReaderModel", name := "unlike", desc := "()I" } : Jvm.MethodName) prog_10_method_88_code (3 : Nat) (Option.some Jvm.ClassFile.FieldType.int)) ∈ lw_tbl := tm_7 _ (List.mem_of_getElem? (i := 174) (by decide +kernel))
theorem tw_7_175 : (Jvm.Cond.methodLink "SheetReaderLaw" (161 : Nat) ({ cls := "SheetReaderModel", name := "up", desc := "()I" } : Jvm.MethodName)) ∈ lw_tbl := tm_7 _ (List.mem_of_getElem? (i := 175) (by decide +kernel))
theorem tw_7_176 : (Jvm.Cond.instanceMethod ({ cls := "SheetReaderModel", name := "up", desc := "()I" } : Jvm.MethodName)) ∈ lw_tbl := tm_7 _ (List.mem_of_getElem? (i := 176) (by decide +kernel))
theorem tw_7_177 : (Jvm.Cond.selects "SheetReaderModel" ({ cls := "SheetReaderModel", name := "up", desc := "()I" } : Jvm.MethodName) ({ cls := "SheetReaderModel", name := "up", desc := "()I" } : Jvm.MethodName)) ∈ lw_tbl := tm_7 _ (List.mem_of_getElem? (i := 177) (by decide +kernel))
theorem tw_7_178 : (Jvm.Cond.code ({ cls := "SheetReaderModel", name := "up", desc := "()I" } : Jvm.MethodName) prog_10_method_89_code (5 : Nat) (Option.some Jvm.ClassFile.FieldType.int)) ∈ lw_tbl := tm_7 _ (List.mem_of_getElem? (i := 178) (by decide +kernel))
theorem tw_7_179 : (Jvm.Cond.methodLink "SheetReaderLaw" (165 : Nat) ({ cls := "SheetReaderModel", name := "lay", desc := "()I" } : Jvm.MethodName)) ∈ lw_tbl := tm_7 _ (List.mem_of_getElem? (i := 179) (by decide +kernel))
theorem tw_7_180 : (Jvm.Cond.instanceMethod ({ cls := "SheetReaderModel", name := "lay", desc := "()I" } : Jvm.MethodName)) ∈ lw_tbl := tm_7 _ (List.mem_of_getElem? (i := 180) (by decide +kernel))
theorem tw_7_181 : (Jvm.Cond.selects "SheetReaderModel" ({ cls := "SheetReaderModel", name := "lay", desc := "()I" } : Jvm.MethodName) ({ cls := "SheetReaderModel", name := "lay", desc := "()I" } : Jvm.MethodName)) ∈ lw_tbl := tm_7 _ (List.mem_of_getElem? (i := 181) (by decide +kernel))
theorem tw_7_182 : (Jvm.Cond.code ({ cls := "SheetReaderModel", name := "lay", desc := "()I" } : Jvm.MethodName) prog_10_method_90_code (3 : Nat) (Option.some Jvm.ClassFile.FieldType.int)) ∈ lw_tbl := tm_7 _ (List.mem_of_getElem? (i := 182) (by decide +kernel))
theorem tw_7_183 : (Jvm.Cond.methodLink "SheetReaderLaw" (169 : Nat) ({ cls := "SheetReaderModel", name := "laid", desc := "(II)I" } : Jvm.MethodName)) ∈ lw_tbl := tm_7 _ (List.mem_of_getElem? (i := 183) (by decide +kernel))
theorem tw_7_184 : (Jvm.Cond.instanceMethod ({ cls := "SheetReaderModel", name := "laid", desc := "(II)I" } : Jvm.MethodName)) ∈ lw_tbl := tm_7 _ (List.mem_of_getElem? (i := 184) (by decide +kernel))
theorem tw_7_185 : (Jvm.Cond.selects "SheetReaderModel" ({ cls := "SheetReaderModel", name := "laid", desc := "(II)I" } : Jvm.MethodName) ({ cls := "SheetReaderModel", name := "laid", desc := "(II)I" } : Jvm.MethodName)) ∈ lw_tbl := tm_7 _ (List.mem_of_getElem? (i := 185) (by decide +kernel))
theorem tw_7_186 : (Jvm.Cond.code ({ cls := "SheetReaderModel", name := "laid", desc := "(II)I" } : Jvm.MethodName) prog_10_method_91_code (5 : Nat) (Option.some Jvm.ClassFile.FieldType.int)) ∈ lw_tbl := tm_7 _ (List.mem_of_getElem? (i := 186) (by decide +kernel))
theorem tw_7_187 : (Jvm.Cond.methodLink "SheetReaderLaw" (173 : Nat) ({ cls := "SheetReaderModel", name := "chosen", desc := "(II)I" } : Jvm.MethodName)) ∈ lw_tbl := tm_7 _ (List.mem_of_getElem? (i := 187) (by decide +kernel))
theorem tw_7_188 : (Jvm.Cond.instanceMethod ({ cls := "SheetReaderModel", name := "chosen", desc := "(II)I" } : Jvm.MethodName)) ∈ lw_tbl := tm_7 _ (List.mem_of_getElem? (i := 188) (by decide +kernel))
theorem tw_7_189 : (Jvm.Cond.selects "SheetReaderModel" ({ cls := "SheetReaderModel", name := "chosen", desc := "(II)I" } : Jvm.MethodName) ({ cls := "SheetReaderModel", name := "chosen", desc := "(II)I" } : Jvm.MethodName)) ∈ lw_tbl := tm_7 _ (List.mem_of_getElem? (i := 189) (by decide +kernel))
theorem tw_7_190 : (Jvm.Cond.code ({ cls := "SheetReaderModel", name := "chosen", desc := "(II)I" } : Jvm.MethodName) prog_10_method_93_code (5 : Nat) (Option.some Jvm.ClassFile.FieldType.int)) ∈ lw_tbl := tm_7 _ (List.mem_of_getElem? (i := 190) (by decide +kernel))
theorem tw_7_191 : (Jvm.Cond.methodLink "SheetReaderModel" (418 : Nat) ({ cls := "SheetReaderModel", name := "isRight", desc := "(II)Z" } : Jvm.MethodName)) ∈ lw_tbl := tm_7 _ (List.mem_of_getElem? (i := 191) (by decide +kernel))
theorem tw_7_193 : (Jvm.Cond.instanceMethod ({ cls := "SheetReaderModel", name := "isRight", desc := "(II)Z" } : Jvm.MethodName)) ∈ lw_tbl := tm_7 _ (List.mem_of_getElem? (i := 193) (by decide +kernel))
theorem tw_7_194 : (Jvm.Cond.code ({ cls := "SheetReaderModel", name := "isRight", desc := "(II)Z" } : Jvm.MethodName) prog_10_method_92_code (3 : Nat) (Option.some Jvm.ClassFile.FieldType.boolean)) ∈ lw_tbl := tm_7 _ (List.mem_of_getElem? (i := 194) (by decide +kernel))
theorem tw_7_195 : (Jvm.Cond.methodLink "SheetReaderLaw" (177 : Nat) ({ cls := "SheetReaderModel", name := "copied", desc := "(II)I" } : Jvm.MethodName)) ∈ lw_tbl := tm_7 _ (List.mem_of_getElem? (i := 195) (by decide +kernel))
theorem tw_7_196 : (Jvm.Cond.instanceMethod ({ cls := "SheetReaderModel", name := "copied", desc := "(II)I" } : Jvm.MethodName)) ∈ lw_tbl := tm_7 _ (List.mem_of_getElem? (i := 196) (by decide +kernel))
theorem tw_7_197 : (Jvm.Cond.selects "SheetReaderModel" ({ cls := "SheetReaderModel", name := "copied", desc := "(II)I" } : Jvm.MethodName) ({ cls := "SheetReaderModel", name := "copied", desc := "(II)I" } : Jvm.MethodName)) ∈ lw_tbl := tm_7 _ (List.mem_of_getElem? (i := 197) (by decide +kernel))
theorem tw_7_198 : (Jvm.Cond.code ({ cls := "SheetReaderModel", name := "copied", desc := "(II)I" } : Jvm.MethodName) prog_10_method_95_code (6 : Nat) (Option.some Jvm.ClassFile.FieldType.int)) ∈ lw_tbl := tm_7 _ (List.mem_of_getElem? (i := 198) (by decide +kernel))
theorem tw_7_199 : (Jvm.Cond.methodLink "SheetReaderModel" (421 : Nat) ({ cls := "SheetReaderModel", name := "alikeIn", desc := "(II)I" } : Jvm.MethodName)) ∈ lw_tbl := tm_7 _ (List.mem_of_getElem? (i := 199) (by decide +kernel))
theorem tw_7_201 : (Jvm.Cond.instanceMethod ({ cls := "SheetReaderModel", name := "alikeIn", desc := "(II)I" } : Jvm.MethodName)) ∈ lw_tbl := tm_7 _ (List.mem_of_getElem? (i := 201) (by decide +kernel))
theorem tw_7_202 : (Jvm.Cond.code ({ cls := "SheetReaderModel", name := "alikeIn", desc := "(II)I" } : Jvm.MethodName) prog_10_method_94_code (6 : Nat) (Option.some Jvm.ClassFile.FieldType.int)) ∈ lw_tbl := tm_7 _ (List.mem_of_getElem? (i := 202) (by decide +kernel))
theorem tw_7_203 : (Jvm.Cond.methodLink "SheetReaderLaw" (181 : Nat) ({ cls := "SheetReaderModel", name := "telling", desc := "(I)I" } : Jvm.MethodName)) ∈ lw_tbl := tm_7 _ (List.mem_of_getElem? (i := 203) (by decide +kernel))
theorem tw_7_204 : (Jvm.Cond.instanceMethod ({ cls := "SheetReaderModel", name := "telling", desc := "(I)I" } : Jvm.MethodName)) ∈ lw_tbl := tm_7 _ (List.mem_of_getElem? (i := 204) (by decide +kernel))
theorem tw_7_205 : (Jvm.Cond.selects "SheetReaderModel" ({ cls := "SheetReaderModel", name := "telling", desc := "(I)I" } : Jvm.MethodName) ({ cls := "SheetReaderModel", name := "telling", desc := "(I)I" } : Jvm.MethodName)) ∈ lw_tbl := tm_7 _ (List.mem_of_getElem? (i := 205) (by decide +kernel))
theorem tw_7_206 : (Jvm.Cond.code ({ cls := "SheetReaderModel", name := "telling", desc := "(I)I" } : Jvm.MethodName) prog_10_method_97_code (4 : Nat) (Option.some Jvm.ClassFile.FieldType.int)) ∈ lw_tbl := tm_7 _ (List.mem_of_getElem? (i := 206) (by decide +kernel))
theorem tw_7_207 : (Jvm.Cond.methodLink "SheetReaderModel" (424 : Nat) ({ cls := "SheetReaderModel", name := "laysSorted", desc := "()V" } : Jvm.MethodName)) ∈ lw_tbl := tm_7 _ (List.mem_of_getElem? (i := 207) (by decide +kernel))
theorem tw_7_209 : (Jvm.Cond.instanceMethod ({ cls := "SheetReaderModel", name := "laysSorted", desc := "()V" } : Jvm.MethodName)) ∈ lw_tbl := tm_7 _ (List.mem_of_getElem? (i := 209) (by decide +kernel))
theorem tw_7_210 : (Jvm.Cond.code ({ cls := "SheetReaderModel", name := "laysSorted", desc := "()V" } : Jvm.MethodName) prog_10_method_96_code (3 : Nat) (Option.none : Option Jvm.ClassFile.FieldType)) ∈ lw_tbl := tm_7 _ (List.mem_of_getElem? (i := 210) (by decide +kernel))
theorem tw_7_211 : (Jvm.Cond.methodLink "SheetReaderLaw" (185 : Nat) ({ cls := "SheetReaderModel", name := "points", desc := "(I)I" } : Jvm.MethodName)) ∈ lw_tbl := tm_7 _ (List.mem_of_getElem? (i := 211) (by decide +kernel))
theorem tw_7_212 : (Jvm.Cond.instanceMethod ({ cls := "SheetReaderModel", name := "points", desc := "(I)I" } : Jvm.MethodName)) ∈ lw_tbl := tm_7 _ (List.mem_of_getElem? (i := 212) (by decide +kernel))
theorem tw_7_213 : (Jvm.Cond.selects "SheetReaderModel" ({ cls := "SheetReaderModel", name := "points", desc := "(I)I" } : Jvm.MethodName) ({ cls := "SheetReaderModel", name := "points", desc := "(I)I" } : Jvm.MethodName)) ∈ lw_tbl := tm_7 _ (List.mem_of_getElem? (i := 213) (by decide +kernel))
theorem tw_7_214 : (Jvm.Cond.code ({ cls := "SheetReaderModel", name := "points", desc := "(I)I" } : Jvm.MethodName) prog_10_method_98_code (4 : Nat) (Option.some Jvm.ClassFile.FieldType.int)) ∈ lw_tbl := tm_7 _ (List.mem_of_getElem? (i := 214) (by decide +kernel))
theorem tw_7_215 : (Jvm.Cond.methodLink "SheetReaderLaw" (189 : Nat) ({ cls := "SheetReaderModel", name := "take", desc := "(I)I" } : Jvm.MethodName)) ∈ lw_tbl := tm_7 _ (List.mem_of_getElem? (i := 215) (by decide +kernel))
theorem tw_7_216 : (Jvm.Cond.instanceMethod ({ cls := "SheetReaderModel", name := "take", desc := "(I)I" } : Jvm.MethodName)) ∈ lw_tbl := tm_7 _ (List.mem_of_getElem? (i := 216) (by decide +kernel))
theorem tw_7_217 : (Jvm.Cond.selects "SheetReaderModel" ({ cls := "SheetReaderModel", name := "take", desc := "(I)I" } : Jvm.MethodName) ({ cls := "SheetReaderModel", name := "take", desc := "(I)I" } : Jvm.MethodName)) ∈ lw_tbl := tm_7 _ (List.mem_of_getElem? (i := 217) (by decide +kernel))
theorem tw_7_218 : (Jvm.Cond.code ({ cls := "SheetReaderModel", name := "take", desc := "(I)I" } : Jvm.MethodName) prog_10_method_99_code (4 : Nat) (Option.some Jvm.ClassFile.FieldType.int)) ∈ lw_tbl := tm_7 _ (List.mem_of_getElem? (i := 218) (by decide +kernel))
theorem tw_7_219 : (Jvm.Cond.methodLink "SheetReaderLaw" (193 : Nat) ({ cls := "SheetReaderModel", name := "level", desc := "()I" } : Jvm.MethodName)) ∈ lw_tbl := tm_7 _ (List.mem_of_getElem? (i := 219) (by decide +kernel))
theorem tw_7_220 : (Jvm.Cond.instanceMethod ({ cls := "SheetReaderModel", name := "level", desc := "()I" } : Jvm.MethodName)) ∈ lw_tbl := tm_7 _ (List.mem_of_getElem? (i := 220) (by decide +kernel))
theorem tw_7_221 : (Jvm.Cond.selects "SheetReaderModel" ({ cls := "SheetReaderModel", name := "level", desc := "()I" } : Jvm.MethodName) ({ cls := "SheetReaderModel", name := "level", desc := "()I" } : Jvm.MethodName)) ∈ lw_tbl := tm_7 _ (List.mem_of_getElem? (i := 221) (by decide +kernel))
theorem tw_7_222 : (Jvm.Cond.code ({ cls := "SheetReaderModel", name := "level", desc := "()I" } : Jvm.MethodName) prog_10_method_100_code (25 : Nat) (Option.some Jvm.ClassFile.FieldType.int)) ∈ lw_tbl := tm_7 _ (List.mem_of_getElem? (i := 222) (by decide +kernel))
theorem tw_7_223 : (Jvm.Cond.fieldLink "java/lang/String" (9 : Nat) "java/lang/String" "value" "[B") ∈ lw_tbl := tm_7 _ (List.mem_of_getElem? (i := 223) (by decide +kernel))
theorem tw_7_224 : (Jvm.Cond.fieldLink "java/lang/String" (15 : Nat) "java/lang/String" "coder" "B") ∈ lw_tbl := tm_7 _ (List.mem_of_getElem? (i := 224) (by decide +kernel))
theorem tp_0 : Cond.selects "SheetReader" ⟨"SheetReader", "putOnTape", "(I)V"⟩ ⟨"SheetReader", "putOnTape", "(I)V"⟩ ∈ lw_tbl := List.mem_append_left _ (List.mem_of_getElem? (i := 0) (by decide +kernel))
theorem tp_1 : Cond.selects "SheetReader$FormText" ⟨"SheetReader$FormText", "advance", "()V"⟩ ⟨"SheetReader$FormText", "advance", "()V"⟩ ∈ lw_tbl := List.mem_append_left _ (List.mem_of_getElem? (i := 1) (by decide +kernel))
theorem tp_2 : Cond.selects "SheetReader$FormText" ⟨"SheetReader$FormText", "numberRead", "()I"⟩ ⟨"SheetReader$FormText", "numberRead", "()I"⟩ ∈ lw_tbl := List.mem_append_left _ (List.mem_of_getElem? (i := 2) (by decide +kernel))
theorem tp_3 : Cond.selects "SheetReader$FormText" ⟨"SheetReader$FormText", "readHead", "(LSheetReader$Form;)Z"⟩ ⟨"SheetReader$FormText", "readHead", "(LSheetReader$Form;)Z"⟩ ∈ lw_tbl := List.mem_append_left _ (List.mem_of_getElem? (i := 3) (by decide +kernel))
theorem tp_4 : Cond.selects "SheetReader$FormText" ⟨"SheetReader$FormText", "takeWord", "(Ljava/lang/String;)Z"⟩ ⟨"SheetReader$FormText", "takeWord", "(Ljava/lang/String;)Z"⟩ ∈ lw_tbl := List.mem_append_left _ (List.mem_of_getElem? (i := 4) (by decide +kernel))
theorem tp_5 : Cond.selects "SheetReader$FormText" ⟨"SheetReader$FormText", "isWord", "(Ljava/lang/String;)Z"⟩ ⟨"SheetReader$FormText", "isWord", "(Ljava/lang/String;)Z"⟩ ∈ lw_tbl := List.mem_append_left _ (List.mem_of_getElem? (i := 5) (by decide +kernel))
theorem tp_6 : Cond.selects "SheetReader$FormText" ⟨"SheetReader$FormText", "refuse", "(I)Z"⟩ ⟨"SheetReader$FormText", "refuse", "(I)Z"⟩ ∈ lw_tbl := List.mem_append_left _ (List.mem_of_getElem? (i := 6) (by decide +kernel))
theorem tp_7 : Cond.selects "SheetReader$FormText" ⟨"SheetReader$FormText", "takeNumber", "(II)Z"⟩ ⟨"SheetReader$FormText", "takeNumber", "(II)Z"⟩ ∈ lw_tbl := List.mem_append_left _ (List.mem_of_getElem? (i := 7) (by decide +kernel))
theorem tp_8 : Cond.selects "SheetReader$FormText" ⟨"SheetReader$FormText", "isNumber", "(II)Z"⟩ ⟨"SheetReader$FormText", "isNumber", "(II)Z"⟩ ∈ lw_tbl := List.mem_append_left _ (List.mem_of_getElem? (i := 8) (by decide +kernel))
theorem tp_9 : Cond.selects "SheetReader$FormText" ⟨"SheetReader$FormText", "takeSign", "(I)Z"⟩ ⟨"SheetReader$FormText", "takeSign", "(I)Z"⟩ ∈ lw_tbl := List.mem_append_left _ (List.mem_of_getElem? (i := 9) (by decide +kernel))
theorem tp_10 : Cond.selects "SheetReader$FormText" ⟨"SheetReader$FormText", "readQuestions", "(LSheetReader$Form;)Z"⟩ ⟨"SheetReader$FormText", "readQuestions", "(LSheetReader$Form;)Z"⟩ ∈ lw_tbl := List.mem_append_left _ (List.mem_of_getElem? (i := 10) (by decide +kernel))
theorem tp_11 : Cond.selects "SheetReader$FormText" ⟨"SheetReader$FormText", "readPlaces", "(LSheetReader$Form;)Z"⟩ ⟨"SheetReader$FormText", "readPlaces", "(LSheetReader$Form;)Z"⟩ ∈ lw_tbl := List.mem_append_left _ (List.mem_of_getElem? (i := 11) (by decide +kernel))
theorem tp_12 : Cond.selects "SheetReader$FormText" ⟨"SheetReader$FormText", "readPlace", "(LSheetReader$Form;I)Z"⟩ ⟨"SheetReader$FormText", "readPlace", "(LSheetReader$Form;I)Z"⟩ ∈ lw_tbl := List.mem_append_left _ (List.mem_of_getElem? (i := 12) (by decide +kernel))
theorem tp_13 : Cond.selects "SheetReader$FormText" ⟨"SheetReader$FormText", "readKey", "(LSheetReader$Form;I)Z"⟩ ⟨"SheetReader$FormText", "readKey", "(LSheetReader$Form;I)Z"⟩ ∈ lw_tbl := List.mem_append_left _ (List.mem_of_getElem? (i := 13) (by decide +kernel))
theorem tp_14 : Cond.selects "SheetReader$FormText" ⟨"SheetReader$FormText", "isLetter", "()Z"⟩ ⟨"SheetReader$FormText", "isLetter", "()Z"⟩ ∈ lw_tbl := List.mem_append_left _ (List.mem_of_getElem? (i := 14) (by decide +kernel))
theorem tp_15 : Cond.selects "SheetReader$FormText" ⟨"SheetReader$FormText", "readWorth", "(LSheetReader$Form;I)Z"⟩ ⟨"SheetReader$FormText", "readWorth", "(LSheetReader$Form;I)Z"⟩ ∈ lw_tbl := List.mem_append_left _ (List.mem_of_getElem? (i := 15) (by decide +kernel))
theorem tp_16 : Cond.selects "SheetReader" ⟨"SheetReader", "drawBelow", "(I)I"⟩ ⟨"SheetReader", "drawBelow", "(I)I"⟩ ∈ lw_tbl := List.mem_append_left _ (List.mem_of_getElem? (i := 16) (by decide +kernel))
theorem tp_17 : Cond.selects "SheetReader" ⟨"SheetReader", "swapScans", "()V"⟩ ⟨"SheetReader", "swapScans", "()V"⟩ ∈ lw_tbl := List.mem_append_left _ (List.mem_of_getElem? (i := 17) (by decide +kernel))
theorem tp_18 : Cond.selects "SheetReader" ⟨"SheetReader", "takeSpare", "()I"⟩ ⟨"SheetReader", "takeSpare", "()I"⟩ ∈ lw_tbl := List.mem_append_left _ (List.mem_of_getElem? (i := 18) (by decide +kernel))
theorem tp_19 : Cond.selects "SheetReader$Blobs" ⟨"SheetReader$Blobs", "gather", "(LSheetReader$Scan;II)I"⟩ ⟨"SheetReader$Blobs", "gather", "(LSheetReader$Scan;II)I"⟩ ∈ lw_tbl := List.mem_append_left _ (List.mem_of_getElem? (i := 19) (by decide +kernel))
theorem tp_20 : Cond.selects "SheetReader$Blobs" ⟨"SheetReader$Blobs", "join", "(LSheetReader$Scan;III)I"⟩ ⟨"SheetReader$Blobs", "join", "(LSheetReader$Scan;III)I"⟩ ∈ lw_tbl := List.mem_append_left _ (List.mem_of_getElem? (i := 20) (by decide +kernel))
theorem tp_21 : Cond.selects "SheetReader$Blobs" ⟨"SheetReader$Blobs", "describe", "(II)V"⟩ ⟨"SheetReader$Blobs", "describe", "(II)V"⟩ ∈ lw_tbl := List.mem_append_left _ (List.mem_of_getElem? (i := 21) (by decide +kernel))
theorem tp_22 : Cond.selects "SheetReader$Judge" ⟨"SheetReader$Judge", "marksAreFour", "()Z"⟩ ⟨"SheetReader$Judge", "marksAreFour", "()Z"⟩ ∈ lw_tbl := List.mem_append_left _ (List.mem_of_getElem? (i := 22) (by decide +kernel))
theorem tp_23 : Cond.selects "SheetReader$Places" ⟨"SheetReader$Places", "sideOf", "(III)J"⟩ ⟨"SheetReader$Places", "sideOf", "(III)J"⟩ ∈ lw_tbl := List.mem_append_left _ (List.mem_of_getElem? (i := 23) (by decide +kernel))
theorem tp_24 : Cond.selects "SheetReader$Places" ⟨"SheetReader$Places", "weighed", "([JII)J"⟩ ⟨"SheetReader$Places", "weighed", "([JII)J"⟩ ∈ lw_tbl := List.mem_append_left _ (List.mem_of_getElem? (i := 24) (by decide +kernel))
theorem tp_25 : Cond.selects "SheetReader$Places" ⟨"SheetReader$Places", "rounded", "(J)I"⟩ ⟨"SheetReader$Places", "rounded", "(J)I"⟩ ∈ lw_tbl := List.mem_append_left _ (List.mem_of_getElem? (i := 25) (by decide +kernel))
theorem tp_26 : Cond.selects "SheetReader$Places" ⟨"SheetReader$Places", "hundredths", "(J)I"⟩ ⟨"SheetReader$Places", "hundredths", "(J)I"⟩ ∈ lw_tbl := List.mem_append_left _ (List.mem_of_getElem? (i := 26) (by decide +kernel))
theorem tp_27 : Cond.selects "SheetReader$Judge" ⟨"SheetReader$Judge", "darkOf", "(LSheetReader$Scan;LSheetReader$Form;I)I"⟩ ⟨"SheetReader$Judge", "darkOf", "(LSheetReader$Scan;LSheetReader$Form;I)I"⟩ ∈ lw_tbl := List.mem_append_left _ (List.mem_of_getElem? (i := 27) (by decide +kernel))
theorem tp_28 : Cond.selects "SheetReader$Judge" ⟨"SheetReader$Judge", "judgeQuestion", "(LSheetReader$Form;I)V"⟩ ⟨"SheetReader$Judge", "judgeQuestion", "(LSheetReader$Form;I)V"⟩ ∈ lw_tbl := List.mem_append_left _ (List.mem_of_getElem? (i := 28) (by decide +kernel))
theorem tp_29 : Cond.selects "SheetReader$Judge" ⟨"SheetReader$Judge", "sortByDark", "(II)V"⟩ ⟨"SheetReader$Judge", "sortByDark", "(II)V"⟩ ∈ lw_tbl := List.mem_append_left _ (List.mem_of_getElem? (i := 29) (by decide +kernel))
theorem tp_30 : Cond.selects "SheetReader$Judge" ⟨"SheetReader$Judge", "gainOf", "(LSheetReader$Form;I)I"⟩ ⟨"SheetReader$Judge", "gainOf", "(LSheetReader$Form;I)I"⟩ ∈ lw_tbl := List.mem_append_left _ (List.mem_of_getElem? (i := 30) (by decide +kernel))
theorem tp_31 : Cond.selects "SheetReader$Judge" ⟨"SheetReader$Judge", "judgedElse", "(LSheetReader$Form;I)I"⟩ ⟨"SheetReader$Judge", "judgedElse", "(LSheetReader$Form;I)I"⟩ ∈ lw_tbl := List.mem_append_left _ (List.mem_of_getElem? (i := 31) (by decide +kernel))
theorem tp_32 : Cond.selects "SheetReader" ⟨"SheetReader", "inkBox", "(II)V"⟩ ⟨"SheetReader", "inkBox", "(II)V"⟩ ∈ lw_tbl := List.mem_append_left _ (List.mem_of_getElem? (i := 32) (by decide +kernel))
theorem tp_33 : Cond.selects "SheetReaderModel" ⟨"SheetReaderModel", "typed4", "(I)V"⟩ ⟨"SheetReaderModel", "typed4", "(I)V"⟩ ∈ lw_tbl := List.mem_append_left _ (List.mem_of_getElem? (i := 33) (by decide +kernel))
theorem tp_34 : Cond.selects "SheetReaderModel" ⟨"SheetReaderModel", "next", "()V"⟩ ⟨"SheetReaderModel", "next", "()V"⟩ ∈ lw_tbl := List.mem_append_left _ (List.mem_of_getElem? (i := 34) (by decide +kernel))
theorem tp_35 : Cond.selects "SheetReaderModel" ⟨"SheetReaderModel", "here", "()I"⟩ ⟨"SheetReaderModel", "here", "()I"⟩ ∈ lw_tbl := List.mem_append_left _ (List.mem_of_getElem? (i := 35) (by decide +kernel))
theorem tp_36 : Cond.selects "SheetReaderModel" ⟨"SheetReaderModel", "reads", "()Z"⟩ ⟨"SheetReaderModel", "reads", "()Z"⟩ ∈ lw_tbl := List.mem_append_left _ (List.mem_of_getElem? (i := 36) (by decide +kernel))
theorem tp_37 : Cond.selects "SheetReaderModel" ⟨"SheetReaderModel", "readsTwo", "(IJII)Z"⟩ ⟨"SheetReaderModel", "readsTwo", "(IJII)Z"⟩ ∈ lw_tbl := List.mem_append_left _ (List.mem_of_getElem? (i := 37) (by decide +kernel))
theorem tp_38 : Cond.selects "SheetReaderModel" ⟨"SheetReaderModel", "takesWord", "(J)Z"⟩ ⟨"SheetReaderModel", "takesWord", "(J)Z"⟩ ∈ lw_tbl := List.mem_append_left _ (List.mem_of_getElem? (i := 38) (by decide +kernel))
theorem tp_39 : Cond.selects "SheetReaderModel" ⟨"SheetReaderModel", "isWord", "(J)Z"⟩ ⟨"SheetReaderModel", "isWord", "(J)Z"⟩ ∈ lw_tbl := List.mem_append_left _ (List.mem_of_getElem? (i := 39) (by decide +kernel))
theorem tp_40 : Cond.selects "SheetReaderModel" ⟨"SheetReaderModel", "wrong", "(I)Z"⟩ ⟨"SheetReaderModel", "wrong", "(I)Z"⟩ ∈ lw_tbl := List.mem_append_left _ (List.mem_of_getElem? (i := 40) (by decide +kernel))
theorem tp_41 : Cond.selects "SheetReaderModel" ⟨"SheetReaderModel", "isNumber", "(II)Z"⟩ ⟨"SheetReaderModel", "isNumber", "(II)Z"⟩ ∈ lw_tbl := List.mem_append_left _ (List.mem_of_getElem? (i := 41) (by decide +kernel))
theorem tp_42 : Cond.selects "SheetReaderModel" ⟨"SheetReaderModel", "takesSign", "(I)Z"⟩ ⟨"SheetReaderModel", "takesSign", "(I)Z"⟩ ∈ lw_tbl := List.mem_append_left _ (List.mem_of_getElem? (i := 42) (by decide +kernel))
theorem tp_43 : Cond.selects "SheetReaderModel" ⟨"SheetReaderModel", "readsQuestion", "()Z"⟩ ⟨"SheetReaderModel", "readsQuestion", "()Z"⟩ ∈ lw_tbl := List.mem_append_left _ (List.mem_of_getElem? (i := 43) (by decide +kernel))
theorem tp_44 : Cond.selects "SheetReaderModel" ⟨"SheetReaderModel", "readsPlace", "(I)Z"⟩ ⟨"SheetReaderModel", "readsPlace", "(I)Z"⟩ ∈ lw_tbl := List.mem_append_left _ (List.mem_of_getElem? (i := 44) (by decide +kernel))
theorem tp_45 : Cond.selects "SheetReaderModel" ⟨"SheetReaderModel", "isOver", "(III)Z"⟩ ⟨"SheetReaderModel", "isOver", "(III)Z"⟩ ∈ lw_tbl := List.mem_append_left _ (List.mem_of_getElem? (i := 45) (by decide +kernel))
theorem tp_46 : Cond.selects "SheetReaderModel" ⟨"SheetReaderModel", "readsKey", "(I)Z"⟩ ⟨"SheetReaderModel", "readsKey", "(I)Z"⟩ ∈ lw_tbl := List.mem_append_left _ (List.mem_of_getElem? (i := 46) (by decide +kernel))
theorem tp_47 : Cond.selects "SheetReaderModel" ⟨"SheetReaderModel", "isLetter", "()Z"⟩ ⟨"SheetReaderModel", "isLetter", "()Z"⟩ ∈ lw_tbl := List.mem_append_left _ (List.mem_of_getElem? (i := 47) (by decide +kernel))
theorem tp_48 : Cond.selects "SheetReaderModel" ⟨"SheetReaderModel", "isQuestion", "(I)Z"⟩ ⟨"SheetReaderModel", "isQuestion", "(I)Z"⟩ ∈ lw_tbl := List.mem_append_left _ (List.mem_of_getElem? (i := 48) (by decide +kernel))
theorem tp_49 : Cond.selects "SheetReaderModel" ⟨"SheetReaderModel", "questions", "()I"⟩ ⟨"SheetReaderModel", "questions", "()I"⟩ ∈ lw_tbl := List.mem_append_left _ (List.mem_of_getElem? (i := 49) (by decide +kernel))
theorem tp_50 : Cond.selects "SheetReaderModel" ⟨"SheetReaderModel", "headOf", "(I)I"⟩ ⟨"SheetReaderModel", "headOf", "(I)I"⟩ ∈ lw_tbl := List.mem_append_left _ (List.mem_of_getElem? (i := 50) (by decide +kernel))
theorem tp_51 : Cond.selects "SheetReaderModel" ⟨"SheetReaderModel", "clears", "()V"⟩ ⟨"SheetReaderModel", "clears", "()V"⟩ ∈ lw_tbl := List.mem_append_left _ (List.mem_of_getElem? (i := 51) (by decide +kernel))
theorem tp_52 : Cond.selects "SheetReaderModel" ⟨"SheetReaderModel", "isDot", "(II)Z"⟩ ⟨"SheetReaderModel", "isDot", "(II)Z"⟩ ∈ lw_tbl := List.mem_append_left _ (List.mem_of_getElem? (i := 52) (by decide +kernel))
theorem tp_53 : Cond.selects "SheetReaderModel" ⟨"SheetReaderModel", "draw", "(I)I"⟩ ⟨"SheetReaderModel", "draw", "(I)I"⟩ ∈ lw_tbl := List.mem_append_left _ (List.mem_of_getElem? (i := 53) (by decide +kernel))
theorem tp_54 : Cond.selects "SheetReaderModel" ⟨"SheetReaderModel", "turns", "()V"⟩ ⟨"SheetReaderModel", "turns", "()V"⟩ ∈ lw_tbl := List.mem_append_left _ (List.mem_of_getElem? (i := 54) (by decide +kernel))
theorem tp_55 : Cond.selects "SheetReaderModel" ⟨"SheetReaderModel", "puts", "()V"⟩ ⟨"SheetReaderModel", "puts", "()V"⟩ ∈ lw_tbl := List.mem_append_left _ (List.mem_of_getElem? (i := 55) (by decide +kernel))
theorem tp_56 : Cond.selects "SheetReaderModel" ⟨"SheetReaderModel", "others", "()I"⟩ ⟨"SheetReaderModel", "others", "()I"⟩ ∈ lw_tbl := List.mem_append_left _ (List.mem_of_getElem? (i := 56) (by decide +kernel))
theorem tp_57 : Cond.selects "SheetReaderModel" ⟨"SheetReaderModel", "all", "()I"⟩ ⟨"SheetReaderModel", "all", "()I"⟩ ∈ lw_tbl := List.mem_append_left _ (List.mem_of_getElem? (i := 57) (by decide +kernel))
theorem tp_58 : Cond.selects "SheetReaderModel" ⟨"SheetReaderModel", "laysBlobs", "()V"⟩ ⟨"SheetReaderModel", "laysBlobs", "()V"⟩ ∈ lw_tbl := List.mem_append_left _ (List.mem_of_getElem? (i := 58) (by decide +kernel))
theorem tp_59 : Cond.selects "SheetReaderModel" ⟨"SheetReaderModel", "laysBlob", "(I)V"⟩ ⟨"SheetReaderModel", "laysBlob", "(I)V"⟩ ∈ lw_tbl := List.mem_append_left _ (List.mem_of_getElem? (i := 59) (by decide +kernel))
theorem tp_60 : Cond.selects "SheetReaderModel" ⟨"SheetReaderModel", "meets", "(II)V"⟩ ⟨"SheetReaderModel", "meets", "(II)V"⟩ ∈ lw_tbl := List.mem_append_left _ (List.mem_of_getElem? (i := 60) (by decide +kernel))
theorem tp_61 : Cond.selects "SheetReaderModel" ⟨"SheetReaderModel", "keeps", "(I)V"⟩ ⟨"SheetReaderModel", "keeps", "(I)V"⟩ ∈ lw_tbl := List.mem_append_left _ (List.mem_of_getElem? (i := 61) (by decide +kernel))
theorem tp_62 : Cond.selects "SheetReaderModel" ⟨"SheetReaderModel", "allBoxes", "()I"⟩ ⟨"SheetReaderModel", "allBoxes", "()I"⟩ ∈ lw_tbl := List.mem_append_left _ (List.mem_of_getElem? (i := 62) (by decide +kernel))
theorem tp_63 : Cond.selects "SheetReaderModel" ⟨"SheetReaderModel", "boxesOf", "(I)I"⟩ ⟨"SheetReaderModel", "boxesOf", "(I)I"⟩ ∈ lw_tbl := List.mem_append_left _ (List.mem_of_getElem? (i := 63) (by decide +kernel))
theorem tp_64 : Cond.selects "SheetReaderModel" ⟨"SheetReaderModel", "inked", "()I"⟩ ⟨"SheetReaderModel", "inked", "()I"⟩ ∈ lw_tbl := List.mem_append_left _ (List.mem_of_getElem? (i := 64) (by decide +kernel))
theorem tp_65 : Cond.selects "SheetReaderModel" ⟨"SheetReaderModel", "darkness", "()I"⟩ ⟨"SheetReaderModel", "darkness", "()I"⟩ ∈ lw_tbl := List.mem_append_left _ (List.mem_of_getElem? (i := 65) (by decide +kernel))
theorem tp_66 : Cond.selects "SheetReaderModel" ⟨"SheetReaderModel", "laysMarks", "()V"⟩ ⟨"SheetReaderModel", "laysMarks", "()V"⟩ ∈ lw_tbl := List.mem_append_left _ (List.mem_of_getElem? (i := 66) (by decide +kernel))
theorem tp_67 : Cond.selects "SheetReaderModel" ⟨"SheetReaderModel", "laysMark", "(I)V"⟩ ⟨"SheetReaderModel", "laysMark", "(I)V"⟩ ∈ lw_tbl := List.mem_append_left _ (List.mem_of_getElem? (i := 67) (by decide +kernel))
theorem tp_68 : Cond.selects "SheetReaderModel" ⟨"SheetReaderModel", "turnAt", "(III)I"⟩ ⟨"SheetReaderModel", "turnAt", "(III)I"⟩ ∈ lw_tbl := List.mem_append_left _ (List.mem_of_getElem? (i := 68) (by decide +kernel))
theorem tp_69 : Cond.selects "SheetReaderModel" ⟨"SheetReaderModel", "side", "(IIII)J"⟩ ⟨"SheetReaderModel", "side", "(IIII)J"⟩ ∈ lw_tbl := List.mem_append_left _ (List.mem_of_getElem? (i := 69) (by decide +kernel))
theorem tp_70 : Cond.selects "SheetReaderModel" ⟨"SheetReaderModel", "mapped", "(IIZ)I"⟩ ⟨"SheetReaderModel", "mapped", "(IIZ)I"⟩ ∈ lw_tbl := List.mem_append_left _ (List.mem_of_getElem? (i := 70) (by decide +kernel))
theorem tp_71 : Cond.selects "SheetReaderModel" ⟨"SheetReaderModel", "maps", "(IIZ)V"⟩ ⟨"SheetReaderModel", "maps", "(IIZ)V"⟩ ∈ lw_tbl := List.mem_append_left _ (List.mem_of_getElem? (i := 71) (by decide +kernel))
theorem tp_72 : Cond.selects "SheetReaderModel" ⟨"SheetReaderModel", "isBox", "(II)Z"⟩ ⟨"SheetReaderModel", "isBox", "(II)Z"⟩ ∈ lw_tbl := List.mem_append_left _ (List.mem_of_getElem? (i := 72) (by decide +kernel))
theorem tp_73 : Cond.selects "SheetReaderModel" ⟨"SheetReaderModel", "finds", "()Z"⟩ ⟨"SheetReaderModel", "finds", "()Z"⟩ ∈ lw_tbl := List.mem_append_left _ (List.mem_of_getElem? (i := 73) (by decide +kernel))
theorem tp_74 : Cond.selects "SheetReaderModel" ⟨"SheetReaderModel", "darkOf", "(II)I"⟩ ⟨"SheetReaderModel", "darkOf", "(II)I"⟩ ∈ lw_tbl := List.mem_append_left _ (List.mem_of_getElem? (i := 74) (by decide +kernel))
theorem tp_75 : Cond.selects "SheetReaderModel" ⟨"SheetReaderModel", "judges", "(II)V"⟩ ⟨"SheetReaderModel", "judges", "(II)V"⟩ ∈ lw_tbl := List.mem_append_left _ (List.mem_of_getElem? (i := 75) (by decide +kernel))
theorem tp_76 : Cond.selects "SheetReaderModel" ⟨"SheetReaderModel", "laysOrder", "(I)V"⟩ ⟨"SheetReaderModel", "laysOrder", "(I)V"⟩ ∈ lw_tbl := List.mem_append_left _ (List.mem_of_getElem? (i := 76) (by decide +kernel))
theorem tp_77 : Cond.selects "SheetReaderModel" ⟨"SheetReaderModel", "darkAt", "(II)I"⟩ ⟨"SheetReaderModel", "darkAt", "(II)I"⟩ ∈ lw_tbl := List.mem_append_left _ (List.mem_of_getElem? (i := 77) (by decide +kernel))
theorem tp_78 : Cond.selects "SheetReaderModel" ⟨"SheetReaderModel", "pointsOf", "(I)I"⟩ ⟨"SheetReaderModel", "pointsOf", "(I)I"⟩ ∈ lw_tbl := List.mem_append_left _ (List.mem_of_getElem? (i := 78) (by decide +kernel))
theorem tp_79 : Cond.selects "SheetReaderModel" ⟨"SheetReaderModel", "keyOf", "(I)I"⟩ ⟨"SheetReaderModel", "keyOf", "(I)I"⟩ ∈ lw_tbl := List.mem_append_left _ (List.mem_of_getElem? (i := 79) (by decide +kernel))
theorem tp_80 : Cond.selects "SheetReaderModel" ⟨"SheetReaderModel", "worthOf", "(I)I"⟩ ⟨"SheetReaderModel", "worthOf", "(I)I"⟩ ∈ lw_tbl := List.mem_append_left _ (List.mem_of_getElem? (i := 80) (by decide +kernel))
theorem tp_81 : Cond.selects "SheetReaderModel" ⟨"SheetReaderModel", "sum", "(I)I"⟩ ⟨"SheetReaderModel", "sum", "(I)I"⟩ ∈ lw_tbl := List.mem_append_left _ (List.mem_of_getElem? (i := 81) (by decide +kernel))
theorem tp_82 : Cond.selects "SheetReaderModel" ⟨"SheetReaderModel", "inks", "(III)V"⟩ ⟨"SheetReaderModel", "inks", "(III)V"⟩ ∈ lw_tbl := List.mem_append_left _ (List.mem_of_getElem? (i := 82) (by decide +kernel))
theorem tp_83 : Cond.selects "SheetReaderModel" ⟨"SheetReaderModel", "isRight", "(II)Z"⟩ ⟨"SheetReaderModel", "isRight", "(II)Z"⟩ ∈ lw_tbl := List.mem_append_left _ (List.mem_of_getElem? (i := 83) (by decide +kernel))
theorem tp_84 : Cond.selects "SheetReaderModel" ⟨"SheetReaderModel", "alikeIn", "(II)I"⟩ ⟨"SheetReaderModel", "alikeIn", "(II)I"⟩ ∈ lw_tbl := List.mem_append_left _ (List.mem_of_getElem? (i := 84) (by decide +kernel))
theorem tp_85 : Cond.selects "SheetReaderModel" ⟨"SheetReaderModel", "laysSorted", "()V"⟩ ⟨"SheetReaderModel", "laysSorted", "()V"⟩ ∈ lw_tbl := List.mem_append_left _ (List.mem_of_getElem? (i := 85) (by decide +kernel))
