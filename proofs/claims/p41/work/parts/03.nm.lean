/-! names, fields: printed -/
/-! ===== BEGIN printed: names, fields, word lists, decode rows ===== -/
def RX0 : String := "DotRuns$Code"
def TX0 : u_T := fun k => match k with
  | 0 => ("DotRuns$Code", "modes", "I", false)
  | 1 => ("DotRuns$Code", "bits", "I", false)
  | 2 => ("DotRuns$Code", "kinds", "[I", true)
  | 3 => ("DotRuns$Code", "firsts", "[I", true)
  | 4 => ("DotRuns$Code", "seconds", "[I", true)
  | 5 => ("DotRuns$Code", "places", "[I", true)
  | _ => ("DotRuns$Code", "reading", "LDotRuns$Reading;", true)
def tyX0 : Nat → FieldType := fun k => match k with
  | 0 => .int
  | 1 => .int
  | 2 => .array .int
  | 3 => .array .int
  | 4 => .array .int
  | 5 => .array .int
  | _ => .object "DotRuns$Reading"
abbrev wsX00 : List Cond := u_ws RX0 TX0 7
theorem nmX0 : ∀ a, a < 7 → ∀ b, b < 7 → a ≠ b → (TX0 a).2.1 ≠ (TX0 b).2.1 := by decide +kernel
theorem tyX0_ok : ∀ k, k < 7 → parseFieldDescriptor (TX0 k).2.2.1 = some (tyX0 k) := by decide +kernel
abbrev cX0_init : ByteArray := prog_2_method_1_code
def yX0_init : MethodName := ⟨RX0, "<init>", "()V"⟩
abbrev cX0_makeFor : ByteArray := prog_2_method_2_code
def yX0_makeFor : MethodName := ⟨RX0, "makeFor", "(JJI)V"⟩
abbrev cX0_addMode : ByteArray := prog_2_method_3_code
def yX0_addMode : MethodName := ⟨RX0, "addMode", "(JI)V"⟩
abbrev cX0_putMode : ByteArray := prog_2_method_4_code
def yX0_putMode : MethodName := ⟨RX0, "putMode", "(IIII)V"⟩
abbrev cX0_verticalBits : ByteArray := prog_2_method_5_code
def yX0_verticalBits : MethodName := ⟨RX0, "verticalBits", "(I)I"⟩
abbrev cX0_modesOfKind : ByteArray := prog_2_method_6_code
def yX0_modesOfKind : MethodName := ⟨RX0, "modesOfKind", "(I)I"⟩
abbrev cX0_modeNumber : ByteArray := prog_2_method_7_code
def yX0_modeNumber : MethodName := ⟨RX0, "modeNumber", "(II)I"⟩
abbrev cX0_readUnder : ByteArray := prog_2_method_8_code
def yX0_readUnder : MethodName := ⟨RX0, "readUnder", "(JI)J"⟩
def RX1 : String := "DotRuns$History"
def TX1 : u_T := fun k => match k with
  | 0 => ("DotRuns$History", "held", "I", false)
  | 1 => ("DotRuns$History", "next", "I", false)
  | _ => ("DotRuns$History", "pages", "[LDotRuns$Page;", true)
def tyX1 : Nat → FieldType := fun k => match k with
  | 0 => .int
  | 1 => .int
  | _ => .array (.object "DotRuns$Page")
abbrev wsX10 : List Cond := u_ws RX1 TX1 3
theorem nmX1 : ∀ a, a < 3 → ∀ b, b < 3 → a ≠ b → (TX1 a).2.1 ≠ (TX1 b).2.1 := by decide +kernel
theorem tyX1_ok : ∀ k, k < 3 → parseFieldDescriptor (TX1 k).2.2.1 = some (tyX1 k) := by decide +kernel
abbrev cX1_init : ByteArray := prog_3_method_1_code
def yX1_init : MethodName := ⟨RX1, "<init>", "()V"⟩
abbrev cX1_keep : ByteArray := prog_3_method_2_code
def yX1_keep : MethodName := ⟨RX1, "keep", "(LDotRuns$Page;)V"⟩
abbrev cX1_takeBack : ByteArray := prog_3_method_3_code
def yX1_takeBack : MethodName := ⟨RX1, "takeBack", "(LDotRuns$Page;)Z"⟩
abbrev cX1_forget : ByteArray := prog_3_method_4_code
def yX1_forget : MethodName := ⟨RX1, "forget", "()V"⟩
def RX2 : String := "DotRuns$Page"
def TX2 : u_T := fun k => match k with
  | 0 => ("DotRuns$Page", "width", "I", false)
  | 1 => ("DotRuns$Page", "lines", "I", false)
  | 2 => ("DotRuns$Page", "rows", "[J", true)
  | 3 => ("DotRuns$Page", "losses", "[I", true)
  | _ => ("DotRuns$Page", "settings", "[I", true)
def tyX2 : Nat → FieldType := fun k => match k with
  | 0 => .int
  | 1 => .int
  | 2 => .array .long
  | 3 => .array .int
  | _ => .array .int
abbrev wsX20 : List Cond := u_ws RX2 TX2 5
theorem nmX2 : ∀ a, a < 5 → ∀ b, b < 5 → a ≠ b → (TX2 a).2.1 ≠ (TX2 b).2.1 := by decide +kernel
theorem tyX2_ok : ∀ k, k < 5 → parseFieldDescriptor (TX2 k).2.2.1 = some (tyX2 k) := by decide +kernel
abbrev cX2_init : ByteArray := prog_4_method_1_code
def yX2_init : MethodName := ⟨RX2, "<init>", "()V"⟩
abbrev cX2_clear : ByteArray := prog_4_method_2_code
def yX2_clear : MethodName := ⟨RX2, "clear", "()V"⟩
abbrev cX2_copyFrom : ByteArray := prog_4_method_3_code
def yX2_copyFrom : MethodName := ⟨RX2, "copyFrom", "(LDotRuns$Page;)V"⟩
abbrev cX2_hasLine : ByteArray := prog_4_method_4_code
def yX2_hasLine : MethodName := ⟨RX2, "hasLine", "(I)Z"⟩
abbrev cX2_rowAt : ByteArray := prog_4_method_5_code
def yX2_rowAt : MethodName := ⟨RX2, "rowAt", "(I)J"⟩
abbrev cX2_putRow : ByteArray := prog_4_method_6_code
def yX2_putRow : MethodName := ⟨RX2, "putRow", "(IJ)V"⟩
abbrev cX2_insertRow : ByteArray := prog_4_method_7_code
def yX2_insertRow : MethodName := ⟨RX2, "insertRow", "(IJ)V"⟩
abbrev cX2_deleteRow : ByteArray := prog_4_method_8_code
def yX2_deleteRow : MethodName := ⟨RX2, "deleteRow", "(I)V"⟩
def RX3 : String := "DotRuns$Parser"
def TX3 : u_T := fun k => match k with
  | 0 => ("DotRuns$Parser", "faultCode", "I", false)
  | 1 => ("DotRuns$Parser", "faultPosition", "I", false)
  | 2 => ("DotRuns$Parser", "text", "LDotRuns$Tokens;", true)
  | 3 => ("DotRuns$Parser", "page", "LDotRuns$Page;", true)
  | _ => ("DotRuns$Parser", "reading", "LDotRuns$Reading;", true)
def tyX3 : Nat → FieldType := fun k => match k with
  | 0 => .int
  | 1 => .int
  | 2 => .object "DotRuns$Tokens"
  | 3 => .object "DotRuns$Page"
  | _ => .object "DotRuns$Reading"
abbrev wsX30 : List Cond := u_ws RX3 TX3 5
theorem nmX3 : ∀ a, a < 5 → ∀ b, b < 5 → a ≠ b → (TX3 a).2.1 ≠ (TX3 b).2.1 := by decide +kernel
theorem tyX3_ok : ∀ k, k < 5 → parseFieldDescriptor (TX3 k).2.2.1 = some (tyX3 k) := by decide +kernel
abbrev cX3_init : ByteArray := prog_5_method_1_code
def yX3_init : MethodName := ⟨RX3, "<init>", "()V"⟩
abbrev cX3_readText : ByteArray := prog_5_method_2_code
def yX3_readText : MethodName := ⟨RX3, "readText", "()Z"⟩
abbrev cX3_failHere : ByteArray := prog_5_method_3_code
def yX3_failHere : MethodName := ⟨RX3, "failHere", "(I)Z"⟩
abbrev cX3_needRead : ByteArray := prog_5_method_4_code
def yX3_needRead : MethodName := ⟨RX3, "needRead", "(ZI)Z"⟩
abbrev cX3_needNumber : ByteArray := prog_5_method_5_code
def yX3_needNumber : MethodName := ⟨RX3, "needNumber", "(II)Z"⟩
abbrev cX3_readSemicolon : ByteArray := prog_5_method_6_code
def yX3_readSemicolon : MethodName := ⟨RX3, "readSemicolon", "()Z"⟩
abbrev cX3_readWide : ByteArray := prog_5_method_7_code
def yX3_readWide : MethodName := ⟨RX3, "readWide", "()Z"⟩
abbrev cX3_readStatement : ByteArray := prog_5_method_8_code
def yX3_readStatement : MethodName := ⟨RX3, "readStatement", "()Z"⟩
abbrev cX3_readSet : ByteArray := prog_5_method_9_code
def yX3_readSet : MethodName := ⟨RX3, "readSet", "()Z"⟩
abbrev cX3_readLoss : ByteArray := prog_5_method_10_code
def yX3_readLoss : MethodName := ⟨RX3, "readLoss", "()Z"⟩
abbrev cX3_readRow : ByteArray := prog_5_method_11_code
def yX3_readRow : MethodName := ⟨RX3, "readRow", "()Z"⟩
abbrev cX3_readAlone : ByteArray := prog_5_method_12_code
def yX3_readAlone : MethodName := ⟨RX3, "readAlone", "()Z"⟩
abbrev cX3_readAbove : ByteArray := prog_5_method_13_code
def yX3_readAbove : MethodName := ⟨RX3, "readAbove", "()Z"⟩
abbrev cX3_endCode : ByteArray := prog_5_method_14_code
def yX3_endCode : MethodName := ⟨RX3, "endCode", "(ZJ)Z"⟩
abbrev cX3_readPass : ByteArray := prog_5_method_15_code
def yX3_readPass : MethodName := ⟨RX3, "readPass", "()Z"⟩
abbrev cX3_readVertical : ByteArray := prog_5_method_16_code
def yX3_readVertical : MethodName := ⟨RX3, "readVertical", "()Z"⟩
abbrev cX3_readHorizontal : ByteArray := prog_5_method_17_code
def yX3_readHorizontal : MethodName := ⟨RX3, "readHorizontal", "()Z"⟩
def RX4 : String := "DotRuns$Reading"
def TX4 : u_T := fun k => match k with
  | 0 => ("DotRuns$Reading", "width", "I", false)
  | 1 => ("DotRuns$Reading", "place", "I", false)
  | 2 => ("DotRuns$Reading", "black", "Z", false)
  | 3 => ("DotRuns$Reading", "row", "J", false)
  | 4 => ("DotRuns$Reading", "turn", "I", false)
  | 5 => ("DotRuns$Reading", "passed", "I", false)
  | 6 => ("DotRuns$Reading", "above", "J", false)
  | _ => ("DotRuns$Reading", "changes", "J", false)
def tyX4 : Nat → FieldType := fun k => match k with
  | 0 => .int
  | 1 => .int
  | 2 => .boolean
  | 3 => .long
  | 4 => .int
  | 5 => .int
  | 6 => .long
  | _ => .long
abbrev wsX40 : List Cond := u_ws RX4 TX4 8
theorem nmX4 : ∀ a, a < 8 → ∀ b, b < 8 → a ≠ b → (TX4 a).2.1 ≠ (TX4 b).2.1 := by decide +kernel
theorem tyX4_ok : ∀ k, k < 8 → parseFieldDescriptor (TX4 k).2.2.1 = some (tyX4 k) := by decide +kernel
abbrev cX4_init : ByteArray := prog_6_method_1_code
def yX4_init : MethodName := ⟨RX4, "<init>", "()V"⟩
abbrev cX4_begin : ByteArray := prog_6_method_2_code
def yX4_begin : MethodName := ⟨RX4, "begin", "(JI)V"⟩
abbrev cX4_hasEnded : ByteArray := prog_6_method_3_code
def yX4_hasEnded : MethodName := ⟨RX4, "hasEnded", "()Z"⟩
abbrev cX4_look : ByteArray := prog_6_method_4_code
def yX4_look : MethodName := ⟨RX4, "look", "()V"⟩
abbrev cX4_pass : ByteArray := prog_6_method_5_code
def yX4_pass : MethodName := ⟨RX4, "pass", "()Z"⟩
abbrev cX4_goVertical : ByteArray := prog_6_method_6_code
def yX4_goVertical : MethodName := ⟨RX4, "goVertical", "(I)Z"⟩
abbrev cX4_goHorizontal : ByteArray := prog_6_method_7_code
def yX4_goHorizontal : MethodName := ⟨RX4, "goHorizontal", "(II)Z"⟩
abbrev cX4_goTo : ByteArray := prog_6_method_8_code
def yX4_goTo : MethodName := ⟨RX4, "goTo", "(IZ)Z"⟩
def RX5 : String := "DotRuns$Sending"
def TX5 : u_T := fun k => match k with
  | 0 => ("DotRuns$Sending", "every", "I", false)
  | 1 => ("DotRuns$Sending", "steps", "I", false)
  | 2 => ("DotRuns$Sending", "bits", "I", false)
  | 3 => ("DotRuns$Sending", "sendings", "I", false)
  | 4 => ("DotRuns$Sending", "stepsBack", "I", false)
  | 5 => ("DotRuns$Sending", "lostSendings", "I", false)
  | 6 => ("DotRuns$Sending", "unreadSendings", "I", false)
  | 7 => ("DotRuns$Sending", "rows", "[J", true)
  | 8 => ("DotRuns$Sending", "states", "[I", true)
  | 9 => ("DotRuns$Sending", "timesSent", "[I", true)
  | 10 => ("DotRuns$Sending", "bitsOfLine", "[I", true)
  | 11 => ("DotRuns$Sending", "stepsBackOf", "[I", true)
  | 12 => ("DotRuns$Sending", "losses", "[I", true)
  | 13 => ("DotRuns$Sending", "bitsAlone", "[I", true)
  | 14 => ("DotRuns$Sending", "bitsByAbove", "[I", true)
  | _ => ("DotRuns$Sending", "code", "LDotRuns$Code;", true)
def tyX5 : Nat → FieldType := fun k => match k with
  | 0 => .int
  | 1 => .int
  | 2 => .int
  | 3 => .int
  | 4 => .int
  | 5 => .int
  | 6 => .int
  | 7 => .array .long
  | 8 => .array .int
  | 9 => .array .int
  | 10 => .array .int
  | 11 => .array .int
  | 12 => .array .int
  | 13 => .array .int
  | 14 => .array .int
  | _ => .object "DotRuns$Code"
abbrev wsX50 : List Cond := u_ws RX5 TX5 16
theorem nmX5 : ∀ a, a < 16 → ∀ b, b < 16 → a ≠ b → (TX5 a).2.1 ≠ (TX5 b).2.1 := by decide +kernel
theorem tyX5_ok : ∀ k, k < 16 → parseFieldDescriptor (TX5 k).2.2.1 = some (tyX5 k) := by decide +kernel
abbrev cX5_init : ByteArray := prog_7_method_1_code
def yX5_init : MethodName := ⟨RX5, "<init>", "()V"⟩
abbrev cX5_prepare : ByteArray := prog_7_method_2_code
def yX5_prepare : MethodName := ⟨RX5, "prepare", "(LDotRuns$Page;)V"⟩
abbrev cX5_loseOnly : ByteArray := prog_7_method_3_code
def yX5_loseOnly : MethodName := ⟨RX5, "loseOnly", "(I)V"⟩
abbrev cX5_sendPage : ByteArray := prog_7_method_4_code
def yX5_sendPage : MethodName := ⟨RX5, "sendPage", "(LDotRuns$Page;)V"⟩
abbrev cX5_clear : ByteArray := prog_7_method_5_code
def yX5_clear : MethodName := ⟨RX5, "clear", "()V"⟩
abbrev cX5_sendOne : ByteArray := prog_7_method_6_code
def yX5_sendOne : MethodName := ⟨RX5, "sendOne", "(LDotRuns$Page;I)I"⟩
abbrev cX5_stepBack : ByteArray := prog_7_method_7_code
def yX5_stepBack : MethodName := ⟨RX5, "stepBack", "(LDotRuns$Page;I)I"⟩
abbrev cX5_isSentAlone : ByteArray := prog_7_method_8_code
def yX5_isSentAlone : MethodName := ⟨RX5, "isSentAlone", "(LDotRuns$Page;I)Z"⟩
abbrev cX5_rowAbove : ByteArray := prog_7_method_9_code
def yX5_rowAbove : MethodName := ⟨RX5, "rowAbove", "(I)J"⟩
abbrev cX5_readByAbove : ByteArray := prog_7_method_10_code
def yX5_readByAbove : MethodName := ⟨RX5, "readByAbove", "(LDotRuns$Page;I)J"⟩
abbrev cX5_linesOfState : ByteArray := prog_7_method_11_code
def yX5_linesOfState : MethodName := ⟨RX5, "linesOfState", "(II)I"⟩
abbrev cX5_wrongDotsOf : ByteArray := prog_7_method_12_code
def yX5_wrongDotsOf : MethodName := ⟨RX5, "wrongDotsOf", "(ILDotRuns$Page;)I"⟩
abbrev cX5_wrongDots : ByteArray := prog_7_method_13_code
def yX5_wrongDots : MethodName := ⟨RX5, "wrongDots", "(LDotRuns$Page;)I"⟩
abbrev cX5_wrongLines : ByteArray := prog_7_method_14_code
def yX5_wrongLines : MethodName := ⟨RX5, "wrongLines", "(LDotRuns$Page;)I"⟩
abbrev cX5_lastWrongLine : ByteArray := prog_7_method_15_code
def yX5_lastWrongLine : MethodName := ⟨RX5, "lastWrongLine", "(LDotRuns$Page;)I"⟩
def RX6 : String := "DotRuns$Tokens"
def TX6 : u_T := fun k => match k with
  | 0 => ("DotRuns$Tokens", "length", "I", false)
  | 1 => ("DotRuns$Tokens", "kind", "I", false)
  | 2 => ("DotRuns$Tokens", "start", "I", false)
  | 3 => ("DotRuns$Tokens", "end", "I", false)
  | _ => ("DotRuns$Tokens", "bytes", "[B", true)
def tyX6 : Nat → FieldType := fun k => match k with
  | 0 => .int
  | 1 => .int
  | 2 => .int
  | 3 => .int
  | _ => .array .byte
abbrev wsX60 : List Cond := u_ws RX6 TX6 5
theorem nmX6 : ∀ a, a < 5 → ∀ b, b < 5 → a ≠ b → (TX6 a).2.1 ≠ (TX6 b).2.1 := by decide +kernel
theorem tyX6_ok : ∀ k, k < 5 → parseFieldDescriptor (TX6 k).2.2.1 = some (tyX6 k) := by decide +kernel
abbrev cX6_init : ByteArray := prog_8_method_1_code
def yX6_init : MethodName := ⟨RX6, "<init>", "()V"⟩
abbrev cX6_append : ByteArray := prog_8_method_2_code
def yX6_append : MethodName := ⟨RX6, "append", "(I)V"⟩
abbrev cX6_begin : ByteArray := prog_8_method_3_code
def yX6_begin : MethodName := ⟨RX6, "begin", "()V"⟩
abbrev cX6_next : ByteArray := prog_8_method_4_code
def yX6_next : MethodName := ⟨RX6, "next", "()V"⟩
abbrev cX6_byteAt : ByteArray := prog_8_method_5_code
def yX6_byteAt : MethodName := ⟨RX6, "byteAt", "(I)I"⟩
abbrev cX6_isSpace : ByteArray := prog_8_method_6_code
def yX6_isSpace : MethodName := ⟨RX6, "isSpace", "(I)Z"⟩
abbrev cX6_kindOf : ByteArray := prog_8_method_7_code
def yX6_kindOf : MethodName := ⟨RX6, "kindOf", "(I)I"⟩
abbrev cX6_isWord : ByteArray := prog_8_method_8_code
def yX6_isWord : MethodName := ⟨RX6, "isWord", "(Ljava/lang/String;)Z"⟩
abbrev cX6_number : ByteArray := prog_8_method_9_code
def yX6_number : MethodName := ⟨RX6, "number", "()I"⟩
abbrev cX6_signs : ByteArray := prog_8_method_10_code
def yX6_signs : MethodName := ⟨RX6, "signs", "()I"⟩
abbrev cX6_dots : ByteArray := prog_8_method_11_code
def yX6_dots : MethodName := ⟨RX6, "dots", "()J"⟩
def RX7 : String := "DotRuns"
def TX7 : u_T := fun k => match k with
  | 0 => ("DotRuns", "page", "LDotRuns$Page;", true)
  | 1 => ("DotRuns", "history", "LDotRuns$History;", true)
  | 2 => ("DotRuns", "saved", "[LDotRuns$Page;", true)
  | 3 => ("DotRuns", "parser", "LDotRuns$Parser;", true)
  | 4 => ("DotRuns", "code", "LDotRuns$Code;", true)
  | 5 => ("DotRuns", "sending", "LDotRuns$Sending;", true)
  | 6 => ("DotRuns", "written", "[B", true)
  | _ => ("DotRuns", "writtenLength", "I", false)
def tyX7 : Nat → FieldType := fun k => match k with
  | 0 => .object "DotRuns$Page"
  | 1 => .object "DotRuns$History"
  | 2 => .array (.object "DotRuns$Page")
  | 3 => .object "DotRuns$Parser"
  | 4 => .object "DotRuns$Code"
  | 5 => .object "DotRuns$Sending"
  | 6 => .array .byte
  | _ => .int
abbrev wsX70 : List Cond := u_ws RX7 TX7 8
theorem nmX7 : ∀ a, a < 8 → ∀ b, b < 8 → a ≠ b → (TX7 a).2.1 ≠ (TX7 b).2.1 := by decide +kernel
theorem tyX7_ok : ∀ k, k < 8 → parseFieldDescriptor (TX7 k).2.2.1 = some (tyX7 k) := by decide +kernel
abbrev cX7_init : ByteArray := prog_1_method_1_code
def yX7_init : MethodName := ⟨RX7, "<init>", "()V"⟩
abbrev cX7_appendText : ByteArray := prog_1_method_2_code
def yX7_appendText : MethodName := ⟨RX7, "appendText", "(I)I"⟩
abbrev cX7_truncateText : ByteArray := prog_1_method_3_code
def yX7_truncateText : MethodName := ⟨RX7, "truncateText", "(I)I"⟩
abbrev cX7_load : ByteArray := prog_1_method_4_code
def yX7_load : MethodName := ⟨RX7, "load", "()I"⟩
abbrev cX7_errorCode : ByteArray := prog_1_method_5_code
def yX7_errorCode : MethodName := ⟨RX7, "errorCode", "()I"⟩
abbrev cX7_count : ByteArray := prog_1_method_7_code
def yX7_count : MethodName := ⟨RX7, "count", "(I)I"⟩
abbrev cX7_dot : ByteArray := prog_1_method_8_code
def yX7_dot : MethodName := ⟨RX7, "dot", "(II)I"⟩
abbrev cX7_line : ByteArray := prog_1_method_9_code
def yX7_line : MethodName := ⟨RX7, "line", "(II)I"⟩
abbrev cX7_run : ByteArray := prog_1_method_10_code
def yX7_run : MethodName := ⟨RX7, "run", "(II)I"⟩
abbrev cX7_mode : ByteArray := prog_1_method_11_code
def yX7_mode : MethodName := ⟨RX7, "mode", "(III)I"⟩
abbrev cX7_readBelow : ByteArray := prog_1_method_15_code
def yX7_readBelow : MethodName := ⟨RX7, "readBelow", "(II)I"⟩
abbrev cX7_paint : ByteArray := prog_1_method_19_code
def yX7_paint : MethodName := ⟨RX7, "paint", "(IIII)I"⟩
abbrev cX7_shift : ByteArray := prog_1_method_20_code
def yX7_shift : MethodName := ⟨RX7, "shift", "(II)I"⟩
abbrev cX7_copyLine : ByteArray := prog_1_method_21_code
def yX7_copyLine : MethodName := ⟨RX7, "copyLine", "(II)I"⟩
abbrev cX7_removeLine : ByteArray := prog_1_method_22_code
def yX7_removeLine : MethodName := ⟨RX7, "removeLine", "(I)I"⟩
abbrev cX7_invert : ByteArray := prog_1_method_23_code
def yX7_invert : MethodName := ⟨RX7, "invert", "(I)I"⟩
abbrev cX7_swap : ByteArray := prog_1_method_24_code
def yX7_swap : MethodName := ⟨RX7, "swap", "(II)I"⟩
abbrev cX7_sent : ByteArray := prog_1_method_25_code
def yX7_sent : MethodName := ⟨RX7, "sent", "(I)I"⟩
abbrev cX7_sentLine : ByteArray := prog_1_method_26_code
def yX7_sentLine : MethodName := ⟨RX7, "sentLine", "(II)I"⟩
abbrev cX7_received : ByteArray := prog_1_method_27_code
def yX7_received : MethodName := ⟨RX7, "received", "(II)I"⟩
abbrev cX7_harm : ByteArray := prog_1_method_28_code
def yX7_harm : MethodName := ⟨RX7, "harm", "(II)I"⟩
abbrev cX7_worst : ByteArray := prog_1_method_29_code
def yX7_worst : MethodName := ⟨RX7, "worst", "()I"⟩
abbrev cX7_bestEvery : ByteArray := prog_1_method_30_code
def yX7_bestEvery : MethodName := ⟨RX7, "bestEvery", "()I"⟩
abbrev cX7_needsSteps : ByteArray := prog_1_method_31_code
def yX7_needsSteps : MethodName := ⟨RX7, "needsSteps", "()I"⟩
abbrev cX7_undo : ByteArray := prog_1_method_37_code
def yX7_undo : MethodName := ⟨RX7, "undo", "()I"⟩
abbrev cX7_needLine : ByteArray := prog_1_method_40_code
def yX7_needLine : MethodName := ⟨RX7, "needLine", "(I)V"⟩
abbrev cX7_needDot : ByteArray := prog_1_method_41_code
def yX7_needDot : MethodName := ⟨RX7, "needDot", "(II)V"⟩
abbrev cX7_needPlace : ByteArray := prog_1_method_42_code
def yX7_needPlace : MethodName := ⟨RX7, "needPlace", "(II)V"⟩
abbrev cX7_needSpan : ByteArray := prog_1_method_43_code
def yX7_needSpan : MethodName := ⟨RX7, "needSpan", "(II)V"⟩
abbrev cX7_needRoom : ByteArray := prog_1_method_44_code
def yX7_needRoom : MethodName := ⟨RX7, "needRoom", "()V"⟩
abbrev cX7_needColour : ByteArray := prog_1_method_45_code
def yX7_needColour : MethodName := ⟨RX7, "needColour", "(I)V"⟩
abbrev cX7_blackDots : ByteArray := prog_1_method_47_code
def yX7_blackDots : MethodName := ⟨RX7, "blackDots", "()I"⟩
abbrev cX7_allChanges : ByteArray := prog_1_method_48_code
def yX7_allChanges : MethodName := ⟨RX7, "allChanges", "()I"⟩
abbrev cX7_linesAsAbove : ByteArray := prog_1_method_49_code
def yX7_linesAsAbove : MethodName := ⟨RX7, "linesAsAbove", "()I"⟩
abbrev cX7_marks : ByteArray := prog_1_method_50_code
def yX7_marks : MethodName := ⟨RX7, "marks", "()I"⟩
abbrev cX7_isMark : ByteArray := prog_1_method_51_code
def yX7_isMark : MethodName := ⟨RX7, "isMark", "(I)Z"⟩
abbrev cX7_latestMark : ByteArray := prog_1_method_52_code
def yX7_latestMark : MethodName := ⟨RX7, "latestMark", "(I)I"⟩
abbrev cX7_codeLine : ByteArray := prog_1_method_53_code
def yX7_codeLine : MethodName := ⟨RX7, "codeLine", "(I)V"⟩
abbrev cX7_allBlack : ByteArray := prog_1_method_56_code
def yX7_allBlack : MethodName := ⟨RX7, "allBlack", "(I)J"⟩
abbrev cX7_span : ByteArray := prog_1_method_57_code
def yX7_span : MethodName := ⟨RX7, "span", "(II)J"⟩
abbrev cX7_colourAt : ByteArray := prog_1_method_58_code
def yX7_colourAt : MethodName := ⟨RX7, "colourAt", "(JI)I"⟩
abbrev cX7_changesOf : ByteArray := prog_1_method_59_code
def yX7_changesOf : MethodName := ⟨RX7, "changesOf", "(JI)J"⟩
abbrev cX7_lowestOf : ByteArray := prog_1_method_60_code
def yX7_lowestOf : MethodName := ⟨RX7, "lowestOf", "(J)I"⟩
abbrev cX7_firstBehind : ByteArray := prog_1_method_61_code
def yX7_firstBehind : MethodName := ⟨RX7, "firstBehind", "(JII)I"⟩
abbrev cX7_changeAt : ByteArray := prog_1_method_62_code
def yX7_changeAt : MethodName := ⟨RX7, "changeAt", "(JI)I"⟩
abbrev cX7_runAt : ByteArray := prog_1_method_63_code
def yX7_runAt : MethodName := ⟨RX7, "runAt", "(JII)I"⟩
abbrev cX7_aloneBits : ByteArray := prog_1_method_64_code
def yX7_aloneBits : MethodName := ⟨RX7, "aloneBits", "(JI)I"⟩
abbrev cX7_numberBits : ByteArray := prog_1_method_65_code
def yX7_numberBits : MethodName := ⟨RX7, "numberBits", "(I)I"⟩
abbrev cX7_isEvery : ByteArray := prog_1_method_66_code
def yX7_isEvery : MethodName := ⟨RX7, "isEvery", "(II)Z"⟩
def RX8 : String := "DotRunsLaw$Mode"
def TX8 : u_T := fun k => match k with
  | 0 => ("DotRunsLaw$Mode", "kind", "I", true)
  | 1 => ("DotRunsLaw$Mode", "one", "I", true)
  | 2 => ("DotRunsLaw$Mode", "two", "I", true)
  | _ => ("DotRunsLaw$Mode", "place", "I", true)
def tyX8 : Nat → FieldType := fun k => match k with
  | 0 => .int
  | 1 => .int
  | 2 => .int
  | _ => .int
abbrev wsX80 : List Cond := u_ws RX8 TX8 4
theorem nmX8 : ∀ a, a < 4 → ∀ b, b < 4 → a ≠ b → (TX8 a).2.1 ≠ (TX8 b).2.1 := by decide +kernel
theorem tyX8_ok : ∀ k, k < 4 → parseFieldDescriptor (TX8 k).2.2.1 = some (tyX8 k) := by decide +kernel
abbrev cX8_init : ByteArray := prog_10_method_1_code
def yX8_init : MethodName := ⟨RX8, "<init>", "(IIII)V"⟩
abbrev cX8_bits : ByteArray := prog_10_method_2_code
def yX8_bits : MethodName := ⟨RX8, "bits", "()I"⟩
def RX9 : String := "DotRunsLaw$Page"
def TX9 : u_T := fun k => match k with
  | 0 => ("DotRunsLaw$Page", "wide", "I", false)
  | 1 => ("DotRunsLaw$Page", "set", "[I", false)
  | 2 => ("DotRunsLaw$Page", "loss", "[I", false)
  | 3 => ("DotRunsLaw$Page", "rows", "Ljava/util/ArrayList;", false)
  | 4 => ("DotRunsLaw$Page", "got", "Ljava/util/ArrayList;", false)
  | 5 => ("DotRunsLaw$Page", "states", "[I", false)
  | 6 => ("DotRunsLaw$Page", "times", "[I", false)
  | 7 => ("DotRunsLaw$Page", "cost", "[I", false)
  | 8 => ("DotRunsLaw$Page", "backs", "[I", false)
  | 9 => ("DotRunsLaw$Page", "bits", "I", false)
  | 10 => ("DotRunsLaw$Page", "stepped", "I", false)
  | 11 => ("DotRunsLaw$Page", "lost", "I", false)
  | _ => ("DotRunsLaw$Page", "unread", "I", false)
def tyX9 : Nat → FieldType := fun k => match k with
  | 0 => .int
  | 1 => .array .int
  | 2 => .array .int
  | 3 => .object "java/util/ArrayList"
  | 4 => .object "java/util/ArrayList"
  | 5 => .array .int
  | 6 => .array .int
  | 7 => .array .int
  | 8 => .array .int
  | 9 => .int
  | 10 => .int
  | 11 => .int
  | _ => .int
abbrev wsX90 : List Cond := u_ws RX9 TX9 13
theorem nmX9 : ∀ a, a < 13 → ∀ b, b < 13 → a ≠ b → (TX9 a).2.1 ≠ (TX9 b).2.1 := by decide +kernel
theorem tyX9_ok : ∀ k, k < 13 → parseFieldDescriptor (TX9 k).2.2.1 = some (tyX9 k) := by decide +kernel
abbrev cX9_init : ByteArray := prog_11_method_1_code
def yX9_init : MethodName := ⟨RX9, "<init>", "()V"⟩
abbrev cX9_copy : ByteArray := prog_11_method_2_code
def yX9_copy : MethodName := ⟨RX9, "copy", "()LDotRunsLaw$Page;"⟩
abbrev cX9_above : ByteArray := prog_11_method_3_code
def yX9_above : MethodName := ⟨RX9, "above", "(Ljava/util/ArrayList;I)[Z"⟩
abbrev cX9_codeOf : ByteArray := prog_11_method_4_code
def yX9_codeOf : MethodName := ⟨RX9, "codeOf", "(I)Ljava/util/ArrayList;"⟩
abbrev cX9_isMark : ByteArray := prog_11_method_5_code
def yX9_isMark : MethodName := ⟨RX9, "isMark", "(I)Z"⟩
abbrev cX9_bitsOf : ByteArray := prog_11_method_6_code
def yX9_bitsOf : MethodName := ⟨RX9, "bitsOf", "(I)I"⟩
abbrev cX9_wrong : ByteArray := prog_11_method_7_code
def yX9_wrong : MethodName := ⟨RX9, "wrong", "(I)I"⟩
abbrev cX9_allWrong : ByteArray := prog_11_method_8_code
def yX9_allWrong : MethodName := ⟨RX9, "allWrong", "()I"⟩
abbrev cX9_send : ByteArray := prog_11_method_9_code
def yX9_send : MethodName := ⟨RX9, "send", "()V"⟩
abbrev cX9_count : ByteArray := prog_11_method_10_code
def yX9_count : MethodName := ⟨RX9, "count", "(I)I"⟩
def RX10 : String := "DotRunsLaw$Told"
def TX10 : u_T := fun k => match k with
  | 0 => ("DotRunsLaw$Told", "s", "[I", true)
  | _ => ("DotRunsLaw$Told", "at", "I", false)
def tyX10 : Nat → FieldType := fun k => match k with
  | 0 => .array .int
  | _ => .int
abbrev wsX100 : List Cond := u_ws RX10 TX10 2
theorem nmX10 : ∀ a, a < 2 → ∀ b, b < 2 → a ≠ b → (TX10 a).2.1 ≠ (TX10 b).2.1 := by decide +kernel
theorem tyX10_ok : ∀ k, k < 2 → parseFieldDescriptor (TX10 k).2.2.1 = some (tyX10 k) := by decide +kernel
abbrev cX10_init : ByteArray := prog_12_method_1_code
def yX10_init : MethodName := ⟨RX10, "<init>", "([I)V"⟩
abbrev cX10_next : ByteArray := prog_12_method_2_code
def yX10_next : MethodName := ⟨RX10, "next", "(I)I"⟩
def RX11 : String := "DotRunsModel"
def TX11 : u_T := fun k => match k with
  | _ => ("", "", "", false)
def tyX11 : Nat → FieldType := fun k => match k with
  | _ => .int
abbrev wsX110 : List Cond := u_ws RX11 TX11 0
theorem nmX11 : ∀ a, a < 0 → ∀ b, b < 0 → a ≠ b → (TX11 a).2.1 ≠ (TX11 b).2.1 := by decide +kernel
theorem tyX11_ok : ∀ k, k < 0 → parseFieldDescriptor (TX11 k).2.2.1 = some (tyX11 k) := by decide +kernel
def RJx145de : String := "java/io/Serializable"
def TJx145de : u_T := fun k => match k with
  | _ => ("", "", "", false)
def tyJx145de : Nat → FieldType := fun k => match k with
  | _ => .int
abbrev wsJx145de0 : List Cond := u_ws RJx145de TJx145de 0
theorem nmJx145de : ∀ a, a < 0 → ∀ b, b < 0 → a ≠ b → (TJx145de a).2.1 ≠ (TJx145de b).2.1 := by decide +kernel
theorem tyJx145de_ok : ∀ k, k < 0 → parseFieldDescriptor (TJx145de k).2.2.1 = some (tyJx145de k) := by decide +kernel
def RJ5 : String := "java/lang/AbstractStringBuilder"
def TJ5 : u_T := fun k => match k with
  | _ => ("", "", "", false)
def tyJ5 : Nat → FieldType := fun k => match k with
  | _ => .int
abbrev wsJ50 : List Cond := u_ws RJ5 TJ5 0
theorem nmJ5 : ∀ a, a < 0 → ∀ b, b < 0 → a ≠ b → (TJ5 a).2.1 ≠ (TJ5 b).2.1 := by decide +kernel
theorem tyJ5_ok : ∀ k, k < 0 → parseFieldDescriptor (TJ5 k).2.2.1 = some (tyJ5 k) := by decide +kernel
abbrev cJ5_init_d00df : ByteArray := prog_15_method_2_code
def yJ5_init_d00df : MethodName := ⟨RJ5, "<init>", "(I)V"⟩
abbrev cJ5_init_a7421 : ByteArray := prog_15_method_3_code
def yJ5_init_a7421 : MethodName := ⟨RJ5, "<init>", "(Ljava/lang/String;)V"⟩
abbrev cJ5_length_8abf5 : ByteArray := prog_15_method_6_code
def yJ5_length_8abf5 : MethodName := ⟨RJ5, "length", "()I"⟩
abbrev cJ5_ensureCapacityInternal_d00df : ByteArray := prog_15_method_9_code
def yJ5_ensureCapacityInternal_d00df : MethodName := ⟨RJ5, "ensureCapacityInternal", "(I)V"⟩
abbrev cJ5_newCapacity_0f7a4 : ByteArray := prog_15_method_10_code
def yJ5_newCapacity_0f7a4 : MethodName := ⟨RJ5, "newCapacity", "(I)I"⟩
abbrev cJ5_inflate_da8c8 : ByteArray := prog_15_method_11_code
def yJ5_inflate_da8c8 : MethodName := ⟨RJ5, "inflate", "()V"⟩
abbrev cJ5_append_cf1ce : ByteArray := prog_15_method_22_code
def yJ5_append_cf1ce : MethodName := ⟨RJ5, "append", "(Ljava/lang/String;)Ljava/lang/AbstractStringBuilder;"⟩
abbrev cJ5_appendNull_278bc : ByteArray := prog_15_method_26_code
def yJ5_appendNull_278bc : MethodName := ⟨RJ5, "appendNull", "()Ljava/lang/AbstractStringBuilder;"⟩
abbrev cJ5_append_3fe6f : ByteArray := prog_15_method_31_code
def yJ5_append_3fe6f : MethodName := ⟨RJ5, "append", "(C)Ljava/lang/AbstractStringBuilder;"⟩
abbrev cJ5_append_c97b9 : ByteArray := prog_15_method_32_code
def yJ5_append_c97b9 : MethodName := ⟨RJ5, "append", "(I)Ljava/lang/AbstractStringBuilder;"⟩
abbrev cJ5_getValue_6d5f1 : ByteArray := prog_15_method_64_code
def yJ5_getValue_6d5f1 : MethodName := ⟨RJ5, "getValue", "()[B"⟩
abbrev cJ5_isLatin1_aae02 : ByteArray := prog_15_method_68_code
def yJ5_isLatin1_aae02 : MethodName := ⟨RJ5, "isLatin1", "()Z"⟩
abbrev cJ5_inflateIfNeededFor_a7421 : ByteArray := prog_15_method_71_code
def yJ5_inflateIfNeededFor_a7421 : MethodName := ⟨RJ5, "inflateIfNeededFor", "(Ljava/lang/String;)V"⟩
abbrev cJ5_putStringAt_47b60 : ByteArray := prog_15_method_73_code
def yJ5_putStringAt_47b60 : MethodName := ⟨RJ5, "putStringAt", "(ILjava/lang/String;)V"⟩
def RJx2cfe8 : String := "java/lang/Appendable"
def TJx2cfe8 : u_T := fun k => match k with
  | _ => ("", "", "", false)
def tyJx2cfe8 : Nat → FieldType := fun k => match k with
  | _ => .int
abbrev wsJx2cfe80 : List Cond := u_ws RJx2cfe8 TJx2cfe8 0
theorem nmJx2cfe8 : ∀ a, a < 0 → ∀ b, b < 0 → a ≠ b → (TJx2cfe8 a).2.1 ≠ (TJx2cfe8 b).2.1 := by decide +kernel
theorem tyJx2cfe8_ok : ∀ k, k < 0 → parseFieldDescriptor (TJx2cfe8 k).2.2.1 = some (tyJx2cfe8 k) := by decide +kernel
def RJx9f9b0 : String := "java/lang/CharSequence"
def TJx9f9b0 : u_T := fun k => match k with
  | _ => ("", "", "", false)
def tyJx9f9b0 : Nat → FieldType := fun k => match k with
  | _ => .int
abbrev wsJx9f9b00 : List Cond := u_ws RJx9f9b0 TJx9f9b0 0
theorem nmJx9f9b0 : ∀ a, a < 0 → ∀ b, b < 0 → a ≠ b → (TJx9f9b0 a).2.1 ≠ (TJx9f9b0 b).2.1 := by decide +kernel
theorem tyJx9f9b0_ok : ∀ k, k < 0 → parseFieldDescriptor (TJx9f9b0 k).2.2.1 = some (tyJx9f9b0 k) := by decide +kernel
def RJx8e188 : String := "java/lang/Cloneable"
def TJx8e188 : u_T := fun k => match k with
  | _ => ("", "", "", false)
def tyJx8e188 : Nat → FieldType := fun k => match k with
  | _ => .int
abbrev wsJx8e1880 : List Cond := u_ws RJx8e188 TJx8e188 0
theorem nmJx8e188 : ∀ a, a < 0 → ∀ b, b < 0 → a ≠ b → (TJx8e188 a).2.1 ≠ (TJx8e188 b).2.1 := by decide +kernel
theorem tyJx8e188_ok : ∀ k, k < 0 → parseFieldDescriptor (TJx8e188 k).2.2.1 = some (tyJx8e188 k) := by decide +kernel
def RJxb160c : String := "java/lang/Comparable"
def TJxb160c : u_T := fun k => match k with
  | _ => ("", "", "", false)
def tyJxb160c : Nat → FieldType := fun k => match k with
  | _ => .int
abbrev wsJxb160c0 : List Cond := u_ws RJxb160c TJxb160c 0
theorem nmJxb160c : ∀ a, a < 0 → ∀ b, b < 0 → a ≠ b → (TJxb160c a).2.1 ≠ (TJxb160c b).2.1 := by decide +kernel
theorem tyJxb160c_ok : ∀ k, k < 0 → parseFieldDescriptor (TJxb160c k).2.2.1 = some (tyJxb160c k) := by decide +kernel
def RJxabbfe : String := "java/lang/Integer$IntegerCache"
def TJxabbfe : u_T := fun k => match k with
  | _ => ("", "", "", false)
def tyJxabbfe : Nat → FieldType := fun k => match k with
  | _ => .int
abbrev wsJxabbfe0 : List Cond := u_ws RJxabbfe TJxabbfe 0
theorem nmJxabbfe : ∀ a, a < 0 → ∀ b, b < 0 → a ≠ b → (TJxabbfe a).2.1 ≠ (TJxabbfe b).2.1 := by decide +kernel
theorem tyJxabbfe_ok : ∀ k, k < 0 → parseFieldDescriptor (TJxabbfe k).2.2.1 = some (tyJxabbfe k) := by decide +kernel
def RJ6 : String := "java/lang/Integer"
def TJ6 : u_T := fun k => match k with
  | _ => ("java/lang/Integer", "value", "I", true)
def tyJ6 : Nat → FieldType := fun k => match k with
  | _ => .int
abbrev wsJ60 : List Cond := u_ws RJ6 TJ6 1
theorem nmJ6 : ∀ a, a < 1 → ∀ b, b < 1 → a ≠ b → (TJ6 a).2.1 ≠ (TJ6 b).2.1 := by decide +kernel
theorem tyJ6_ok : ∀ k, k < 1 → parseFieldDescriptor (TJ6 k).2.2.1 = some (tyJ6 k) := by decide +kernel
abbrev cJ6_getChars_ba4f3 : ByteArray := prog_24_method_12_code
def yJ6_getChars_ba4f3 : MethodName := ⟨RJ6, "getChars", "(II[B)I"⟩
abbrev cJ6_stringSize_0f7a4 : ByteArray := prog_24_method_13_code
def yJ6_stringSize_0f7a4 : MethodName := ⟨RJ6, "stringSize", "(I)I"⟩
abbrev cJ6_valueOf_2dffe : ByteArray := prog_24_method_22_code
def yJ6_valueOf_2dffe : MethodName := ⟨RJ6, "valueOf", "(I)Ljava/lang/Integer;"⟩
abbrev cJ6_init_d00df : ByteArray := prog_24_method_23_code
def yJ6_init_d00df : MethodName := ⟨RJ6, "<init>", "(I)V"⟩
abbrev cJ6_intValue_8abf5 : ByteArray := prog_24_method_27_code
def yJ6_intValue_8abf5 : MethodName := ⟨RJ6, "intValue", "()I"⟩
def RJxab1ab : String := "java/lang/Iterable"
def TJxab1ab : u_T := fun k => match k with
  | _ => ("", "", "", false)
def tyJxab1ab : Nat → FieldType := fun k => match k with
  | _ => .int
abbrev wsJxab1ab0 : List Cond := u_ws RJxab1ab TJxab1ab 0
theorem nmJxab1ab : ∀ a, a < 0 → ∀ b, b < 0 → a ≠ b → (TJxab1ab a).2.1 ≠ (TJxab1ab b).2.1 := by decide +kernel
theorem tyJxab1ab_ok : ∀ k, k < 0 → parseFieldDescriptor (TJxab1ab k).2.2.1 = some (tyJxab1ab k) := by decide +kernel
def RJ13 : String := "java/lang/Long"
def TJ13 : u_T := fun k => match k with
  | _ => ("", "", "", false)
def tyJ13 : Nat → FieldType := fun k => match k with
  | _ => .int
abbrev wsJ130 : List Cond := u_ws RJ13 TJ13 0
theorem nmJ13 : ∀ a, a < 0 → ∀ b, b < 0 → a ≠ b → (TJ13 a).2.1 ≠ (TJ13 b).2.1 := by decide +kernel
theorem tyJ13_ok : ∀ k, k < 0 → parseFieldDescriptor (TJ13 k).2.2.1 = some (tyJ13 k) := by decide +kernel
abbrev cJ13_bitCount_95d88 : ByteArray := prog_27_method_50_code
def yJ13_bitCount_95d88 : MethodName := ⟨RJ13, "bitCount", "(J)I"⟩
def RJ9 : String := "java/lang/Math"
def TJ9 : u_T := fun k => match k with
  | _ => ("", "", "", false)
def tyJ9 : Nat → FieldType := fun k => match k with
  | _ => .int
abbrev wsJ90 : List Cond := u_ws RJ9 TJ9 0
theorem nmJ9 : ∀ a, a < 0 → ∀ b, b < 0 → a ≠ b → (TJ9 a).2.1 ≠ (TJ9 b).2.1 := by decide +kernel
theorem tyJ9_ok : ∀ k, k < 0 → parseFieldDescriptor (TJ9 k).2.2.1 = some (tyJ9 k) := by decide +kernel
abbrev cJ9_abs_0f7a4 : ByteArray := prog_28_method_59_code
def yJ9_abs_0f7a4 : MethodName := ⟨RJ9, "abs", "(I)I"⟩
abbrev cJ9_max_7cf53 : ByteArray := prog_28_method_65_code
def yJ9_max_7cf53 : MethodName := ⟨RJ9, "max", "(II)I"⟩
abbrev cJ9_min_7cf53 : ByteArray := prog_28_method_69_code
def yJ9_min_7cf53 : MethodName := ⟨RJ9, "min", "(II)I"⟩
def RJxd2413 : String := "java/lang/Number"
def TJxd2413 : u_T := fun k => match k with
  | _ => ("", "", "", false)
def tyJxd2413 : Nat → FieldType := fun k => match k with
  | _ => .int
abbrev wsJxd24130 : List Cond := u_ws RJxd2413 TJxd2413 0
theorem nmJxd2413 : ∀ a, a < 0 → ∀ b, b < 0 → a ≠ b → (TJxd2413 a).2.1 ≠ (TJxd2413 b).2.1 := by decide +kernel
theorem tyJxd2413_ok : ∀ k, k < 0 → parseFieldDescriptor (TJxd2413 k).2.2.1 = some (tyJxd2413 k) := by decide +kernel
abbrev cJxd2413_init_da8c8 : ByteArray := prog_29_method_1_code
def yJxd2413_init_da8c8 : MethodName := ⟨RJxd2413, "<init>", "()V"⟩
def RJ0 : String := "java/lang/String"
def TJ0 : u_T := fun k => match k with
  | 0 => ("java/lang/String", "value", "[B", true)
  | 1 => ("java/lang/String", "coder", "B", true)
  | 2 => ("java/lang/String", "hash", "I", false)
  | _ => ("java/lang/String", "hashIsZero", "Z", false)
def tyJ0 : Nat → FieldType := fun k => match k with
  | 0 => .array .byte
  | 1 => .byte
  | 2 => .int
  | _ => .boolean
abbrev wsJ00 : List Cond := u_ws RJ0 TJ0 4
theorem nmJ0 : ∀ a, a < 4 → ∀ b, b < 4 → a ≠ b → (TJ0 a).2.1 ≠ (TJ0 b).2.1 := by decide +kernel
theorem tyJ0_ok : ∀ k, k < 4 → parseFieldDescriptor (TJ0 k).2.2.1 = some (tyJ0 k) := by decide +kernel
abbrev cJ0_init_81219 : ByteArray := prog_31_method_53_code
def yJ0_init_81219 : MethodName := ⟨RJ0, "<init>", "(Ljava/lang/StringBuilder;)V"⟩
abbrev cJ0_length_8abf5 : ByteArray := prog_31_method_54_code
def yJ0_length_8abf5 : MethodName := ⟨RJ0, "length", "()I"⟩
abbrev cJ0_charAt_5068e : ByteArray := prog_31_method_56_code
def yJ0_charAt_5068e : MethodName := ⟨RJ0, "charAt", "(I)C"⟩
abbrev cJ0_getBytes_840e7 : ByteArray := prog_31_method_147_code
def yJ0_getBytes_840e7 : MethodName := ⟨RJ0, "getBytes", "([BIB)V"⟩
abbrev cJ0_init_db425 : ByteArray := prog_31_method_150_code
def yJ0_init_db425 : MethodName := ⟨RJ0, "<init>", "(Ljava/lang/AbstractStringBuilder;Ljava/lang/Void;)V"⟩
abbrev cJ0_coder_7d493 : ByteArray := prog_31_method_152_code
def yJ0_coder_7d493 : MethodName := ⟨RJ0, "coder", "()B"⟩
abbrev cJ0_isLatin1_aae02 : ByteArray := prog_31_method_154_code
def yJ0_isLatin1_aae02 : MethodName := ⟨RJ0, "isLatin1", "()Z"⟩
abbrev cJ0_checkIndex_df160 : ByteArray := prog_31_method_155_code
def yJ0_checkIndex_df160 : MethodName := ⟨RJ0, "checkIndex", "(II)V"⟩
abbrev cJ0_checkBoundsOffCount_cabcc : ByteArray := prog_31_method_157_code
def yJ0_checkBoundsOffCount_cabcc : MethodName := ⟨RJ0, "checkBoundsOffCount", "(III)I"⟩
abbrev cJ0_checkBoundsBeginEnd_23922 : ByteArray := prog_31_method_158_code
def yJ0_checkBoundsBeginEnd_23922 : MethodName := ⟨RJ0, "checkBoundsBeginEnd", "(III)V"⟩
def RJ4 : String := "java/lang/StringBuilder"
def TJ4 : u_T := fun k => match k with
  | 0 => ("java/lang/AbstractStringBuilder", "value", "[B", false)
  | 1 => ("java/lang/AbstractStringBuilder", "coder", "B", false)
  | 2 => ("java/lang/AbstractStringBuilder", "maybeLatin1", "Z", false)
  | _ => ("java/lang/AbstractStringBuilder", "count", "I", false)
def tyJ4 : Nat → FieldType := fun k => match k with
  | 0 => .array .byte
  | 1 => .byte
  | 2 => .boolean
  | _ => .int
abbrev wsJ40 : List Cond := u_ws RJ4 TJ4 4
theorem nmJ4 : ∀ a, a < 4 → ∀ b, b < 4 → a ≠ b → (TJ4 a).2.1 ≠ (TJ4 b).2.1 := by decide +kernel
theorem tyJ4_ok : ∀ k, k < 4 → parseFieldDescriptor (TJ4 k).2.2.1 = some (tyJ4 k) := by decide +kernel
abbrev cJ4_init_da8c8 : ByteArray := prog_32_method_1_code
def yJ4_init_da8c8 : MethodName := ⟨RJ4, "<init>", "()V"⟩
abbrev cJ4_init_a7421 : ByteArray := prog_32_method_3_code
def yJ4_init_a7421 : MethodName := ⟨RJ4, "<init>", "(Ljava/lang/String;)V"⟩
abbrev cJ4_append_15ec4 : ByteArray := prog_32_method_7_code
def yJ4_append_15ec4 : MethodName := ⟨RJ4, "append", "(Ljava/lang/String;)Ljava/lang/StringBuilder;"⟩
abbrev cJ4_append_cf468 : ByteArray := prog_32_method_14_code
def yJ4_append_cf468 : MethodName := ⟨RJ4, "append", "(C)Ljava/lang/StringBuilder;"⟩
abbrev cJ4_append_bf812 : ByteArray := prog_32_method_15_code
def yJ4_append_bf812 : MethodName := ⟨RJ4, "append", "(I)Ljava/lang/StringBuilder;"⟩
abbrev cJ4_toString_0e30d : ByteArray := prog_32_method_42_code
def yJ4_toString_0e30d : MethodName := ⟨RJ4, "toString", "()Ljava/lang/String;"⟩
abbrev cJ4_append_cf1ce : ByteArray := prog_32_method_80_code
def yJ4_append_cf1ce : MethodName := ⟨RJ4, "append", "(Ljava/lang/String;)Ljava/lang/AbstractStringBuilder;"⟩
abbrev cJ4_length_8abf5 : ByteArray := prog_32_method_93_code
def yJ4_length_8abf5 : MethodName := ⟨RJ4, "length", "()I"⟩
def RJ1 : String := "java/lang/StringLatin1"
def TJ1 : u_T := fun k => match k with
  | _ => ("", "", "", false)
def tyJ1 : Nat → FieldType := fun k => match k with
  | _ => .int
abbrev wsJ10 : List Cond := u_ws RJ1 TJ1 0
theorem nmJ1 : ∀ a, a < 0 → ∀ b, b < 0 → a ≠ b → (TJ1 a).2.1 ≠ (TJ1 b).2.1 := by decide +kernel
theorem tyJ1_ok : ∀ k, k < 0 → parseFieldDescriptor (TJ1 k).2.2.1 = some (tyJ1 k) := by decide +kernel
abbrev cJ1_charAt_3b067 : ByteArray := prog_33_method_2_code
def yJ1_charAt_3b067 : MethodName := ⟨RJ1, "charAt", "([BI)C"⟩
abbrev cJ1_canEncode_fc78d : ByteArray := prog_33_method_3_code
def yJ1_canEncode_fc78d : MethodName := ⟨RJ1, "canEncode", "(C)Z"⟩
abbrev cJ1_inflate_0e8fd : ByteArray := prog_33_method_50_code
def yJ1_inflate_0e8fd : MethodName := ⟨RJ1, "inflate", "([BI[BII)V"⟩
def RJ2 : String := "java/lang/StringUTF16"
def TJ2 : u_T := fun k => match k with
  | _ => ("", "", "", false)
def tyJ2 : Nat → FieldType := fun k => match k with
  | _ => .int
abbrev wsJ20 : List Cond := u_ws RJ2 TJ2 0
theorem nmJ2 : ∀ a, a < 0 → ∀ b, b < 0 → a ≠ b → (TJ2 a).2.1 ≠ (TJ2 b).2.1 := by decide +kernel
theorem tyJ2_ok : ∀ k, k < 0 → parseFieldDescriptor (TJ2 k).2.2.1 = some (tyJ2 k) := by decide +kernel
abbrev cJ2_newBytesFor_77867 : ByteArray := prog_34_method_2_code
def yJ2_newBytesFor_77867 : MethodName := ⟨RJ2, "newBytesFor", "(I)[B"⟩
abbrev cJ2_newBytesLength_0f7a4 : ByteArray := prog_34_method_3_code
def yJ2_newBytesLength_0f7a4 : MethodName := ⟨RJ2, "newBytesLength", "(I)I"⟩
abbrev cJ2_putChar_b72d1 : ByteArray := prog_34_method_4_code
def yJ2_putChar_b72d1 : MethodName := ⟨RJ2, "putChar", "([BII)V"⟩
abbrev cJ2_getChar_3b067 : ByteArray := prog_34_method_5_code
def yJ2_getChar_3b067 : MethodName := ⟨RJ2, "getChar", "([BI)C"⟩
abbrev cJ2_length_9d52b : ByteArray := prog_34_method_6_code
def yJ2_length_9d52b : MethodName := ⟨RJ2, "length", "([B)I"⟩
abbrev cJ2_coderFromArrayLen_85cad : ByteArray := prog_34_method_15_code
def yJ2_coderFromArrayLen_85cad : MethodName := ⟨RJ2, "coderFromArrayLen", "([BI)B"⟩
abbrev cJ2_compress_39247 : ByteArray := prog_34_method_17_code
def yJ2_compress_39247 : MethodName := ⟨RJ2, "compress", "([BII)[B"⟩
abbrev cJ2_compress_5af95 : ByteArray := prog_34_method_22_code
def yJ2_compress_5af95 : MethodName := ⟨RJ2, "compress", "([BI[BII)I"⟩
abbrev cJ2_putCharSB_b72d1 : ByteArray := prog_34_method_71_code
def yJ2_putCharSB_b72d1 : MethodName := ⟨RJ2, "putCharSB", "([BII)V"⟩
abbrev cJ2_getChars_46870 : ByteArray := prog_34_method_77_code
def yJ2_getChars_46870 : MethodName := ⟨RJ2, "getChars", "(III[B)I"⟩
abbrev cJ2_putCharsAt_cd4e5 : ByteArray := prog_34_method_81_code
def yJ2_putCharsAt_cd4e5 : MethodName := ⟨RJ2, "putCharsAt", "([BICCCC)I"⟩
abbrev cJ2_charAt_3b067 : ByteArray := prog_34_method_83_code
def yJ2_charAt_3b067 : MethodName := ⟨RJ2, "charAt", "([BI)C"⟩
abbrev cJ2_inflate_0e8fd : ByteArray := prog_34_method_86_code
def yJ2_inflate_0e8fd : MethodName := ⟨RJ2, "inflate", "([BI[BII)V"⟩
abbrev cJ2_getChars_ba4f3 : ByteArray := prog_34_method_89_code
def yJ2_getChars_ba4f3 : MethodName := ⟨RJ2, "getChars", "(II[B)I"⟩
abbrev cJ2_checkIndex_2214a : ByteArray := prog_34_method_91_code
def yJ2_checkIndex_2214a : MethodName := ⟨RJ2, "checkIndex", "(I[B)V"⟩
abbrev cJ2_checkBoundsBeginEnd_d044e : ByteArray := prog_34_method_93_code
def yJ2_checkBoundsBeginEnd_d044e : MethodName := ⟨RJ2, "checkBoundsBeginEnd", "(II[B)V"⟩
abbrev cJ2_checkBoundsOffCount_d044e : ByteArray := prog_34_method_94_code
def yJ2_checkBoundsOffCount_d044e : MethodName := ⟨RJ2, "checkBoundsOffCount", "(II[B)V"⟩
def RJ10 : String := "java/lang/System"
def TJ10 : u_T := fun k => match k with
  | _ => ("", "", "", false)
def tyJ10 : Nat → FieldType := fun k => match k with
  | _ => .int
abbrev wsJ100 : List Cond := u_ws RJ10 TJ10 0
theorem nmJ10 : ∀ a, a < 0 → ∀ b, b < 0 → a ≠ b → (TJ10 a).2.1 ≠ (TJ10 b).2.1 := by decide +kernel
theorem tyJ10_ok : ∀ k, k < 0 → parseFieldDescriptor (TJ10 k).2.2.1 = some (tyJ10 k) := by decide +kernel
def RJxfd54e : String := "java/lang/constant/Constable"
def TJxfd54e : u_T := fun k => match k with
  | _ => ("", "", "", false)
def tyJxfd54e : Nat → FieldType := fun k => match k with
  | _ => .int
abbrev wsJxfd54e0 : List Cond := u_ws RJxfd54e TJxfd54e 0
theorem nmJxfd54e : ∀ a, a < 0 → ∀ b, b < 0 → a ≠ b → (TJxfd54e a).2.1 ≠ (TJxfd54e b).2.1 := by decide +kernel
theorem tyJxfd54e_ok : ∀ k, k < 0 → parseFieldDescriptor (TJxfd54e k).2.2.1 = some (tyJxfd54e k) := by decide +kernel
def RJx3cf43 : String := "java/lang/constant/ConstantDesc"
def TJx3cf43 : u_T := fun k => match k with
  | _ => ("", "", "", false)
def tyJx3cf43 : Nat → FieldType := fun k => match k with
  | _ => .int
abbrev wsJx3cf430 : List Cond := u_ws RJx3cf43 TJx3cf43 0
theorem nmJx3cf43 : ∀ a, a < 0 → ∀ b, b < 0 → a ≠ b → (TJx3cf43 a).2.1 ≠ (TJx3cf43 b).2.1 := by decide +kernel
theorem tyJx3cf43_ok : ∀ k, k < 0 → parseFieldDescriptor (TJx3cf43 k).2.2.1 = some (tyJx3cf43 k) := by decide +kernel
def RJxa1e45 : String := "java/util/AbstractCollection"
def TJxa1e45 : u_T := fun k => match k with
  | _ => ("", "", "", false)
def tyJxa1e45 : Nat → FieldType := fun k => match k with
  | _ => .int
abbrev wsJxa1e450 : List Cond := u_ws RJxa1e45 TJxa1e45 0
theorem nmJxa1e45 : ∀ a, a < 0 → ∀ b, b < 0 → a ≠ b → (TJxa1e45 a).2.1 ≠ (TJxa1e45 b).2.1 := by decide +kernel
theorem tyJxa1e45_ok : ∀ k, k < 0 → parseFieldDescriptor (TJxa1e45 k).2.2.1 = some (tyJxa1e45 k) := by decide +kernel
abbrev cJxa1e45_init_da8c8 : ByteArray := prog_39_method_1_code
def yJxa1e45_init_da8c8 : MethodName := ⟨RJxa1e45, "<init>", "()V"⟩
def RJxc12de : String := "java/util/AbstractList"
def TJxc12de : u_T := fun k => match k with
  | _ => ("", "", "", false)
def tyJxc12de : Nat → FieldType := fun k => match k with
  | _ => .int
abbrev wsJxc12de0 : List Cond := u_ws RJxc12de TJxc12de 0
theorem nmJxc12de : ∀ a, a < 0 → ∀ b, b < 0 → a ≠ b → (TJxc12de a).2.1 ≠ (TJxc12de b).2.1 := by decide +kernel
theorem tyJxc12de_ok : ∀ k, k < 0 → parseFieldDescriptor (TJxc12de k).2.2.1 = some (tyJxc12de k) := by decide +kernel
abbrev cJxc12de_init_da8c8 : ByteArray := prog_40_method_1_code
def yJxc12de_init_da8c8 : MethodName := ⟨RJxc12de, "<init>", "()V"⟩
def RJx35411 : String := "java/util/ArrayList$Itr"
def TJx35411 : u_T := fun k => match k with
  | 0 => ("java/util/ArrayList$Itr", "cursor", "I", false)
  | 1 => ("java/util/ArrayList$Itr", "lastRet", "I", false)
  | 2 => ("java/util/ArrayList$Itr", "expectedModCount", "I", false)
  | _ => ("java/util/ArrayList$Itr", "this$0", "Ljava/util/ArrayList;", true)
def tyJx35411 : Nat → FieldType := fun k => match k with
  | 0 => .int
  | 1 => .int
  | 2 => .int
  | _ => .object "java/util/ArrayList"
abbrev wsJx354110 : List Cond := u_ws RJx35411 TJx35411 4
theorem nmJx35411 : ∀ a, a < 4 → ∀ b, b < 4 → a ≠ b → (TJx35411 a).2.1 ≠ (TJx35411 b).2.1 := by decide +kernel
theorem tyJx35411_ok : ∀ k, k < 4 → parseFieldDescriptor (TJx35411 k).2.2.1 = some (tyJx35411 k) := by decide +kernel
abbrev cJx35411_init_45d68 : ByteArray := prog_42_method_1_code
def yJx35411_init_45d68 : MethodName := ⟨RJx35411, "<init>", "(Ljava/util/ArrayList;)V"⟩
abbrev cJx35411_hasNext_aae02 : ByteArray := prog_42_method_2_code
def yJx35411_hasNext_aae02 : MethodName := ⟨RJx35411, "hasNext", "()Z"⟩
abbrev cJx35411_next_0502b : ByteArray := prog_42_method_3_code
def yJx35411_next_0502b : MethodName := ⟨RJx35411, "next", "()Ljava/lang/Object;"⟩
abbrev cJx35411_checkForComodification_da8c8 : ByteArray := prog_42_method_6_code
def yJx35411_checkForComodification_da8c8 : MethodName := ⟨RJx35411, "checkForComodification", "()V"⟩
def RJx4a65c : String := "java/util/ArrayList"
def TJx4a65c : u_T := fun k => match k with
  | 0 => ("java/util/AbstractList", "modCount", "I", false)
  | 1 => ("java/util/ArrayList", "elementData", "[Ljava/lang/Object;", false)
  | _ => ("java/util/ArrayList", "size", "I", false)
def tyJx4a65c : Nat → FieldType := fun k => match k with
  | 0 => .int
  | 1 => .array (.object "java/lang/Object")
  | _ => .int
abbrev wsJx4a65c0 : List Cond := u_ws RJx4a65c TJx4a65c 3
theorem nmJx4a65c : ∀ a, a < 3 → ∀ b, b < 3 → a ≠ b → (TJx4a65c a).2.1 ≠ (TJx4a65c b).2.1 := by decide +kernel
theorem tyJx4a65c_ok : ∀ k, k < 3 → parseFieldDescriptor (TJx4a65c k).2.2.1 = some (tyJx4a65c k) := by decide +kernel
abbrev cJx4a65c_init_da8c8 : ByteArray := prog_41_method_2_code
def yJx4a65c_init_da8c8 : MethodName := ⟨RJx4a65c, "<init>", "()V"⟩
abbrev cJx4a65c_grow_92f84 : ByteArray := prog_41_method_6_code
def yJx4a65c_grow_92f84 : MethodName := ⟨RJx4a65c, "grow", "(I)[Ljava/lang/Object;"⟩
abbrev cJx4a65c_grow_d5877 : ByteArray := prog_41_method_7_code
def yJx4a65c_grow_d5877 : MethodName := ⟨RJx4a65c, "grow", "()[Ljava/lang/Object;"⟩
abbrev cJx4a65c_size_8abf5 : ByteArray := prog_41_method_8_code
def yJx4a65c_size_8abf5 : MethodName := ⟨RJx4a65c, "size", "()I"⟩
abbrev cJx4a65c_elementData_915e3 : ByteArray := prog_41_method_18_code
def yJx4a65c_elementData_915e3 : MethodName := ⟨RJx4a65c, "elementData", "(I)Ljava/lang/Object;"⟩
abbrev cJx4a65c_get_915e3 : ByteArray := prog_41_method_20_code
def yJx4a65c_get_915e3 : MethodName := ⟨RJx4a65c, "get", "(I)Ljava/lang/Object;"⟩
abbrev cJx4a65c_set_bcc79 : ByteArray := prog_41_method_23_code
def yJx4a65c_set_bcc79 : MethodName := ⟨RJx4a65c, "set", "(ILjava/lang/Object;)Ljava/lang/Object;"⟩
abbrev cJx4a65c_add_72be8 : ByteArray := prog_41_method_24_code
def yJx4a65c_add_72be8 : MethodName := ⟨RJx4a65c, "add", "(Ljava/lang/Object;[Ljava/lang/Object;I)V"⟩
abbrev cJx4a65c_add_9ea2d : ByteArray := prog_41_method_25_code
def yJx4a65c_add_9ea2d : MethodName := ⟨RJx4a65c, "add", "(Ljava/lang/Object;)Z"⟩
abbrev cJx4a65c_add_7a177 : ByteArray := prog_41_method_26_code
def yJx4a65c_add_7a177 : MethodName := ⟨RJx4a65c, "add", "(ILjava/lang/Object;)V"⟩
abbrev cJx4a65c_remove_915e3 : ByteArray := prog_41_method_29_code
def yJx4a65c_remove_915e3 : MethodName := ⟨RJx4a65c, "remove", "(I)Ljava/lang/Object;"⟩
abbrev cJx4a65c_fastRemove_b59b0 : ByteArray := prog_41_method_39_code
def yJx4a65c_fastRemove_b59b0 : MethodName := ⟨RJx4a65c, "fastRemove", "([Ljava/lang/Object;I)V"⟩
abbrev cJx4a65c_rangeCheckForAdd_d00df : ByteArray := prog_41_method_45_code
def yJx4a65c_rangeCheckForAdd_d00df : MethodName := ⟨RJx4a65c, "rangeCheckForAdd", "(I)V"⟩
abbrev cJx4a65c_iterator_32c93 : ByteArray := prog_41_method_55_code
def yJx4a65c_iterator_32c93 : MethodName := ⟨RJx4a65c, "iterator", "()Ljava/util/Iterator;"⟩
def RJ7 : String := "java/util/Arrays"
def TJ7 : u_T := fun k => match k with
  | _ => ("", "", "", false)
def tyJ7 : Nat → FieldType := fun k => match k with
  | _ => .int
abbrev wsJ70 : List Cond := u_ws RJ7 TJ7 0
theorem nmJ7 : ∀ a, a < 0 → ∀ b, b < 0 → a ≠ b → (TJ7 a).2.1 ≠ (TJ7 b).2.1 := by decide +kernel
theorem tyJ7_ok : ∀ k, k < 0 → parseFieldDescriptor (TJ7 k).2.2.1 = some (tyJ7 k) := by decide +kernel
abbrev cJ7_copyOf_1904c : ByteArray := prog_43_method_119_code
def yJ7_copyOf_1904c : MethodName := ⟨RJ7, "copyOf", "([Ljava/lang/Object;I)[Ljava/lang/Object;"⟩
abbrev cJ7_copyOf_6403c : ByteArray := prog_43_method_120_code
def yJ7_copyOf_6403c : MethodName := ⟨RJ7, "copyOf", "([Ljava/lang/Object;ILjava/lang/Class;)[Ljava/lang/Object;"⟩
abbrev cJ7_copyOf_9075b : ByteArray := prog_43_method_121_code
def yJ7_copyOf_9075b : MethodName := ⟨RJ7, "copyOf", "([BI)[B"⟩
abbrev cJ7_checkLength_df160 : ByteArray := prog_43_method_131_code
def yJ7_checkLength_df160 : MethodName := ⟨RJ7, "checkLength", "(II)V"⟩
abbrev cJ7_copyOfRange_39247 : ByteArray := prog_43_method_132_code
def yJ7_copyOfRange_39247 : MethodName := ⟨RJ7, "copyOfRange", "([BII)[B"⟩
abbrev cJ7_copyOfRangeByte_39247 : ByteArray := prog_43_method_133_code
def yJ7_copyOfRangeByte_39247 : MethodName := ⟨RJ7, "copyOfRangeByte", "([BII)[B"⟩
def RJx5ef63 : String := "java/util/Collection"
def TJx5ef63 : u_T := fun k => match k with
  | _ => ("", "", "", false)
def tyJx5ef63 : Nat → FieldType := fun k => match k with
  | _ => .int
abbrev wsJx5ef630 : List Cond := u_ws RJx5ef63 TJx5ef63 0
theorem nmJx5ef63 : ∀ a, a < 0 → ∀ b, b < 0 → a ≠ b → (TJx5ef63 a).2.1 ≠ (TJx5ef63 b).2.1 := by decide +kernel
theorem tyJx5ef63_ok : ∀ k, k < 0 → parseFieldDescriptor (TJx5ef63 k).2.2.1 = some (tyJx5ef63 k) := by decide +kernel
def RJx4d0d8 : String := "java/util/Iterator"
def TJx4d0d8 : u_T := fun k => match k with
  | _ => ("", "", "", false)
def tyJx4d0d8 : Nat → FieldType := fun k => match k with
  | _ => .int
abbrev wsJx4d0d80 : List Cond := u_ws RJx4d0d8 TJx4d0d8 0
theorem nmJx4d0d8 : ∀ a, a < 0 → ∀ b, b < 0 → a ≠ b → (TJx4d0d8 a).2.1 ≠ (TJx4d0d8 b).2.1 := by decide +kernel
theorem tyJx4d0d8_ok : ∀ k, k < 0 → parseFieldDescriptor (TJx4d0d8 k).2.2.1 = some (tyJx4d0d8 k) := by decide +kernel
def RJxbd725 : String := "java/util/List"
def TJxbd725 : u_T := fun k => match k with
  | _ => ("", "", "", false)
def tyJxbd725 : Nat → FieldType := fun k => match k with
  | _ => .int
abbrev wsJxbd7250 : List Cond := u_ws RJxbd725 TJxbd725 0
theorem nmJxbd725 : ∀ a, a < 0 → ∀ b, b < 0 → a ≠ b → (TJxbd725 a).2.1 ≠ (TJxbd725 b).2.1 := by decide +kernel
theorem tyJxbd725_ok : ∀ k, k < 0 → parseFieldDescriptor (TJxbd725 k).2.2.1 = some (tyJxbd725 k) := by decide +kernel
def RJ15 : String := "java/util/Objects"
def TJ15 : u_T := fun k => match k with
  | _ => ("", "", "", false)
def tyJ15 : Nat → FieldType := fun k => match k with
  | _ => .int
abbrev wsJ150 : List Cond := u_ws RJ15 TJ15 0
theorem nmJ15 : ∀ a, a < 0 → ∀ b, b < 0 → a ≠ b → (TJ15 a).2.1 ≠ (TJ15 b).2.1 := by decide +kernel
theorem tyJ15_ok : ∀ k, k < 0 → parseFieldDescriptor (TJ15 k).2.2.1 = some (tyJ15 k) := by decide +kernel
abbrev cJ15_checkIndex_7cf53 : ByteArray := prog_47_method_17_code
def yJ15_checkIndex_7cf53 : MethodName := ⟨RJ15, "checkIndex", "(II)I"⟩
def RJxf0a74 : String := "java/util/RandomAccess"
def TJxf0a74 : u_T := fun k => match k with
  | _ => ("", "", "", false)
def tyJxf0a74 : Nat → FieldType := fun k => match k with
  | _ => .int
abbrev wsJxf0a740 : List Cond := u_ws RJxf0a74 TJxf0a74 0
theorem nmJxf0a74 : ∀ a, a < 0 → ∀ b, b < 0 → a ≠ b → (TJxf0a74 a).2.1 ≠ (TJxf0a74 b).2.1 := by decide +kernel
theorem tyJxf0a74_ok : ∀ k, k < 0 → parseFieldDescriptor (TJxf0a74 k).2.2.1 = some (tyJxf0a74 k) := by decide +kernel
def RJxa66e6 : String := "java/util/SequencedCollection"
def TJxa66e6 : u_T := fun k => match k with
  | _ => ("", "", "", false)
def tyJxa66e6 : Nat → FieldType := fun k => match k with
  | _ => .int
abbrev wsJxa66e60 : List Cond := u_ws RJxa66e6 TJxa66e6 0
theorem nmJxa66e6 : ∀ a, a < 0 → ∀ b, b < 0 → a ≠ b → (TJxa66e6 a).2.1 ≠ (TJxa66e6 b).2.1 := by decide +kernel
theorem tyJxa66e6_ok : ∀ k, k < 0 → parseFieldDescriptor (TJxa66e6 k).2.2.1 = some (tyJxa66e6 k) := by decide +kernel
def RJ8 : String := "jdk/internal/util/ArraysSupport"
def TJ8 : u_T := fun k => match k with
  | _ => ("", "", "", false)
def tyJ8 : Nat → FieldType := fun k => match k with
  | _ => .int
abbrev wsJ80 : List Cond := u_ws RJ8 TJ8 0
theorem nmJ8 : ∀ a, a < 0 → ∀ b, b < 0 → a ≠ b → (TJ8 a).2.1 ≠ (TJ8 b).2.1 := by decide +kernel
theorem tyJ8_ok : ∀ k, k < 0 → parseFieldDescriptor (TJ8 k).2.2.1 = some (tyJ8 k) := by decide +kernel
abbrev cJ8_newLength_cabcc : ByteArray := prog_50_method_27_code
def yJ8_newLength_cabcc : MethodName := ⟨RJ8, "newLength", "(III)I"⟩
abbrev cJ8_hugeLength_7cf53 : ByteArray := prog_50_method_28_code
def yJ8_hugeLength_7cf53 : MethodName := ⟨RJ8, "hugeLength", "(II)I"⟩
def RJ3 : String := "jdk/internal/util/Preconditions"
def TJ3 : u_T := fun k => match k with
  | _ => ("", "", "", false)
def tyJ3 : Nat → FieldType := fun k => match k with
  | _ => .int
abbrev wsJ30 : List Cond := u_ws RJ3 TJ3 0
theorem nmJ3 : ∀ a, a < 0 → ∀ b, b < 0 → a ≠ b → (TJ3 a).2.1 ≠ (TJ3 b).2.1 := by decide +kernel
theorem tyJ3_ok : ∀ k, k < 0 → parseFieldDescriptor (TJ3 k).2.2.1 = some (tyJ3 k) := by decide +kernel
abbrev cJ3_checkIndex_8e157 : ByteArray := prog_51_method_11_code
def yJ3_checkIndex_8e157 : MethodName := ⟨RJ3, "checkIndex", "(IILjava/util/function/BiFunction;)I"⟩
abbrev cJ3_checkFromToIndex_8c36e : ByteArray := prog_51_method_12_code
def yJ3_checkFromToIndex_8c36e : MethodName := ⟨RJ3, "checkFromToIndex", "(IIILjava/util/function/BiFunction;)I"⟩
abbrev cJ3_checkFromIndexSize_8c36e : ByteArray := prog_51_method_13_code
def yJ3_checkFromIndexSize_8c36e : MethodName := ⟨RJ3, "checkFromIndexSize", "(IIILjava/util/function/BiFunction;)I"⟩
def RL : String := "DotRunsLaw"
abbrev cL_pick : ByteArray := method_2_code
def yL_pick : MethodName := ⟨RL, "pick", "([II)I"⟩
abbrev cL_bitsOf : ByteArray := method_3_code
def yL_bitsOf : MethodName := ⟨RL, "bitsOf", "(I)I"⟩
abbrev cL_changes : ByteArray := method_4_code
def yL_changes : MethodName := ⟨RL, "changes", "([Z)Ljava/util/ArrayList;"⟩
abbrev cL_marksBehind : ByteArray := method_5_code
def yL_marksBehind : MethodName := ⟨RL, "marksBehind", "([ZIZ)[I"⟩
abbrev cL_find : ByteArray := method_6_code
def yL_find : MethodName := ⟨RL, "find", "([ZIZ)I"⟩
abbrev cL_code : ByteArray := method_7_code
def yL_code : MethodName := ⟨RL, "code", "([Z[Z)Ljava/util/ArrayList;"⟩
abbrev cL_read : ByteArray := method_8_code
def yL_read : MethodName := ⟨RL, "read", "(Ljava/util/ArrayList;[Z)[Z"⟩
abbrev cL_alone : ByteArray := method_9_code
def yL_alone : MethodName := ⟨RL, "alone", "([Z)Ljava/util/ArrayList;"⟩
abbrev cL_bits : ByteArray := method_10_code
def yL_bits : MethodName := ⟨RL, "bits", "(Ljava/util/ArrayList;)I"⟩
abbrev cL_modeBits : ByteArray := method_11_code
def yL_modeBits : MethodName := ⟨RL, "modeBits", "(Ljava/util/ArrayList;)I"⟩
abbrev cL_isLike : ByteArray := method_12_code
def yL_isLike : MethodName := ⟨RL, "isLike", "(LDotRuns;LDotRunsLaw$Page;)Z"⟩
abbrev cL_isSent : ByteArray := method_13_code
def yL_isSent : MethodName := ⟨RL, "isSent", "(LDotRuns;LDotRunsLaw$Page;)Z"⟩
abbrev cL_isTold : ByteArray := method_14_code
def yL_isTold : MethodName := ⟨RL, "isTold", "(LDotRuns;LDotRunsLaw$Page;LDotRunsLaw$Told;)Z"⟩
abbrev cL_told : ByteArray := method_15_code
def yL_told : MethodName := ⟨RL, "told", "([Z)Ljava/lang/String;"⟩
abbrev cL_feed : ByteArray := method_16_code
def yL_feed : MethodName := ⟨RL, "feed", "(LDotRuns;Ljava/lang/String;)V"⟩
abbrev cL_drawnRow : ByteArray := method_17_code
def yL_drawnRow : MethodName := ⟨RL, "drawnRow", "(LDotRunsLaw$Told;[Z)[Z"⟩
abbrev cL_law : ByteArray := code
def yL_law : MethodName := ⟨RL, "law", "([I)Z"⟩
abbrev vwCl : List vw_C := [(RJ0, TJ0, 4), (RJ4, TJ4, 4), (RJ6, TJ6, 1), (RJx35411, TJx35411, 4), (RJx4a65c, TJx4a65c, 3), (RX0, TX0, 7), (RX1, TX1, 3), (RX2, TX2, 5), (RX3, TX3, 5), (RX4, TX4, 8), (RX5, TX5, 16), (RX6, TX6, 5), (RX7, TX7, 8), (RX8, TX8, 4), (RX9, TX9, 13), (RX10, TX10, 2)]
