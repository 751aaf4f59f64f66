theorem twp0 : Cond.selects "DotRuns$Tokens" ⟨"DotRuns$Tokens", "byteAt", "(I)I"⟩ ⟨"DotRuns$Tokens", "byteAt", "(I)I"⟩ ∈ TW := tw_p 0 (by decide +kernel) rfl
theorem twp1 : Cond.selects "DotRuns$Parser" ⟨"DotRuns$Parser", "readWide", "()Z"⟩ ⟨"DotRuns$Parser", "readWide", "()Z"⟩ ∈ TW := tw_p 1 (by decide +kernel) rfl
theorem twp2 : Cond.selects "DotRuns$Parser" ⟨"DotRuns$Parser", "needNumber", "(II)Z"⟩ ⟨"DotRuns$Parser", "needNumber", "(II)Z"⟩ ∈ TW := tw_p 2 (by decide +kernel) rfl
theorem twp3 : Cond.selects "DotRuns$Parser" ⟨"DotRuns$Parser", "failHere", "(I)Z"⟩ ⟨"DotRuns$Parser", "failHere", "(I)Z"⟩ ∈ TW := tw_p 3 (by decide +kernel) rfl
theorem twp4 : Cond.selects "DotRuns$Parser" ⟨"DotRuns$Parser", "readSemicolon", "()Z"⟩ ⟨"DotRuns$Parser", "readSemicolon", "()Z"⟩ ∈ TW := tw_p 4 (by decide +kernel) rfl
theorem twp5 : Cond.selects "DotRuns$Parser" ⟨"DotRuns$Parser", "readStatement", "()Z"⟩ ⟨"DotRuns$Parser", "readStatement", "()Z"⟩ ∈ TW := tw_p 5 (by decide +kernel) rfl
theorem twp6 : Cond.selects "DotRuns$Parser" ⟨"DotRuns$Parser", "readSet", "()Z"⟩ ⟨"DotRuns$Parser", "readSet", "()Z"⟩ ∈ TW := tw_p 6 (by decide +kernel) rfl
theorem twp7 : Cond.selects "DotRuns$Parser" ⟨"DotRuns$Parser", "readLoss", "()Z"⟩ ⟨"DotRuns$Parser", "readLoss", "()Z"⟩ ∈ TW := tw_p 7 (by decide +kernel) rfl
theorem twp8 : Cond.selects "DotRuns$Parser" ⟨"DotRuns$Parser", "readRow", "()Z"⟩ ⟨"DotRuns$Parser", "readRow", "()Z"⟩ ∈ TW := tw_p 8 (by decide +kernel) rfl
theorem twp9 : Cond.selects "DotRuns$Parser" ⟨"DotRuns$Parser", "readAlone", "()Z"⟩ ⟨"DotRuns$Parser", "readAlone", "()Z"⟩ ∈ TW := tw_p 9 (by decide +kernel) rfl
theorem twp10 : Cond.selects "DotRuns$Parser" ⟨"DotRuns$Parser", "endCode", "(ZJ)Z"⟩ ⟨"DotRuns$Parser", "endCode", "(ZJ)Z"⟩ ∈ TW := tw_p 10 (by decide +kernel) rfl
theorem twp11 : Cond.selects "DotRuns$Parser" ⟨"DotRuns$Parser", "readAbove", "()Z"⟩ ⟨"DotRuns$Parser", "readAbove", "()Z"⟩ ∈ TW := tw_p 11 (by decide +kernel) rfl
theorem twp12 : Cond.selects "DotRuns$Parser" ⟨"DotRuns$Parser", "readPass", "()Z"⟩ ⟨"DotRuns$Parser", "readPass", "()Z"⟩ ∈ TW := tw_p 12 (by decide +kernel) rfl
theorem twp13 : Cond.selects "DotRuns$Reading" ⟨"DotRuns$Reading", "goTo", "(IZ)Z"⟩ ⟨"DotRuns$Reading", "goTo", "(IZ)Z"⟩ ∈ TW := tw_p 13 (by decide +kernel) rfl
theorem twp14 : Cond.selects "DotRuns$Parser" ⟨"DotRuns$Parser", "needRead", "(ZI)Z"⟩ ⟨"DotRuns$Parser", "needRead", "(ZI)Z"⟩ ∈ TW := tw_p 14 (by decide +kernel) rfl
theorem twp15 : Cond.selects "DotRuns$Parser" ⟨"DotRuns$Parser", "readVertical", "()Z"⟩ ⟨"DotRuns$Parser", "readVertical", "()Z"⟩ ∈ TW := tw_p 15 (by decide +kernel) rfl
theorem twp16 : Cond.selects "DotRuns$Parser" ⟨"DotRuns$Parser", "readHorizontal", "()Z"⟩ ⟨"DotRuns$Parser", "readHorizontal", "()Z"⟩ ∈ TW := tw_p 16 (by decide +kernel) rfl
theorem twp17 : Cond.selects "DotRuns" ⟨"DotRuns", "needLine", "(I)V"⟩ ⟨"DotRuns", "needLine", "(I)V"⟩ ∈ TW := tw_p 17 (by decide +kernel) rfl
theorem twp19 : Cond.selects "DotRuns" ⟨"DotRuns", "needSpan", "(II)V"⟩ ⟨"DotRuns", "needSpan", "(II)V"⟩ ∈ TW := tw_p 19 (by decide +kernel) rfl
theorem twp20 : Cond.selects "DotRuns" ⟨"DotRuns", "needRoom", "()V"⟩ ⟨"DotRuns", "needRoom", "()V"⟩ ∈ TW := tw_p 20 (by decide +kernel) rfl
theorem twp24 : Cond.selects "DotRuns" ⟨"DotRuns", "blackDots", "()I"⟩ ⟨"DotRuns", "blackDots", "()I"⟩ ∈ TW := tw_p 24 (by decide +kernel) rfl
theorem twp25 : Cond.selects "DotRuns" ⟨"DotRuns", "allChanges", "()I"⟩ ⟨"DotRuns", "allChanges", "()I"⟩ ∈ TW := tw_p 25 (by decide +kernel) rfl
theorem twp26 : Cond.selects "DotRuns" ⟨"DotRuns", "marks", "()I"⟩ ⟨"DotRuns", "marks", "()I"⟩ ∈ TW := tw_p 26 (by decide +kernel) rfl
theorem twp27 : Cond.selects "DotRuns" ⟨"DotRuns", "isMark", "(I)Z"⟩ ⟨"DotRuns", "isMark", "(I)Z"⟩ ∈ TW := tw_p 27 (by decide +kernel) rfl
theorem twp28 : Cond.selects "DotRuns" ⟨"DotRuns", "codeLine", "(I)V"⟩ ⟨"DotRuns", "codeLine", "(I)V"⟩ ∈ TW := tw_p 28 (by decide +kernel) rfl
theorem twp29 : Cond.selects "DotRuns$Code" ⟨"DotRuns$Code", "addMode", "(JI)V"⟩ ⟨"DotRuns$Code", "addMode", "(JI)V"⟩ ∈ TW := tw_p 29 (by decide +kernel) rfl
theorem twp30 : Cond.selects "DotRuns$Code" ⟨"DotRuns$Code", "putMode", "(IIII)V"⟩ ⟨"DotRuns$Code", "putMode", "(IIII)V"⟩ ∈ TW := tw_p 30 (by decide +kernel) rfl
theorem twp31 : Cond.selects "DotRuns" ⟨"DotRuns", "linesAsAbove", "()I"⟩ ⟨"DotRuns", "linesAsAbove", "()I"⟩ ∈ TW := tw_p 31 (by decide +kernel) rfl
theorem twp32 : Cond.selects "DotRuns" ⟨"DotRuns", "needDot", "(II)V"⟩ ⟨"DotRuns", "needDot", "(II)V"⟩ ∈ TW := tw_p 32 (by decide +kernel) rfl
theorem twp33 : Cond.selects "DotRuns" ⟨"DotRuns", "latestMark", "(I)I"⟩ ⟨"DotRuns", "latestMark", "(I)I"⟩ ∈ TW := tw_p 33 (by decide +kernel) rfl
theorem twp34 : Cond.selects "DotRuns" ⟨"DotRuns", "needPlace", "(II)V"⟩ ⟨"DotRuns", "needPlace", "(II)V"⟩ ∈ TW := tw_p 34 (by decide +kernel) rfl
theorem twp35 : Cond.selects "DotRuns$Sending" ⟨"DotRuns$Sending", "clear", "()V"⟩ ⟨"DotRuns$Sending", "clear", "()V"⟩ ∈ TW := tw_p 35 (by decide +kernel) rfl
theorem twp36 : Cond.selects "DotRuns$Sending" ⟨"DotRuns$Sending", "sendOne", "(LDotRuns$Page;I)I"⟩ ⟨"DotRuns$Sending", "sendOne", "(LDotRuns$Page;I)I"⟩ ∈ TW := tw_p 36 (by decide +kernel) rfl
theorem twp37 : Cond.selects "DotRuns$Sending" ⟨"DotRuns$Sending", "isSentAlone", "(LDotRuns$Page;I)Z"⟩ ⟨"DotRuns$Sending", "isSentAlone", "(LDotRuns$Page;I)Z"⟩ ∈ TW := tw_p 37 (by decide +kernel) rfl
theorem twp38 : Cond.selects "DotRuns$Sending" ⟨"DotRuns$Sending", "readByAbove", "(LDotRuns$Page;I)J"⟩ ⟨"DotRuns$Sending", "readByAbove", "(LDotRuns$Page;I)J"⟩ ∈ TW := tw_p 38 (by decide +kernel) rfl
theorem twp39 : Cond.selects "DotRuns$Sending" ⟨"DotRuns$Sending", "rowAbove", "(I)J"⟩ ⟨"DotRuns$Sending", "rowAbove", "(I)J"⟩ ∈ TW := tw_p 39 (by decide +kernel) rfl
theorem twp40 : Cond.selects "DotRuns$Sending" ⟨"DotRuns$Sending", "stepBack", "(LDotRuns$Page;I)I"⟩ ⟨"DotRuns$Sending", "stepBack", "(LDotRuns$Page;I)I"⟩ ∈ TW := tw_p 40 (by decide +kernel) rfl
theorem tw2 : Jvm.Cond.initialized "DotRuns" ∈ TW := tw_t 2 (by decide +kernel) rfl
theorem tw3 : Jvm.Cond.initialized "DotRuns$Page" ∈ TW := tw_t 3 (by decide +kernel) rfl
theorem tw4 : Jvm.Cond.initialized "DotRuns$History" ∈ TW := tw_t 4 (by decide +kernel) rfl
theorem tw5 : Jvm.Cond.initialized "DotRuns$Parser" ∈ TW := tw_t 5 (by decide +kernel) rfl
theorem tw6 : Jvm.Cond.initialized "DotRuns$Tokens" ∈ TW := tw_t 6 (by decide +kernel) rfl
theorem tw7 : Jvm.Cond.initialized "DotRuns$Reading" ∈ TW := tw_t 7 (by decide +kernel) rfl
theorem tw8 : Jvm.Cond.initialized "DotRuns$Code" ∈ TW := tw_t 8 (by decide +kernel) rfl
theorem tw9 : Jvm.Cond.initialized "DotRuns$Sending" ∈ TW := tw_t 9 (by decide +kernel) rfl
theorem tw16 : Jvm.Cond.initialized "java/lang/String" ∈ TW := tw_t 16 (by decide +kernel) rfl
theorem tw19 : Jvm.Cond.initialized "java/lang/Math" ∈ TW := tw_t 19 (by decide +kernel) rfl
theorem tw22 : Jvm.Cond.initialized "jdk/internal/util/Preconditions" ∈ TW := tw_t 22 (by decide +kernel) rfl
theorem tw23 : Jvm.Cond.initialized "java/lang/StringLatin1" ∈ TW := tw_t 23 (by decide +kernel) rfl
theorem tw29 : Jvm.Cond.initialized "java/lang/IllegalArgumentException" ∈ TW := tw_t 29 (by decide +kernel) rfl
theorem tw30 : Jvm.Cond.initialized "java/lang/IllegalStateException" ∈ TW := tw_t 30 (by decide +kernel) rfl
theorem tw31 : Jvm.Cond.initialized "java/lang/Long" ∈ TW := tw_t 31 (by decide +kernel) rfl
theorem tw32 : Jvm.Cond.initialized "java/lang/IndexOutOfBoundsException" ∈ TW := tw_t 32 (by decide +kernel) rfl
theorem tw42 : Jvm.Cond.methodLink "DotRuns" (1 : Nat) ({ cls := "java/lang/Object", name := "<init>", desc := "()V" } : Jvm.MethodName) ∈ TW := tw_t 42 (by decide +kernel) rfl
theorem tw43 : Jvm.Cond.instanceMethod ({ cls := "java/lang/Object", name := "<init>", desc := "()V" } : Jvm.MethodName) ∈ TW := tw_t 43 (by decide +kernel) rfl
theorem tw44 : Jvm.Cond.code ({ cls := "java/lang/Object", name := "<init>", desc := "()V" } : Jvm.MethodName) object_method_1_code (1 : Nat) (Option.none : Option Jvm.ClassFile.FieldType) ∈ TW := tw_t 44 (by decide +kernel) rfl
theorem tw45 : Jvm.Cond.classLink "DotRuns" (7 : Nat) "DotRuns$Page" ∈ TW := tw_t 45 (by decide +kernel) rfl
theorem tw46 : Jvm.Cond.instantiable "DotRuns$Page" (5 : Nat) ∈ TW := tw_t 46 (by decide +kernel) rfl
theorem tw47 : Jvm.Cond.methodLink "DotRuns" (9 : Nat) ({ cls := "DotRuns$Page", name := "<init>", desc := "()V" } : Jvm.MethodName) ∈ TW := tw_t 47 (by decide +kernel) rfl
theorem tw48 : Jvm.Cond.instanceMethod ({ cls := "DotRuns$Page", name := "<init>", desc := "()V" } : Jvm.MethodName) ∈ TW := tw_t 48 (by decide +kernel) rfl
theorem tw49 : Jvm.Cond.code ({ cls := "DotRuns$Page", name := "<init>", desc := "()V" } : Jvm.MethodName) prog_4_method_1_code (2 : Nat) (Option.none : Option Jvm.ClassFile.FieldType) ∈ TW := tw_t 49 (by decide +kernel) rfl
theorem tw50 : Jvm.Cond.methodLink "DotRuns$Page" (3 : Nat) ({ cls := "java/lang/Object", name := "<init>", desc := "()V" } : Jvm.MethodName) ∈ TW := tw_t 50 (by decide +kernel) rfl
theorem tw53 : Jvm.Cond.fieldLink "DotRuns$Page" (22 : Nat) "DotRuns$Page" "width" "I" ∈ TW := tw_t 53 (by decide +kernel) rfl
theorem tw54 : Jvm.Cond.fieldLink "DotRuns$Sending" (64 : Nat) "DotRuns$Page" "width" "I" ∈ TW := tw_t 54 (by decide +kernel) rfl
theorem tw55 : Jvm.Cond.fieldLink "DotRuns$Parser" (82 : Nat) "DotRuns$Page" "width" "I" ∈ TW := tw_t 55 (by decide +kernel) rfl
theorem tw56 : Jvm.Cond.fieldLink "DotRuns" (108 : Nat) "DotRuns$Page" "width" "I" ∈ TW := tw_t 56 (by decide +kernel) rfl
theorem tw57 : Jvm.Cond.fieldLink "DotRuns$Page" (26 : Nat) "DotRuns$Page" "lines" "I" ∈ TW := tw_t 57 (by decide +kernel) rfl
theorem tw58 : Jvm.Cond.fieldLink "DotRuns$Sending" (57 : Nat) "DotRuns$Page" "lines" "I" ∈ TW := tw_t 58 (by decide +kernel) rfl
theorem tw59 : Jvm.Cond.fieldLink "DotRuns" (93 : Nat) "DotRuns$Page" "lines" "I" ∈ TW := tw_t 59 (by decide +kernel) rfl
theorem tw60 : Jvm.Cond.fieldLink "DotRuns$Parser" (104 : Nat) "DotRuns$Page" "lines" "I" ∈ TW := tw_t 60 (by decide +kernel) rfl
theorem tw61 : Jvm.Cond.fieldLink "DotRuns$Page" (9 : Nat) "DotRuns$Page" "rows" "[J" ∈ TW := tw_t 61 (by decide +kernel) rfl
theorem tw62 : Jvm.Cond.fieldLink "DotRuns$Page" (15 : Nat) "DotRuns$Page" "losses" "[I" ∈ TW := tw_t 62 (by decide +kernel) rfl
theorem tw63 : Jvm.Cond.fieldLink "DotRuns$Sending" (56 : Nat) "DotRuns$Page" "losses" "[I" ∈ TW := tw_t 63 (by decide +kernel) rfl
theorem tw64 : Jvm.Cond.fieldLink "DotRuns" (172 : Nat) "DotRuns$Page" "losses" "[I" ∈ TW := tw_t 64 (by decide +kernel) rfl
theorem tw65 : Jvm.Cond.fieldLink "DotRuns$Parser" (126 : Nat) "DotRuns$Page" "losses" "[I" ∈ TW := tw_t 65 (by decide +kernel) rfl
theorem tw66 : Jvm.Cond.fieldLink "DotRuns$Page" (19 : Nat) "DotRuns$Page" "settings" "[I" ∈ TW := tw_t 66 (by decide +kernel) rfl
theorem tw67 : Jvm.Cond.fieldLink "DotRuns$Sending" (44 : Nat) "DotRuns$Page" "settings" "[I" ∈ TW := tw_t 67 (by decide +kernel) rfl
theorem tw68 : Jvm.Cond.fieldLink "DotRuns" (104 : Nat) "DotRuns$Page" "settings" "[I" ∈ TW := tw_t 68 (by decide +kernel) rfl
theorem tw69 : Jvm.Cond.fieldLink "DotRuns$Parser" (123 : Nat) "DotRuns$Page" "settings" "[I" ∈ TW := tw_t 69 (by decide +kernel) rfl
theorem tw81 : Jvm.Cond.arrayClass Jvm.ClassFile.FieldType.long ∈ TW := tw_t 81 (by decide +kernel) rfl
theorem tw82 : Jvm.Cond.arrayClass Jvm.ClassFile.FieldType.int ∈ TW := tw_t 82 (by decide +kernel) rfl
theorem tw83 : Jvm.Cond.classLink "DotRuns" (16 : Nat) "DotRuns$History" ∈ TW := tw_t 83 (by decide +kernel) rfl
theorem tw84 : Jvm.Cond.instantiable "DotRuns$History" (3 : Nat) ∈ TW := tw_t 84 (by decide +kernel) rfl
theorem tw85 : Jvm.Cond.methodLink "DotRuns" (18 : Nat) ({ cls := "DotRuns$History", name := "<init>", desc := "()V" } : Jvm.MethodName) ∈ TW := tw_t 85 (by decide +kernel) rfl
theorem tw86 : Jvm.Cond.instanceMethod ({ cls := "DotRuns$History", name := "<init>", desc := "()V" } : Jvm.MethodName) ∈ TW := tw_t 86 (by decide +kernel) rfl
theorem tw87 : Jvm.Cond.code ({ cls := "DotRuns$History", name := "<init>", desc := "()V" } : Jvm.MethodName) prog_3_method_1_code (1 : Nat) (Option.none : Option Jvm.ClassFile.FieldType) ∈ TW := tw_t 87 (by decide +kernel) rfl
theorem tw88 : Jvm.Cond.methodLink "DotRuns$History" (3 : Nat) ({ cls := "java/lang/Object", name := "<init>", desc := "()V" } : Jvm.MethodName) ∈ TW := tw_t 88 (by decide +kernel) rfl
theorem tw89 : Jvm.Cond.classLink "DotRuns$History" (18 : Nat) "DotRuns$Page" ∈ TW := tw_t 89 (by decide +kernel) rfl
theorem tw91 : Jvm.Cond.fieldLink "DotRuns$History" (9 : Nat) "DotRuns$History" "held" "I" ∈ TW := tw_t 91 (by decide +kernel) rfl
theorem tw92 : Jvm.Cond.fieldLink "DotRuns" (121 : Nat) "DotRuns$History" "held" "I" ∈ TW := tw_t 92 (by decide +kernel) rfl
theorem tw93 : Jvm.Cond.fieldLink "DotRuns$History" (15 : Nat) "DotRuns$History" "next" "I" ∈ TW := tw_t 93 (by decide +kernel) rfl
theorem tw94 : Jvm.Cond.fieldLink "DotRuns$History" (20 : Nat) "DotRuns$History" "pages" "[LDotRuns$Page;" ∈ TW := tw_t 94 (by decide +kernel) rfl
theorem tw102 : Jvm.Cond.classLink "DotRuns" (27 : Nat) "DotRuns$Parser" ∈ TW := tw_t 102 (by decide +kernel) rfl
theorem tw103 : Jvm.Cond.instantiable "DotRuns$Parser" (5 : Nat) ∈ TW := tw_t 103 (by decide +kernel) rfl
theorem tw104 : Jvm.Cond.methodLink "DotRuns" (29 : Nat) ({ cls := "DotRuns$Parser", name := "<init>", desc := "()V" } : Jvm.MethodName) ∈ TW := tw_t 104 (by decide +kernel) rfl
theorem tw105 : Jvm.Cond.instanceMethod ({ cls := "DotRuns$Parser", name := "<init>", desc := "()V" } : Jvm.MethodName) ∈ TW := tw_t 105 (by decide +kernel) rfl
theorem tw106 : Jvm.Cond.code ({ cls := "DotRuns$Parser", name := "<init>", desc := "()V" } : Jvm.MethodName) prog_5_method_1_code (1 : Nat) (Option.none : Option Jvm.ClassFile.FieldType) ∈ TW := tw_t 106 (by decide +kernel) rfl
theorem tw107 : Jvm.Cond.methodLink "DotRuns$Parser" (3 : Nat) ({ cls := "java/lang/Object", name := "<init>", desc := "()V" } : Jvm.MethodName) ∈ TW := tw_t 107 (by decide +kernel) rfl
theorem tw108 : Jvm.Cond.classLink "DotRuns$Parser" (18 : Nat) "DotRuns$Tokens" ∈ TW := tw_t 108 (by decide +kernel) rfl
theorem tw109 : Jvm.Cond.instantiable "DotRuns$Tokens" (5 : Nat) ∈ TW := tw_t 109 (by decide +kernel) rfl
theorem tw110 : Jvm.Cond.methodLink "DotRuns$Parser" (20 : Nat) ({ cls := "DotRuns$Tokens", name := "<init>", desc := "()V" } : Jvm.MethodName) ∈ TW := tw_t 110 (by decide +kernel) rfl
theorem tw111 : Jvm.Cond.instanceMethod ({ cls := "DotRuns$Tokens", name := "<init>", desc := "()V" } : Jvm.MethodName) ∈ TW := tw_t 111 (by decide +kernel) rfl
theorem tw112 : Jvm.Cond.code ({ cls := "DotRuns$Tokens", name := "<init>", desc := "()V" } : Jvm.MethodName) prog_8_method_1_code (1 : Nat) (Option.none : Option Jvm.ClassFile.FieldType) ∈ TW := tw_t 112 (by decide +kernel) rfl
theorem tw113 : Jvm.Cond.methodLink "DotRuns$Tokens" (3 : Nat) ({ cls := "java/lang/Object", name := "<init>", desc := "()V" } : Jvm.MethodName) ∈ TW := tw_t 113 (by decide +kernel) rfl
theorem tw114 : Jvm.Cond.fieldLink "DotRuns$Tokens" (9 : Nat) "DotRuns$Tokens" "length" "I" ∈ TW := tw_t 114 (by decide +kernel) rfl
theorem tw115 : Jvm.Cond.fieldLink "DotRuns" (60 : Nat) "DotRuns$Tokens" "length" "I" ∈ TW := tw_t 115 (by decide +kernel) rfl
theorem tw116 : Jvm.Cond.fieldLink "DotRuns$Parser" (55 : Nat) "DotRuns$Tokens" "length" "I" ∈ TW := tw_t 116 (by decide +kernel) rfl
theorem tw117 : Jvm.Cond.fieldLink "DotRuns$Parser" (58 : Nat) "DotRuns$Tokens" "kind" "I" ∈ TW := tw_t 117 (by decide +kernel) rfl
theorem tw118 : Jvm.Cond.fieldLink "DotRuns$Tokens" (39 : Nat) "DotRuns$Tokens" "kind" "I" ∈ TW := tw_t 118 (by decide +kernel) rfl
theorem tw119 : Jvm.Cond.fieldLink "DotRuns$Parser" (64 : Nat) "DotRuns$Tokens" "start" "I" ∈ TW := tw_t 119 (by decide +kernel) rfl
theorem tw120 : Jvm.Cond.fieldLink "DotRuns$Tokens" (25 : Nat) "DotRuns$Tokens" "start" "I" ∈ TW := tw_t 120 (by decide +kernel) rfl
theorem tw121 : Jvm.Cond.fieldLink "DotRuns$Tokens" (19 : Nat) "DotRuns$Tokens" "end" "I" ∈ TW := tw_t 121 (by decide +kernel) rfl
theorem tw122 : Jvm.Cond.fieldLink "DotRuns$Tokens" (15 : Nat) "DotRuns$Tokens" "bytes" "[B" ∈ TW := tw_t 122 (by decide +kernel) rfl
theorem tw134 : Jvm.Cond.arrayClass Jvm.ClassFile.FieldType.byte ∈ TW := tw_t 134 (by decide +kernel) rfl
theorem tw135 : Jvm.Cond.classLink "DotRuns$Parser" (25 : Nat) "DotRuns$Page" ∈ TW := tw_t 135 (by decide +kernel) rfl
theorem tw136 : Jvm.Cond.methodLink "DotRuns$Parser" (27 : Nat) ({ cls := "DotRuns$Page", name := "<init>", desc := "()V" } : Jvm.MethodName) ∈ TW := tw_t 136 (by decide +kernel) rfl
theorem tw137 : Jvm.Cond.classLink "DotRuns$Parser" (32 : Nat) "DotRuns$Reading" ∈ TW := tw_t 137 (by decide +kernel) rfl
theorem tw138 : Jvm.Cond.instantiable "DotRuns$Reading" (8 : Nat) ∈ TW := tw_t 138 (by decide +kernel) rfl
theorem tw140 : Jvm.Cond.instanceMethod ({ cls := "DotRuns$Reading", name := "<init>", desc := "()V" } : Jvm.MethodName) ∈ TW := tw_t 140 (by decide +kernel) rfl
theorem tw141 : Jvm.Cond.code ({ cls := "DotRuns$Reading", name := "<init>", desc := "()V" } : Jvm.MethodName) prog_6_method_1_code (1 : Nat) (Option.none : Option Jvm.ClassFile.FieldType) ∈ TW := tw_t 141 (by decide +kernel) rfl
theorem tw142 : Jvm.Cond.methodLink "DotRuns$Reading" (1 : Nat) ({ cls := "java/lang/Object", name := "<init>", desc := "()V" } : Jvm.MethodName) ∈ TW := tw_t 142 (by decide +kernel) rfl
theorem tw143 : Jvm.Cond.fieldLink "DotRuns$Reading" (7 : Nat) "DotRuns$Reading" "width" "I" ∈ TW := tw_t 143 (by decide +kernel) rfl
theorem tw144 : Jvm.Cond.fieldLink "DotRuns$Reading" (13 : Nat) "DotRuns$Reading" "place" "I" ∈ TW := tw_t 144 (by decide +kernel) rfl
theorem tw145 : Jvm.Cond.fieldLink "DotRuns$Code" (62 : Nat) "DotRuns$Reading" "place" "I" ∈ TW := tw_t 145 (by decide +kernel) rfl
theorem tw146 : Jvm.Cond.fieldLink "DotRuns$Reading" (16 : Nat) "DotRuns$Reading" "black" "Z" ∈ TW := tw_t 146 (by decide +kernel) rfl
theorem tw147 : Jvm.Cond.fieldLink "DotRuns$Code" (52 : Nat) "DotRuns$Reading" "black" "Z" ∈ TW := tw_t 147 (by decide +kernel) rfl
theorem tw148 : Jvm.Cond.fieldLink "DotRuns$Reading" (20 : Nat) "DotRuns$Reading" "row" "J" ∈ TW := tw_t 148 (by decide +kernel) rfl
theorem tw149 : Jvm.Cond.fieldLink "DotRuns$Code" (102 : Nat) "DotRuns$Reading" "row" "J" ∈ TW := tw_t 149 (by decide +kernel) rfl
theorem tw150 : Jvm.Cond.fieldLink "DotRuns$Parser" (176 : Nat) "DotRuns$Reading" "row" "J" ∈ TW := tw_t 150 (by decide +kernel) rfl
theorem tw151 : Jvm.Cond.fieldLink "DotRuns$Reading" (24 : Nat) "DotRuns$Reading" "turn" "I" ∈ TW := tw_t 151 (by decide +kernel) rfl
theorem tw152 : Jvm.Cond.fieldLink "DotRuns$Code" (69 : Nat) "DotRuns$Reading" "turn" "I" ∈ TW := tw_t 152 (by decide +kernel) rfl
theorem tw153 : Jvm.Cond.fieldLink "DotRuns$Reading" (27 : Nat) "DotRuns$Reading" "passed" "I" ∈ TW := tw_t 153 (by decide +kernel) rfl
theorem tw154 : Jvm.Cond.fieldLink "DotRuns$Code" (72 : Nat) "DotRuns$Reading" "passed" "I" ∈ TW := tw_t 154 (by decide +kernel) rfl
theorem tw155 : Jvm.Cond.fieldLink "DotRuns$Reading" (30 : Nat) "DotRuns$Reading" "above" "J" ∈ TW := tw_t 155 (by decide +kernel) rfl
theorem tw156 : Jvm.Cond.fieldLink "DotRuns$Reading" (39 : Nat) "DotRuns$Reading" "changes" "J" ∈ TW := tw_t 156 (by decide +kernel) rfl
theorem tw174 : Jvm.Cond.fieldLink "DotRuns$Parser" (9 : Nat) "DotRuns$Parser" "faultCode" "I" ∈ TW := tw_t 174 (by decide +kernel) rfl
theorem tw175 : Jvm.Cond.fieldLink "DotRuns" (96 : Nat) "DotRuns$Parser" "faultCode" "I" ∈ TW := tw_t 175 (by decide +kernel) rfl
theorem tw176 : Jvm.Cond.fieldLink "DotRuns$Parser" (15 : Nat) "DotRuns$Parser" "faultPosition" "I" ∈ TW := tw_t 176 (by decide +kernel) rfl
theorem tw177 : Jvm.Cond.fieldLink "DotRuns$Parser" (21 : Nat) "DotRuns$Parser" "text" "LDotRuns$Tokens;" ∈ TW := tw_t 177 (by decide +kernel) rfl
theorem tw178 : Jvm.Cond.fieldLink "DotRuns" (56 : Nat) "DotRuns$Parser" "text" "LDotRuns$Tokens;" ∈ TW := tw_t 178 (by decide +kernel) rfl
theorem tw179 : Jvm.Cond.fieldLink "DotRuns$Parser" (28 : Nat) "DotRuns$Parser" "page" "LDotRuns$Page;" ∈ TW := tw_t 179 (by decide +kernel) rfl
theorem tw180 : Jvm.Cond.fieldLink "DotRuns" (85 : Nat) "DotRuns$Parser" "page" "LDotRuns$Page;" ∈ TW := tw_t 180 (by decide +kernel) rfl
theorem tw181 : Jvm.Cond.fieldLink "DotRuns$Parser" (35 : Nat) "DotRuns$Parser" "reading" "LDotRuns$Reading;" ∈ TW := tw_t 181 (by decide +kernel) rfl
theorem tw193 : Jvm.Cond.classLink "DotRuns" (34 : Nat) "DotRuns$Code" ∈ TW := tw_t 193 (by decide +kernel) rfl
theorem tw194 : Jvm.Cond.instantiable "DotRuns$Code" (7 : Nat) ∈ TW := tw_t 194 (by decide +kernel) rfl
theorem tw195 : Jvm.Cond.methodLink "DotRuns" (36 : Nat) ({ cls := "DotRuns$Code", name := "<init>", desc := "()V" } : Jvm.MethodName) ∈ TW := tw_t 195 (by decide +kernel) rfl
theorem tw196 : Jvm.Cond.instanceMethod ({ cls := "DotRuns$Code", name := "<init>", desc := "()V" } : Jvm.MethodName) ∈ TW := tw_t 196 (by decide +kernel) rfl
theorem tw197 : Jvm.Cond.code ({ cls := "DotRuns$Code", name := "<init>", desc := "()V" } : Jvm.MethodName) prog_2_method_1_code (1 : Nat) (Option.none : Option Jvm.ClassFile.FieldType) ∈ TW := tw_t 197 (by decide +kernel) rfl
theorem tw198 : Jvm.Cond.methodLink "DotRuns$Code" (3 : Nat) ({ cls := "java/lang/Object", name := "<init>", desc := "()V" } : Jvm.MethodName) ∈ TW := tw_t 198 (by decide +kernel) rfl
theorem tw199 : Jvm.Cond.classLink "DotRuns$Code" (31 : Nat) "DotRuns$Reading" ∈ TW := tw_t 199 (by decide +kernel) rfl
theorem tw201 : Jvm.Cond.fieldLink "DotRuns$Code" (9 : Nat) "DotRuns$Code" "modes" "I" ∈ TW := tw_t 201 (by decide +kernel) rfl
theorem tw202 : Jvm.Cond.fieldLink "DotRuns" (165 : Nat) "DotRuns$Code" "modes" "I" ∈ TW := tw_t 202 (by decide +kernel) rfl
theorem tw203 : Jvm.Cond.fieldLink "DotRuns$Code" (15 : Nat) "DotRuns$Code" "bits" "I" ∈ TW := tw_t 203 (by decide +kernel) rfl
theorem tw204 : Jvm.Cond.fieldLink "DotRuns$Sending" (71 : Nat) "DotRuns$Code" "bits" "I" ∈ TW := tw_t 204 (by decide +kernel) rfl
theorem tw205 : Jvm.Cond.fieldLink "DotRuns" (152 : Nat) "DotRuns$Code" "bits" "I" ∈ TW := tw_t 205 (by decide +kernel) rfl
theorem tw206 : Jvm.Cond.fieldLink "DotRuns$Code" (18 : Nat) "DotRuns$Code" "kinds" "[I" ∈ TW := tw_t 206 (by decide +kernel) rfl
theorem tw207 : Jvm.Cond.fieldLink "DotRuns$Code" (22 : Nat) "DotRuns$Code" "firsts" "[I" ∈ TW := tw_t 207 (by decide +kernel) rfl
theorem tw208 : Jvm.Cond.fieldLink "DotRuns$Code" (25 : Nat) "DotRuns$Code" "seconds" "[I" ∈ TW := tw_t 208 (by decide +kernel) rfl
theorem tw209 : Jvm.Cond.fieldLink "DotRuns$Code" (28 : Nat) "DotRuns$Code" "places" "[I" ∈ TW := tw_t 209 (by decide +kernel) rfl
theorem tw210 : Jvm.Cond.fieldLink "DotRuns$Code" (34 : Nat) "DotRuns$Code" "reading" "LDotRuns$Reading;" ∈ TW := tw_t 210 (by decide +kernel) rfl
theorem tw226 : Jvm.Cond.classLink "DotRuns" (41 : Nat) "DotRuns$Sending" ∈ TW := tw_t 226 (by decide +kernel) rfl
theorem tw227 : Jvm.Cond.instantiable "DotRuns$Sending" (16 : Nat) ∈ TW := tw_t 227 (by decide +kernel) rfl
theorem tw228 : Jvm.Cond.methodLink "DotRuns" (43 : Nat) ({ cls := "DotRuns$Sending", name := "<init>", desc := "()V" } : Jvm.MethodName) ∈ TW := tw_t 228 (by decide +kernel) rfl
theorem tw229 : Jvm.Cond.instanceMethod ({ cls := "DotRuns$Sending", name := "<init>", desc := "()V" } : Jvm.MethodName) ∈ TW := tw_t 229 (by decide +kernel) rfl
theorem tw230 : Jvm.Cond.code ({ cls := "DotRuns$Sending", name := "<init>", desc := "()V" } : Jvm.MethodName) prog_7_method_1_code (1 : Nat) (Option.none : Option Jvm.ClassFile.FieldType) ∈ TW := tw_t 230 (by decide +kernel) rfl
theorem tw231 : Jvm.Cond.methodLink "DotRuns$Sending" (3 : Nat) ({ cls := "java/lang/Object", name := "<init>", desc := "()V" } : Jvm.MethodName) ∈ TW := tw_t 231 (by decide +kernel) rfl
theorem tw232 : Jvm.Cond.classLink "DotRuns$Sending" (37 : Nat) "DotRuns$Code" ∈ TW := tw_t 232 (by decide +kernel) rfl
theorem tw233 : Jvm.Cond.methodLink "DotRuns$Sending" (39 : Nat) ({ cls := "DotRuns$Code", name := "<init>", desc := "()V" } : Jvm.MethodName) ∈ TW := tw_t 233 (by decide +kernel) rfl
theorem tw234 : Jvm.Cond.fieldLink "DotRuns$Sending" (49 : Nat) "DotRuns$Sending" "every" "I" ∈ TW := tw_t 234 (by decide +kernel) rfl
theorem tw235 : Jvm.Cond.fieldLink "DotRuns" (314 : Nat) "DotRuns$Sending" "every" "I" ∈ TW := tw_t 235 (by decide +kernel) rfl
theorem tw236 : Jvm.Cond.fieldLink "DotRuns$Sending" (53 : Nat) "DotRuns$Sending" "steps" "I" ∈ TW := tw_t 236 (by decide +kernel) rfl
theorem tw237 : Jvm.Cond.fieldLink "DotRuns" (317 : Nat) "DotRuns$Sending" "steps" "I" ∈ TW := tw_t 237 (by decide +kernel) rfl
theorem tw238 : Jvm.Cond.fieldLink "DotRuns$Sending" (89 : Nat) "DotRuns$Sending" "bits" "I" ∈ TW := tw_t 238 (by decide +kernel) rfl
theorem tw239 : Jvm.Cond.fieldLink "DotRuns" (259 : Nat) "DotRuns$Sending" "bits" "I" ∈ TW := tw_t 239 (by decide +kernel) rfl
theorem tw240 : Jvm.Cond.fieldLink "DotRuns$Sending" (90 : Nat) "DotRuns$Sending" "sendings" "I" ∈ TW := tw_t 240 (by decide +kernel) rfl
theorem tw241 : Jvm.Cond.fieldLink "DotRuns" (260 : Nat) "DotRuns$Sending" "sendings" "I" ∈ TW := tw_t 241 (by decide +kernel) rfl
theorem tw242 : Jvm.Cond.fieldLink "DotRuns$Sending" (93 : Nat) "DotRuns$Sending" "stepsBack" "I" ∈ TW := tw_t 242 (by decide +kernel) rfl
theorem tw243 : Jvm.Cond.fieldLink "DotRuns" (263 : Nat) "DotRuns$Sending" "stepsBack" "I" ∈ TW := tw_t 243 (by decide +kernel) rfl
theorem tw244 : Jvm.Cond.fieldLink "DotRuns$Sending" (96 : Nat) "DotRuns$Sending" "lostSendings" "I" ∈ TW := tw_t 244 (by decide +kernel) rfl
theorem tw245 : Jvm.Cond.fieldLink "DotRuns" (270 : Nat) "DotRuns$Sending" "lostSendings" "I" ∈ TW := tw_t 245 (by decide +kernel) rfl
theorem tw246 : Jvm.Cond.fieldLink "DotRuns$Sending" (99 : Nat) "DotRuns$Sending" "unreadSendings" "I" ∈ TW := tw_t 246 (by decide +kernel) rfl
theorem tw247 : Jvm.Cond.fieldLink "DotRuns" (273 : Nat) "DotRuns$Sending" "unreadSendings" "I" ∈ TW := tw_t 247 (by decide +kernel) rfl
theorem tw248 : Jvm.Cond.fieldLink "DotRuns$Sending" (9 : Nat) "DotRuns$Sending" "rows" "[J" ∈ TW := tw_t 248 (by decide +kernel) rfl
theorem tw249 : Jvm.Cond.fieldLink "DotRuns" (295 : Nat) "DotRuns$Sending" "rows" "[J" ∈ TW := tw_t 249 (by decide +kernel) rfl
theorem tw250 : Jvm.Cond.fieldLink "DotRuns$Sending" (15 : Nat) "DotRuns$Sending" "states" "[I" ∈ TW := tw_t 250 (by decide +kernel) rfl
theorem tw251 : Jvm.Cond.fieldLink "DotRuns" (279 : Nat) "DotRuns$Sending" "states" "[I" ∈ TW := tw_t 251 (by decide +kernel) rfl
theorem tw252 : Jvm.Cond.fieldLink "DotRuns$Sending" (19 : Nat) "DotRuns$Sending" "timesSent" "[I" ∈ TW := tw_t 252 (by decide +kernel) rfl
theorem tw253 : Jvm.Cond.fieldLink "DotRuns" (282 : Nat) "DotRuns$Sending" "timesSent" "[I" ∈ TW := tw_t 253 (by decide +kernel) rfl
theorem tw254 : Jvm.Cond.fieldLink "DotRuns$Sending" (22 : Nat) "DotRuns$Sending" "bitsOfLine" "[I" ∈ TW := tw_t 254 (by decide +kernel) rfl
theorem tw255 : Jvm.Cond.fieldLink "DotRuns" (285 : Nat) "DotRuns$Sending" "bitsOfLine" "[I" ∈ TW := tw_t 255 (by decide +kernel) rfl
theorem tw256 : Jvm.Cond.fieldLink "DotRuns$Sending" (25 : Nat) "DotRuns$Sending" "stepsBackOf" "[I" ∈ TW := tw_t 256 (by decide +kernel) rfl
theorem tw257 : Jvm.Cond.fieldLink "DotRuns" (292 : Nat) "DotRuns$Sending" "stepsBackOf" "[I" ∈ TW := tw_t 257 (by decide +kernel) rfl
theorem tw258 : Jvm.Cond.fieldLink "DotRuns$Sending" (28 : Nat) "DotRuns$Sending" "losses" "[I" ∈ TW := tw_t 258 (by decide +kernel) rfl
theorem tw259 : Jvm.Cond.fieldLink "DotRuns$Sending" (31 : Nat) "DotRuns$Sending" "bitsAlone" "[I" ∈ TW := tw_t 259 (by decide +kernel) rfl
theorem tw260 : Jvm.Cond.fieldLink "DotRuns$Sending" (34 : Nat) "DotRuns$Sending" "bitsByAbove" "[I" ∈ TW := tw_t 260 (by decide +kernel) rfl
theorem tw261 : Jvm.Cond.fieldLink "DotRuns$Sending" (40 : Nat) "DotRuns$Sending" "code" "LDotRuns$Code;" ∈ TW := tw_t 261 (by decide +kernel) rfl
theorem tw295 : Jvm.Cond.fieldLink "DotRuns" (10 : Nat) "DotRuns" "page" "LDotRuns$Page;" ∈ TW := tw_t 295 (by decide +kernel) rfl
theorem tw296 : Jvm.Cond.fieldLink "DotRuns" (19 : Nat) "DotRuns" "history" "LDotRuns$History;" ∈ TW := tw_t 296 (by decide +kernel) rfl
theorem tw297 : Jvm.Cond.fieldLink "DotRuns" (23 : Nat) "DotRuns" "saved" "[LDotRuns$Page;" ∈ TW := tw_t 297 (by decide +kernel) rfl
theorem tw298 : Jvm.Cond.fieldLink "DotRuns" (30 : Nat) "DotRuns" "parser" "LDotRuns$Parser;" ∈ TW := tw_t 298 (by decide +kernel) rfl
theorem tw299 : Jvm.Cond.fieldLink "DotRuns" (37 : Nat) "DotRuns" "code" "LDotRuns$Code;" ∈ TW := tw_t 299 (by decide +kernel) rfl
theorem tw300 : Jvm.Cond.fieldLink "DotRuns" (44 : Nat) "DotRuns" "sending" "LDotRuns$Sending;" ∈ TW := tw_t 300 (by decide +kernel) rfl
theorem tw301 : Jvm.Cond.fieldLink "DotRuns" (48 : Nat) "DotRuns" "written" "[B" ∈ TW := tw_t 301 (by decide +kernel) rfl
theorem tw302 : Jvm.Cond.fieldLink "DotRuns" (52 : Nat) "DotRuns" "writtenLength" "I" ∈ TW := tw_t 302 (by decide +kernel) rfl
theorem tw324 : Jvm.Cond.methodLink "DotRuns" (81 : Nat) ({ cls := "DotRuns$Parser", name := "readText", desc := "()Z" } : Jvm.MethodName) ∈ TW := tw_t 324 (by decide +kernel) rfl
theorem tw325 : Jvm.Cond.instanceMethod ({ cls := "DotRuns$Parser", name := "readText", desc := "()Z" } : Jvm.MethodName) ∈ TW := tw_t 325 (by decide +kernel) rfl
theorem tw326 : Jvm.Cond.selects "DotRuns$Parser" ({ cls := "DotRuns$Parser", name := "readText", desc := "()Z" } : Jvm.MethodName) ({ cls := "DotRuns$Parser", name := "readText", desc := "()Z" } : Jvm.MethodName) ∈ TW := tw_t 326 (by decide +kernel) rfl
theorem tw327 : Jvm.Cond.code ({ cls := "DotRuns$Parser", name := "readText", desc := "()Z" } : Jvm.MethodName) prog_5_method_2_code (3 : Nat) (Option.some Jvm.ClassFile.FieldType.boolean) ∈ TW := tw_t 327 (by decide +kernel) rfl
theorem tw328 : Jvm.Cond.methodLink "DotRuns$Parser" (39 : Nat) ({ cls := "DotRuns$Page", name := "clear", desc := "()V" } : Jvm.MethodName) ∈ TW := tw_t 328 (by decide +kernel) rfl
theorem tw329 : Jvm.Cond.instanceMethod ({ cls := "DotRuns$Page", name := "clear", desc := "()V" } : Jvm.MethodName) ∈ TW := tw_t 329 (by decide +kernel) rfl
theorem tw330 : Jvm.Cond.selects "DotRuns$Page" ({ cls := "DotRuns$Page", name := "clear", desc := "()V" } : Jvm.MethodName) ({ cls := "DotRuns$Page", name := "clear", desc := "()V" } : Jvm.MethodName) ∈ TW := tw_t 330 (by decide +kernel) rfl
theorem tw331 : Jvm.Cond.code ({ cls := "DotRuns$Page", name := "clear", desc := "()V" } : Jvm.MethodName) prog_4_method_2_code (2 : Nat) (Option.none : Option Jvm.ClassFile.FieldType) ∈ TW := tw_t 331 (by decide +kernel) rfl
theorem tw332 : Jvm.Cond.methodLink "DotRuns$Parser" (42 : Nat) ({ cls := "DotRuns$Tokens", name := "begin", desc := "()V" } : Jvm.MethodName) ∈ TW := tw_t 332 (by decide +kernel) rfl
theorem tw333 : Jvm.Cond.instanceMethod ({ cls := "DotRuns$Tokens", name := "begin", desc := "()V" } : Jvm.MethodName) ∈ TW := tw_t 333 (by decide +kernel) rfl
theorem tw334 : Jvm.Cond.selects "DotRuns$Tokens" ({ cls := "DotRuns$Tokens", name := "begin", desc := "()V" } : Jvm.MethodName) ({ cls := "DotRuns$Tokens", name := "begin", desc := "()V" } : Jvm.MethodName) ∈ TW := tw_t 334 (by decide +kernel) rfl
theorem tw335 : Jvm.Cond.code ({ cls := "DotRuns$Tokens", name := "begin", desc := "()V" } : Jvm.MethodName) prog_8_method_3_code (1 : Nat) (Option.none : Option Jvm.ClassFile.FieldType) ∈ TW := tw_t 335 (by decide +kernel) rfl
theorem tw336 : Jvm.Cond.methodLink "DotRuns$Tokens" (22 : Nat) ({ cls := "DotRuns$Tokens", name := "next", desc := "()V" } : Jvm.MethodName) ∈ TW := tw_t 336 (by decide +kernel) rfl
theorem tw337 : Jvm.Cond.instanceMethod ({ cls := "DotRuns$Tokens", name := "next", desc := "()V" } : Jvm.MethodName) ∈ TW := tw_t 337 (by decide +kernel) rfl
theorem tw338 : Jvm.Cond.selects "DotRuns$Tokens" ({ cls := "DotRuns$Tokens", name := "next", desc := "()V" } : Jvm.MethodName) ({ cls := "DotRuns$Tokens", name := "next", desc := "()V" } : Jvm.MethodName) ∈ TW := tw_t 338 (by decide +kernel) rfl
theorem tw339 : Jvm.Cond.code ({ cls := "DotRuns$Tokens", name := "next", desc := "()V" } : Jvm.MethodName) prog_8_method_4_code (1 : Nat) (Option.none : Option Jvm.ClassFile.FieldType) ∈ TW := tw_t 339 (by decide +kernel) rfl
theorem tw340 : Jvm.Cond.methodLink "DotRuns$Tokens" (28 : Nat) ({ cls := "DotRuns$Tokens", name := "byteAt", desc := "(I)I" } : Jvm.MethodName) ∈ TW := tw_t 340 (by decide +kernel) rfl
theorem tw342 : Jvm.Cond.instanceMethod ({ cls := "DotRuns$Tokens", name := "byteAt", desc := "(I)I" } : Jvm.MethodName) ∈ TW := tw_t 342 (by decide +kernel) rfl
theorem tw343 : Jvm.Cond.code ({ cls := "DotRuns$Tokens", name := "byteAt", desc := "(I)I" } : Jvm.MethodName) prog_8_method_5_code (2 : Nat) (Option.some Jvm.ClassFile.FieldType.int) ∈ TW := tw_t 343 (by decide +kernel) rfl
theorem tw344 : Jvm.Cond.methodLink "DotRuns$Tokens" (32 : Nat) ({ cls := "DotRuns$Tokens", name := "isSpace", desc := "(I)Z" } : Jvm.MethodName) ∈ TW := tw_t 344 (by decide +kernel) rfl
theorem tw345 : Jvm.Cond.static ({ cls := "DotRuns$Tokens", name := "isSpace", desc := "(I)Z" } : Jvm.MethodName) ∈ TW := tw_t 345 (by decide +kernel) rfl
theorem tw346 : Jvm.Cond.code ({ cls := "DotRuns$Tokens", name := "isSpace", desc := "(I)Z" } : Jvm.MethodName) prog_8_method_6_code (1 : Nat) (Option.some Jvm.ClassFile.FieldType.boolean) ∈ TW := tw_t 346 (by decide +kernel) rfl
theorem tw347 : Jvm.Cond.methodLink "DotRuns$Tokens" (36 : Nat) ({ cls := "DotRuns$Tokens", name := "kindOf", desc := "(I)I" } : Jvm.MethodName) ∈ TW := tw_t 347 (by decide +kernel) rfl
theorem tw348 : Jvm.Cond.static ({ cls := "DotRuns$Tokens", name := "kindOf", desc := "(I)I" } : Jvm.MethodName) ∈ TW := tw_t 348 (by decide +kernel) rfl
theorem tw349 : Jvm.Cond.code ({ cls := "DotRuns$Tokens", name := "kindOf", desc := "(I)I" } : Jvm.MethodName) prog_8_method_7_code (1 : Nat) (Option.some Jvm.ClassFile.FieldType.int) ∈ TW := tw_t 349 (by decide +kernel) rfl
theorem tw351 : Jvm.Cond.methodLink "DotRuns$Parser" (47 : Nat) ({ cls := "DotRuns$Tokens", name := "isWord", desc := "(Ljava/lang/String;)Z" } : Jvm.MethodName) ∈ TW := tw_t 351 (by decide +kernel) rfl
theorem tw352 : Jvm.Cond.instanceMethod ({ cls := "DotRuns$Tokens", name := "isWord", desc := "(Ljava/lang/String;)Z" } : Jvm.MethodName) ∈ TW := tw_t 352 (by decide +kernel) rfl
theorem tw353 : Jvm.Cond.selects "DotRuns$Tokens" ({ cls := "DotRuns$Tokens", name := "isWord", desc := "(Ljava/lang/String;)Z" } : Jvm.MethodName) ({ cls := "DotRuns$Tokens", name := "isWord", desc := "(Ljava/lang/String;)Z" } : Jvm.MethodName) ∈ TW := tw_t 353 (by decide +kernel) rfl
theorem tw354 : Jvm.Cond.code ({ cls := "DotRuns$Tokens", name := "isWord", desc := "(Ljava/lang/String;)Z" } : Jvm.MethodName) prog_8_method_8_code (3 : Nat) (Option.some Jvm.ClassFile.FieldType.boolean) ∈ TW := tw_t 354 (by decide +kernel) rfl
theorem tw355 : Jvm.Cond.methodLink "DotRuns$Tokens" (42 : Nat) ({ cls := "java/lang/String", name := "length", desc := "()I" } : Jvm.MethodName) ∈ TW := tw_t 355 (by decide +kernel) rfl
theorem tw356 : Jvm.Cond.instanceMethod ({ cls := "java/lang/String", name := "length", desc := "()I" } : Jvm.MethodName) ∈ TW := tw_t 356 (by decide +kernel) rfl
theorem tw357 : Jvm.Cond.selects "java/lang/String" ({ cls := "java/lang/String", name := "length", desc := "()I" } : Jvm.MethodName) ({ cls := "java/lang/String", name := "length", desc := "()I" } : Jvm.MethodName) ∈ TW := tw_t 357 (by decide +kernel) rfl
theorem tw358 : Jvm.Cond.code ({ cls := "java/lang/String", name := "length", desc := "()I" } : Jvm.MethodName) prog_31_method_54_code (1 : Nat) (Option.some Jvm.ClassFile.FieldType.int) ∈ TW := tw_t 358 (by decide +kernel) rfl
theorem tw359 : Jvm.Cond.methodLink "java/lang/String" (335 : Nat) ({ cls := "java/lang/String", name := "coder", desc := "()B" } : Jvm.MethodName) ∈ TW := tw_t 359 (by decide +kernel) rfl
theorem tw360 : Jvm.Cond.instanceMethod ({ cls := "java/lang/String", name := "coder", desc := "()B" } : Jvm.MethodName) ∈ TW := tw_t 360 (by decide +kernel) rfl
theorem tw361 : Jvm.Cond.selects "java/lang/String" ({ cls := "java/lang/String", name := "coder", desc := "()B" } : Jvm.MethodName) ({ cls := "java/lang/String", name := "coder", desc := "()B" } : Jvm.MethodName) ∈ TW := tw_t 361 (by decide +kernel) rfl
theorem tw362 : Jvm.Cond.code ({ cls := "java/lang/String", name := "coder", desc := "()B" } : Jvm.MethodName) prog_31_method_152_code (1 : Nat) (Option.some Jvm.ClassFile.FieldType.byte) ∈ TW := tw_t 362 (by decide +kernel) rfl
theorem tw363 : Jvm.Cond.fieldLink "java/lang/String" (38 : Nat) "java/lang/String" "COMPACT_STRINGS" "Z" ∈ TW := tw_t 363 (by decide +kernel) rfl
theorem tw365 : Jvm.Cond.methodLink "DotRuns$Tokens" (47 : Nat) ({ cls := "java/lang/String", name := "charAt", desc := "(I)C" } : Jvm.MethodName) ∈ TW := tw_t 365 (by decide +kernel) rfl
theorem tw366 : Jvm.Cond.instanceMethod ({ cls := "java/lang/String", name := "charAt", desc := "(I)C" } : Jvm.MethodName) ∈ TW := tw_t 366 (by decide +kernel) rfl
theorem tw367 : Jvm.Cond.selects "java/lang/String" ({ cls := "java/lang/String", name := "charAt", desc := "(I)C" } : Jvm.MethodName) ({ cls := "java/lang/String", name := "charAt", desc := "(I)C" } : Jvm.MethodName) ∈ TW := tw_t 367 (by decide +kernel) rfl
theorem tw368 : Jvm.Cond.code ({ cls := "java/lang/String", name := "charAt", desc := "(I)C" } : Jvm.MethodName) prog_31_method_56_code (2 : Nat) (Option.some Jvm.ClassFile.FieldType.char) ∈ TW := tw_t 368 (by decide +kernel) rfl
theorem tw369 : Jvm.Cond.methodLink "java/lang/String" (492 : Nat) ({ cls := "java/lang/String", name := "isLatin1", desc := "()Z" } : Jvm.MethodName) ∈ TW := tw_t 369 (by decide +kernel) rfl
theorem tw370 : Jvm.Cond.instanceMethod ({ cls := "java/lang/String", name := "isLatin1", desc := "()Z" } : Jvm.MethodName) ∈ TW := tw_t 370 (by decide +kernel) rfl
theorem tw371 : Jvm.Cond.selects "java/lang/String" ({ cls := "java/lang/String", name := "isLatin1", desc := "()Z" } : Jvm.MethodName) ({ cls := "java/lang/String", name := "isLatin1", desc := "()Z" } : Jvm.MethodName) ∈ TW := tw_t 371 (by decide +kernel) rfl
theorem tw372 : Jvm.Cond.code ({ cls := "java/lang/String", name := "isLatin1", desc := "()Z" } : Jvm.MethodName) prog_31_method_154_code (1 : Nat) (Option.some Jvm.ClassFile.FieldType.boolean) ∈ TW := tw_t 372 (by decide +kernel) rfl
theorem tw373 : Jvm.Cond.methodLink "java/lang/String" (495 : Nat) ({ cls := "java/lang/StringLatin1", name := "charAt", desc := "([BI)C" } : Jvm.MethodName) ∈ TW := tw_t 373 (by decide +kernel) rfl
theorem tw374 : Jvm.Cond.static ({ cls := "java/lang/StringLatin1", name := "charAt", desc := "([BI)C" } : Jvm.MethodName) ∈ TW := tw_t 374 (by decide +kernel) rfl
theorem tw375 : Jvm.Cond.code ({ cls := "java/lang/StringLatin1", name := "charAt", desc := "([BI)C" } : Jvm.MethodName) prog_33_method_2_code (2 : Nat) (Option.some Jvm.ClassFile.FieldType.char) ∈ TW := tw_t 375 (by decide +kernel) rfl
theorem tw376 : Jvm.Cond.methodLink "java/lang/StringLatin1" (9 : Nat) ({ cls := "java/lang/String", name := "checkIndex", desc := "(II)V" } : Jvm.MethodName) ∈ TW := tw_t 376 (by decide +kernel) rfl
theorem tw377 : Jvm.Cond.static ({ cls := "java/lang/String", name := "checkIndex", desc := "(II)V" } : Jvm.MethodName) ∈ TW := tw_t 377 (by decide +kernel) rfl
theorem tw378 : Jvm.Cond.code ({ cls := "java/lang/String", name := "checkIndex", desc := "(II)V" } : Jvm.MethodName) prog_31_method_155_code (2 : Nat) (Option.none : Option Jvm.ClassFile.FieldType) ∈ TW := tw_t 378 (by decide +kernel) rfl
theorem tw379 : Jvm.Cond.fieldLink "java/lang/String" (1053 : Nat) "jdk/internal/util/Preconditions" "SIOOBE_FORMATTER" "Ljava/util/function/BiFunction;" ∈ TW := tw_t 379 (by decide +kernel) rfl
theorem tw381 : Jvm.Cond.methodLink "java/lang/String" (1059 : Nat) ({ cls := "jdk/internal/util/Preconditions", name := "checkIndex", desc := "(IILjava/util/function/BiFunction;)I" } : Jvm.MethodName) ∈ TW := tw_t 381 (by decide +kernel) rfl
theorem tw382 : Jvm.Cond.static ({ cls := "jdk/internal/util/Preconditions", name := "checkIndex", desc := "(IILjava/util/function/BiFunction;)I" } : Jvm.MethodName) ∈ TW := tw_t 382 (by decide +kernel) rfl
theorem tw383 : Jvm.Cond.code ({ cls := "jdk/internal/util/Preconditions", name := "checkIndex", desc := "(IILjava/util/function/BiFunction;)I" } : Jvm.MethodName) prog_51_method_11_code (3 : Nat) (Option.some Jvm.ClassFile.FieldType.int) ∈ TW := tw_t 383 (by decide +kernel) rfl
theorem tw403 : Jvm.Cond.methodLink "DotRuns$Parser" (51 : Nat) ({ cls := "DotRuns$Parser", name := "readWide", desc := "()Z" } : Jvm.MethodName) ∈ TW := tw_t 403 (by decide +kernel) rfl
theorem tw405 : Jvm.Cond.instanceMethod ({ cls := "DotRuns$Parser", name := "readWide", desc := "()Z" } : Jvm.MethodName) ∈ TW := tw_t 405 (by decide +kernel) rfl
theorem tw406 : Jvm.Cond.code ({ cls := "DotRuns$Parser", name := "readWide", desc := "()Z" } : Jvm.MethodName) prog_5_method_7_code (1 : Nat) (Option.some Jvm.ClassFile.FieldType.boolean) ∈ TW := tw_t 406 (by decide +kernel) rfl
theorem tw407 : Jvm.Cond.methodLink "DotRuns$Parser" (75 : Nat) ({ cls := "DotRuns$Tokens", name := "next", desc := "()V" } : Jvm.MethodName) ∈ TW := tw_t 407 (by decide +kernel) rfl
theorem tw408 : Jvm.Cond.methodLink "DotRuns$Parser" (78 : Nat) ({ cls := "DotRuns$Parser", name := "needNumber", desc := "(II)Z" } : Jvm.MethodName) ∈ TW := tw_t 408 (by decide +kernel) rfl
theorem tw410 : Jvm.Cond.instanceMethod ({ cls := "DotRuns$Parser", name := "needNumber", desc := "(II)Z" } : Jvm.MethodName) ∈ TW := tw_t 410 (by decide +kernel) rfl
theorem tw411 : Jvm.Cond.code ({ cls := "DotRuns$Parser", name := "needNumber", desc := "(II)Z" } : Jvm.MethodName) prog_5_method_5_code (4 : Nat) (Option.some Jvm.ClassFile.FieldType.boolean) ∈ TW := tw_t 411 (by decide +kernel) rfl
theorem tw412 : Jvm.Cond.methodLink "DotRuns$Parser" (67 : Nat) ({ cls := "DotRuns$Parser", name := "failHere", desc := "(I)Z" } : Jvm.MethodName) ∈ TW := tw_t 412 (by decide +kernel) rfl
theorem tw414 : Jvm.Cond.instanceMethod ({ cls := "DotRuns$Parser", name := "failHere", desc := "(I)Z" } : Jvm.MethodName) ∈ TW := tw_t 414 (by decide +kernel) rfl
theorem tw415 : Jvm.Cond.code ({ cls := "DotRuns$Parser", name := "failHere", desc := "(I)Z" } : Jvm.MethodName) prog_5_method_3_code (2 : Nat) (Option.some Jvm.ClassFile.FieldType.boolean) ∈ TW := tw_t 415 (by decide +kernel) rfl
theorem tw416 : Jvm.Cond.methodLink "DotRuns$Parser" (71 : Nat) ({ cls := "DotRuns$Tokens", name := "number", desc := "()I" } : Jvm.MethodName) ∈ TW := tw_t 416 (by decide +kernel) rfl
theorem tw417 : Jvm.Cond.instanceMethod ({ cls := "DotRuns$Tokens", name := "number", desc := "()I" } : Jvm.MethodName) ∈ TW := tw_t 417 (by decide +kernel) rfl
theorem tw418 : Jvm.Cond.selects "DotRuns$Tokens" ({ cls := "DotRuns$Tokens", name := "number", desc := "()I" } : Jvm.MethodName) ({ cls := "DotRuns$Tokens", name := "number", desc := "()I" } : Jvm.MethodName) ∈ TW := tw_t 418 (by decide +kernel) rfl
theorem tw419 : Jvm.Cond.code ({ cls := "DotRuns$Tokens", name := "number", desc := "()I" } : Jvm.MethodName) prog_8_method_9_code (3 : Nat) (Option.some Jvm.ClassFile.FieldType.int) ∈ TW := tw_t 419 (by decide +kernel) rfl
theorem tw420 : Jvm.Cond.methodLink "DotRuns$Tokens" (51 : Nat) ({ cls := "java/lang/Math", name := "min", desc := "(II)I" } : Jvm.MethodName) ∈ TW := tw_t 420 (by decide +kernel) rfl
theorem tw421 : Jvm.Cond.static ({ cls := "java/lang/Math", name := "min", desc := "(II)I" } : Jvm.MethodName) ∈ TW := tw_t 421 (by decide +kernel) rfl
theorem tw422 : Jvm.Cond.code ({ cls := "java/lang/Math", name := "min", desc := "(II)I" } : Jvm.MethodName) prog_28_method_69_code (2 : Nat) (Option.some Jvm.ClassFile.FieldType.int) ∈ TW := tw_t 422 (by decide +kernel) rfl
theorem tw423 : Jvm.Cond.methodLink "DotRuns$Parser" (85 : Nat) ({ cls := "DotRuns$Parser", name := "readSemicolon", desc := "()Z" } : Jvm.MethodName) ∈ TW := tw_t 423 (by decide +kernel) rfl
theorem tw425 : Jvm.Cond.instanceMethod ({ cls := "DotRuns$Parser", name := "readSemicolon", desc := "()Z" } : Jvm.MethodName) ∈ TW := tw_t 425 (by decide +kernel) rfl
theorem tw426 : Jvm.Cond.code ({ cls := "DotRuns$Parser", name := "readSemicolon", desc := "()Z" } : Jvm.MethodName) prog_5_method_6_code (1 : Nat) (Option.some Jvm.ClassFile.FieldType.boolean) ∈ TW := tw_t 426 (by decide +kernel) rfl
theorem tw427 : Jvm.Cond.methodLink "DotRuns$Parser" (61 : Nat) ({ cls := "DotRuns$Parser", name := "readStatement", desc := "()Z" } : Jvm.MethodName) ∈ TW := tw_t 427 (by decide +kernel) rfl
theorem tw429 : Jvm.Cond.instanceMethod ({ cls := "DotRuns$Parser", name := "readStatement", desc := "()Z" } : Jvm.MethodName) ∈ TW := tw_t 429 (by decide +kernel) rfl
theorem tw430 : Jvm.Cond.code ({ cls := "DotRuns$Parser", name := "readStatement", desc := "()Z" } : Jvm.MethodName) prog_5_method_8_code (3 : Nat) (Option.some Jvm.ClassFile.FieldType.boolean) ∈ TW := tw_t 430 (by decide +kernel) rfl
theorem tw432 : Jvm.Cond.methodLink "DotRuns$Parser" (90 : Nat) ({ cls := "DotRuns$Parser", name := "readSet", desc := "()Z" } : Jvm.MethodName) ∈ TW := tw_t 432 (by decide +kernel) rfl
theorem tw434 : Jvm.Cond.instanceMethod ({ cls := "DotRuns$Parser", name := "readSet", desc := "()Z" } : Jvm.MethodName) ∈ TW := tw_t 434 (by decide +kernel) rfl
theorem tw435 : Jvm.Cond.code ({ cls := "DotRuns$Parser", name := "readSet", desc := "()Z" } : Jvm.MethodName) prog_5_method_9_code (2 : Nat) (Option.some Jvm.ClassFile.FieldType.boolean) ∈ TW := tw_t 435 (by decide +kernel) rfl
theorem tw441 : Jvm.Cond.methodLink "DotRuns$Parser" (95 : Nat) ({ cls := "DotRuns$Parser", name := "readLoss", desc := "()Z" } : Jvm.MethodName) ∈ TW := tw_t 441 (by decide +kernel) rfl
theorem tw443 : Jvm.Cond.instanceMethod ({ cls := "DotRuns$Parser", name := "readLoss", desc := "()Z" } : Jvm.MethodName) ∈ TW := tw_t 443 (by decide +kernel) rfl
theorem tw444 : Jvm.Cond.code ({ cls := "DotRuns$Parser", name := "readLoss", desc := "()Z" } : Jvm.MethodName) prog_5_method_10_code (2 : Nat) (Option.some Jvm.ClassFile.FieldType.boolean) ∈ TW := tw_t 444 (by decide +kernel) rfl
theorem tw448 : Jvm.Cond.methodLink "DotRuns$Parser" (107 : Nat) ({ cls := "DotRuns$Parser", name := "readRow", desc := "()Z" } : Jvm.MethodName) ∈ TW := tw_t 448 (by decide +kernel) rfl
theorem tw450 : Jvm.Cond.instanceMethod ({ cls := "DotRuns$Parser", name := "readRow", desc := "()Z" } : Jvm.MethodName) ∈ TW := tw_t 450 (by decide +kernel) rfl
theorem tw451 : Jvm.Cond.code ({ cls := "DotRuns$Parser", name := "readRow", desc := "()Z" } : Jvm.MethodName) prog_5_method_11_code (1 : Nat) (Option.some Jvm.ClassFile.FieldType.boolean) ∈ TW := tw_t 451 (by decide +kernel) rfl
theorem tw452 : Jvm.Cond.methodLink "DotRuns$Parser" (129 : Nat) ({ cls := "DotRuns$Tokens", name := "signs", desc := "()I" } : Jvm.MethodName) ∈ TW := tw_t 452 (by decide +kernel) rfl
theorem tw453 : Jvm.Cond.instanceMethod ({ cls := "DotRuns$Tokens", name := "signs", desc := "()I" } : Jvm.MethodName) ∈ TW := tw_t 453 (by decide +kernel) rfl
theorem tw454 : Jvm.Cond.selects "DotRuns$Tokens" ({ cls := "DotRuns$Tokens", name := "signs", desc := "()I" } : Jvm.MethodName) ({ cls := "DotRuns$Tokens", name := "signs", desc := "()I" } : Jvm.MethodName) ∈ TW := tw_t 454 (by decide +kernel) rfl
theorem tw455 : Jvm.Cond.code ({ cls := "DotRuns$Tokens", name := "signs", desc := "()I" } : Jvm.MethodName) prog_8_method_10_code (1 : Nat) (Option.some Jvm.ClassFile.FieldType.int) ∈ TW := tw_t 455 (by decide +kernel) rfl
theorem tw456 : Jvm.Cond.methodLink "DotRuns$Parser" (132 : Nat) ({ cls := "DotRuns$Tokens", name := "dots", desc := "()J" } : Jvm.MethodName) ∈ TW := tw_t 456 (by decide +kernel) rfl
theorem tw457 : Jvm.Cond.instanceMethod ({ cls := "DotRuns$Tokens", name := "dots", desc := "()J" } : Jvm.MethodName) ∈ TW := tw_t 457 (by decide +kernel) rfl
theorem tw458 : Jvm.Cond.selects "DotRuns$Tokens" ({ cls := "DotRuns$Tokens", name := "dots", desc := "()J" } : Jvm.MethodName) ({ cls := "DotRuns$Tokens", name := "dots", desc := "()J" } : Jvm.MethodName) ∈ TW := tw_t 458 (by decide +kernel) rfl
theorem tw459 : Jvm.Cond.code ({ cls := "DotRuns$Tokens", name := "dots", desc := "()J" } : Jvm.MethodName) prog_8_method_11_code (4 : Nat) (Option.some Jvm.ClassFile.FieldType.long) ∈ TW := tw_t 459 (by decide +kernel) rfl
theorem tw460 : Jvm.Cond.methodLink "DotRuns$Parser" (136 : Nat) ({ cls := "DotRuns$Page", name := "insertRow", desc := "(IJ)V" } : Jvm.MethodName) ∈ TW := tw_t 460 (by decide +kernel) rfl
theorem tw461 : Jvm.Cond.instanceMethod ({ cls := "DotRuns$Page", name := "insertRow", desc := "(IJ)V" } : Jvm.MethodName) ∈ TW := tw_t 461 (by decide +kernel) rfl
theorem tw462 : Jvm.Cond.selects "DotRuns$Page" ({ cls := "DotRuns$Page", name := "insertRow", desc := "(IJ)V" } : Jvm.MethodName) ({ cls := "DotRuns$Page", name := "insertRow", desc := "(IJ)V" } : Jvm.MethodName) ∈ TW := tw_t 462 (by decide +kernel) rfl
theorem tw463 : Jvm.Cond.code ({ cls := "DotRuns$Page", name := "insertRow", desc := "(IJ)V" } : Jvm.MethodName) prog_4_method_7_code (5 : Nat) (Option.none : Option Jvm.ClassFile.FieldType) ∈ TW := tw_t 463 (by decide +kernel) rfl
theorem tw464 : Jvm.Cond.methodLink "DotRuns$Page" (40 : Nat) ({ cls := "DotRuns$Page", name := "putRow", desc := "(IJ)V" } : Jvm.MethodName) ∈ TW := tw_t 464 (by decide +kernel) rfl
theorem tw465 : Jvm.Cond.instanceMethod ({ cls := "DotRuns$Page", name := "putRow", desc := "(IJ)V" } : Jvm.MethodName) ∈ TW := tw_t 465 (by decide +kernel) rfl
theorem tw466 : Jvm.Cond.selects "DotRuns$Page" ({ cls := "DotRuns$Page", name := "putRow", desc := "(IJ)V" } : Jvm.MethodName) ({ cls := "DotRuns$Page", name := "putRow", desc := "(IJ)V" } : Jvm.MethodName) ∈ TW := tw_t 466 (by decide +kernel) rfl
theorem tw467 : Jvm.Cond.code ({ cls := "DotRuns$Page", name := "putRow", desc := "(IJ)V" } : Jvm.MethodName) prog_4_method_6_code (4 : Nat) (Option.none : Option Jvm.ClassFile.FieldType) ∈ TW := tw_t 467 (by decide +kernel) rfl
theorem tw468 : Jvm.Cond.methodLink "DotRuns$Page" (32 : Nat) ({ cls := "DotRuns$Page", name := "hasLine", desc := "(I)Z" } : Jvm.MethodName) ∈ TW := tw_t 468 (by decide +kernel) rfl
theorem tw469 : Jvm.Cond.instanceMethod ({ cls := "DotRuns$Page", name := "hasLine", desc := "(I)Z" } : Jvm.MethodName) ∈ TW := tw_t 469 (by decide +kernel) rfl
theorem tw470 : Jvm.Cond.selects "DotRuns$Page" ({ cls := "DotRuns$Page", name := "hasLine", desc := "(I)Z" } : Jvm.MethodName) ({ cls := "DotRuns$Page", name := "hasLine", desc := "(I)Z" } : Jvm.MethodName) ∈ TW := tw_t 470 (by decide +kernel) rfl
theorem tw471 : Jvm.Cond.code ({ cls := "DotRuns$Page", name := "hasLine", desc := "(I)Z" } : Jvm.MethodName) prog_4_method_4_code (2 : Nat) (Option.some Jvm.ClassFile.FieldType.boolean) ∈ TW := tw_t 471 (by decide +kernel) rfl
theorem tw473 : Jvm.Cond.static ({ cls := "DotRuns", name := "allBlack", desc := "(I)J" } : Jvm.MethodName) ∈ TW := tw_t 473 (by decide +kernel) rfl
theorem tw474 : Jvm.Cond.code ({ cls := "DotRuns", name := "allBlack", desc := "(I)J" } : Jvm.MethodName) prog_1_method_56_code (1 : Nat) (Option.some Jvm.ClassFile.FieldType.long) ∈ TW := tw_t 474 (by decide +kernel) rfl
theorem tw475 : Jvm.Cond.methodLink "DotRuns$Parser" (110 : Nat) ({ cls := "DotRuns$Parser", name := "readAlone", desc := "()Z" } : Jvm.MethodName) ∈ TW := tw_t 475 (by decide +kernel) rfl
theorem tw477 : Jvm.Cond.instanceMethod ({ cls := "DotRuns$Parser", name := "readAlone", desc := "()Z" } : Jvm.MethodName) ∈ TW := tw_t 477 (by decide +kernel) rfl
theorem tw478 : Jvm.Cond.code ({ cls := "DotRuns$Parser", name := "readAlone", desc := "()Z" } : Jvm.MethodName) prog_5_method_12_code (8 : Nat) (Option.some Jvm.ClassFile.FieldType.boolean) ∈ TW := tw_t 478 (by decide +kernel) rfl
theorem tw480 : Jvm.Cond.static ({ cls := "DotRuns", name := "span", desc := "(II)J" } : Jvm.MethodName) ∈ TW := tw_t 480 (by decide +kernel) rfl
theorem tw481 : Jvm.Cond.code ({ cls := "DotRuns", name := "span", desc := "(II)J" } : Jvm.MethodName) prog_1_method_57_code (2 : Nat) (Option.some Jvm.ClassFile.FieldType.long) ∈ TW := tw_t 481 (by decide +kernel) rfl
theorem tw482 : Jvm.Cond.methodLink "DotRuns$Parser" (144 : Nat) ({ cls := "DotRuns$Parser", name := "endCode", desc := "(ZJ)Z" } : Jvm.MethodName) ∈ TW := tw_t 482 (by decide +kernel) rfl
theorem tw484 : Jvm.Cond.instanceMethod ({ cls := "DotRuns$Parser", name := "endCode", desc := "(ZJ)Z" } : Jvm.MethodName) ∈ TW := tw_t 484 (by decide +kernel) rfl
theorem tw485 : Jvm.Cond.code ({ cls := "DotRuns$Parser", name := "endCode", desc := "(ZJ)Z" } : Jvm.MethodName) prog_5_method_14_code (4 : Nat) (Option.some Jvm.ClassFile.FieldType.boolean) ∈ TW := tw_t 485 (by decide +kernel) rfl
theorem tw486 : Jvm.Cond.methodLink "DotRuns$Parser" (113 : Nat) ({ cls := "DotRuns$Parser", name := "readAbove", desc := "()Z" } : Jvm.MethodName) ∈ TW := tw_t 486 (by decide +kernel) rfl
theorem tw488 : Jvm.Cond.instanceMethod ({ cls := "DotRuns$Parser", name := "readAbove", desc := "()Z" } : Jvm.MethodName) ∈ TW := tw_t 488 (by decide +kernel) rfl
theorem tw489 : Jvm.Cond.code ({ cls := "DotRuns$Parser", name := "readAbove", desc := "()Z" } : Jvm.MethodName) prog_5_method_13_code (3 : Nat) (Option.some Jvm.ClassFile.FieldType.boolean) ∈ TW := tw_t 489 (by decide +kernel) rfl
theorem tw490 : Jvm.Cond.methodLink "DotRuns$Parser" (148 : Nat) ({ cls := "DotRuns$Page", name := "rowAt", desc := "(I)J" } : Jvm.MethodName) ∈ TW := tw_t 490 (by decide +kernel) rfl
theorem tw491 : Jvm.Cond.instanceMethod ({ cls := "DotRuns$Page", name := "rowAt", desc := "(I)J" } : Jvm.MethodName) ∈ TW := tw_t 491 (by decide +kernel) rfl
theorem tw492 : Jvm.Cond.selects "DotRuns$Page" ({ cls := "DotRuns$Page", name := "rowAt", desc := "(I)J" } : Jvm.MethodName) ({ cls := "DotRuns$Page", name := "rowAt", desc := "(I)J" } : Jvm.MethodName) ∈ TW := tw_t 492 (by decide +kernel) rfl
theorem tw493 : Jvm.Cond.code ({ cls := "DotRuns$Page", name := "rowAt", desc := "(I)J" } : Jvm.MethodName) prog_4_method_5_code (2 : Nat) (Option.some Jvm.ClassFile.FieldType.long) ∈ TW := tw_t 493 (by decide +kernel) rfl
theorem tw494 : Jvm.Cond.methodLink "DotRuns$Parser" (152 : Nat) ({ cls := "DotRuns$Reading", name := "begin", desc := "(JI)V" } : Jvm.MethodName) ∈ TW := tw_t 494 (by decide +kernel) rfl
theorem tw495 : Jvm.Cond.instanceMethod ({ cls := "DotRuns$Reading", name := "begin", desc := "(JI)V" } : Jvm.MethodName) ∈ TW := tw_t 495 (by decide +kernel) rfl
theorem tw496 : Jvm.Cond.selects "DotRuns$Reading" ({ cls := "DotRuns$Reading", name := "begin", desc := "(JI)V" } : Jvm.MethodName) ({ cls := "DotRuns$Reading", name := "begin", desc := "(JI)V" } : Jvm.MethodName) ∈ TW := tw_t 496 (by decide +kernel) rfl
theorem tw497 : Jvm.Cond.code ({ cls := "DotRuns$Reading", name := "begin", desc := "(JI)V" } : Jvm.MethodName) prog_6_method_2_code (4 : Nat) (Option.none : Option Jvm.ClassFile.FieldType) ∈ TW := tw_t 497 (by decide +kernel) rfl
theorem tw499 : Jvm.Cond.static ({ cls := "DotRuns", name := "changesOf", desc := "(JI)J" } : Jvm.MethodName) ∈ TW := tw_t 499 (by decide +kernel) rfl
theorem tw500 : Jvm.Cond.code ({ cls := "DotRuns", name := "changesOf", desc := "(JI)J" } : Jvm.MethodName) prog_1_method_59_code (3 : Nat) (Option.some Jvm.ClassFile.FieldType.long) ∈ TW := tw_t 500 (by decide +kernel) rfl
theorem tw501 : Jvm.Cond.methodLink "DotRuns" (367 : Nat) ({ cls := "DotRuns", name := "allBlack", desc := "(I)J" } : Jvm.MethodName) ∈ TW := tw_t 501 (by decide +kernel) rfl
theorem tw502 : Jvm.Cond.methodLink "DotRuns$Parser" (155 : Nat) ({ cls := "DotRuns$Reading", name := "look", desc := "()V" } : Jvm.MethodName) ∈ TW := tw_t 502 (by decide +kernel) rfl
theorem tw503 : Jvm.Cond.instanceMethod ({ cls := "DotRuns$Reading", name := "look", desc := "()V" } : Jvm.MethodName) ∈ TW := tw_t 503 (by decide +kernel) rfl
theorem tw504 : Jvm.Cond.selects "DotRuns$Reading" ({ cls := "DotRuns$Reading", name := "look", desc := "()V" } : Jvm.MethodName) ({ cls := "DotRuns$Reading", name := "look", desc := "()V" } : Jvm.MethodName) ∈ TW := tw_t 504 (by decide +kernel) rfl
theorem tw505 : Jvm.Cond.code ({ cls := "DotRuns$Reading", name := "look", desc := "()V" } : Jvm.MethodName) prog_6_method_4_code (1 : Nat) (Option.none : Option Jvm.ClassFile.FieldType) ∈ TW := tw_t 505 (by decide +kernel) rfl
theorem tw506 : Jvm.Cond.constantLong "DotRuns$Reading" (42 : Nat) (-1 : Int64) ∈ TW := tw_t 506 (by decide +kernel) rfl
theorem tw508 : Jvm.Cond.static ({ cls := "DotRuns", name := "firstBehind", desc := "(JII)I" } : Jvm.MethodName) ∈ TW := tw_t 508 (by decide +kernel) rfl
theorem tw509 : Jvm.Cond.code ({ cls := "DotRuns", name := "firstBehind", desc := "(JII)I" } : Jvm.MethodName) prog_1_method_61_code (6 : Nat) (Option.some Jvm.ClassFile.FieldType.int) ∈ TW := tw_t 509 (by decide +kernel) rfl
theorem tw510 : Jvm.Cond.constantLong "DotRuns" (211 : Nat) (-1 : Int64) ∈ TW := tw_t 510 (by decide +kernel) rfl
theorem tw511 : Jvm.Cond.methodLink "DotRuns" (159 : Nat) ({ cls := "java/lang/Long", name := "bitCount", desc := "(J)I" } : Jvm.MethodName) ∈ TW := tw_t 511 (by decide +kernel) rfl
theorem tw512 : Jvm.Cond.static ({ cls := "java/lang/Long", name := "bitCount", desc := "(J)I" } : Jvm.MethodName) ∈ TW := tw_t 512 (by decide +kernel) rfl
theorem tw513 : Jvm.Cond.code ({ cls := "java/lang/Long", name := "bitCount", desc := "(J)I" } : Jvm.MethodName) prog_27_method_50_code (2 : Nat) (Option.some Jvm.ClassFile.FieldType.int) ∈ TW := tw_t 513 (by decide +kernel) rfl
theorem tw514 : Jvm.Cond.constantLong "java/lang/Long" (314 : Nat) (6148914691236517205 : Int64) ∈ TW := tw_t 514 (by decide +kernel) rfl
theorem tw515 : Jvm.Cond.constantLong "java/lang/Long" (316 : Nat) (3689348814741910323 : Int64) ∈ TW := tw_t 515 (by decide +kernel) rfl
theorem tw516 : Jvm.Cond.constantLong "java/lang/Long" (318 : Nat) (1085102592571150095 : Int64) ∈ TW := tw_t 516 (by decide +kernel) rfl
theorem tw518 : Jvm.Cond.methodLink "DotRuns$Parser" (160 : Nat) ({ cls := "DotRuns$Parser", name := "readPass", desc := "()Z" } : Jvm.MethodName) ∈ TW := tw_t 518 (by decide +kernel) rfl
theorem tw520 : Jvm.Cond.instanceMethod ({ cls := "DotRuns$Parser", name := "readPass", desc := "()Z" } : Jvm.MethodName) ∈ TW := tw_t 520 (by decide +kernel) rfl
theorem tw521 : Jvm.Cond.code ({ cls := "DotRuns$Parser", name := "readPass", desc := "()Z" } : Jvm.MethodName) prog_5_method_15_code (2 : Nat) (Option.some Jvm.ClassFile.FieldType.boolean) ∈ TW := tw_t 521 (by decide +kernel) rfl
theorem tw522 : Jvm.Cond.methodLink "DotRuns$Parser" (173 : Nat) ({ cls := "DotRuns$Reading", name := "hasEnded", desc := "()Z" } : Jvm.MethodName) ∈ TW := tw_t 522 (by decide +kernel) rfl
theorem tw523 : Jvm.Cond.instanceMethod ({ cls := "DotRuns$Reading", name := "hasEnded", desc := "()Z" } : Jvm.MethodName) ∈ TW := tw_t 523 (by decide +kernel) rfl
theorem tw524 : Jvm.Cond.selects "DotRuns$Reading" ({ cls := "DotRuns$Reading", name := "hasEnded", desc := "()Z" } : Jvm.MethodName) ({ cls := "DotRuns$Reading", name := "hasEnded", desc := "()Z" } : Jvm.MethodName) ∈ TW := tw_t 524 (by decide +kernel) rfl
theorem tw525 : Jvm.Cond.code ({ cls := "DotRuns$Reading", name := "hasEnded", desc := "()Z" } : Jvm.MethodName) prog_6_method_3_code (1 : Nat) (Option.some Jvm.ClassFile.FieldType.boolean) ∈ TW := tw_t 525 (by decide +kernel) rfl
theorem tw526 : Jvm.Cond.methodLink "DotRuns$Parser" (180 : Nat) ({ cls := "DotRuns$Reading", name := "pass", desc := "()Z" } : Jvm.MethodName) ∈ TW := tw_t 526 (by decide +kernel) rfl
theorem tw527 : Jvm.Cond.instanceMethod ({ cls := "DotRuns$Reading", name := "pass", desc := "()Z" } : Jvm.MethodName) ∈ TW := tw_t 527 (by decide +kernel) rfl
theorem tw528 : Jvm.Cond.selects "DotRuns$Reading" ({ cls := "DotRuns$Reading", name := "pass", desc := "()Z" } : Jvm.MethodName) ({ cls := "DotRuns$Reading", name := "pass", desc := "()Z" } : Jvm.MethodName) ∈ TW := tw_t 528 (by decide +kernel) rfl
theorem tw529 : Jvm.Cond.code ({ cls := "DotRuns$Reading", name := "pass", desc := "()Z" } : Jvm.MethodName) prog_6_method_5_code (1 : Nat) (Option.some Jvm.ClassFile.FieldType.boolean) ∈ TW := tw_t 529 (by decide +kernel) rfl
theorem tw530 : Jvm.Cond.methodLink "DotRuns$Reading" (48 : Nat) ({ cls := "DotRuns$Reading", name := "goTo", desc := "(IZ)Z" } : Jvm.MethodName) ∈ TW := tw_t 530 (by decide +kernel) rfl
theorem tw532 : Jvm.Cond.instanceMethod ({ cls := "DotRuns$Reading", name := "goTo", desc := "(IZ)Z" } : Jvm.MethodName) ∈ TW := tw_t 532 (by decide +kernel) rfl
theorem tw533 : Jvm.Cond.code ({ cls := "DotRuns$Reading", name := "goTo", desc := "(IZ)Z" } : Jvm.MethodName) prog_6_method_8_code (3 : Nat) (Option.some Jvm.ClassFile.FieldType.boolean) ∈ TW := tw_t 533 (by decide +kernel) rfl
theorem tw535 : Jvm.Cond.methodLink "DotRuns$Parser" (183 : Nat) ({ cls := "DotRuns$Parser", name := "needRead", desc := "(ZI)Z" } : Jvm.MethodName) ∈ TW := tw_t 535 (by decide +kernel) rfl
theorem tw537 : Jvm.Cond.instanceMethod ({ cls := "DotRuns$Parser", name := "needRead", desc := "(ZI)Z" } : Jvm.MethodName) ∈ TW := tw_t 537 (by decide +kernel) rfl
theorem tw538 : Jvm.Cond.code ({ cls := "DotRuns$Parser", name := "needRead", desc := "(ZI)Z" } : Jvm.MethodName) prog_5_method_4_code (3 : Nat) (Option.some Jvm.ClassFile.FieldType.boolean) ∈ TW := tw_t 538 (by decide +kernel) rfl
theorem tw540 : Jvm.Cond.methodLink "DotRuns$Parser" (165 : Nat) ({ cls := "DotRuns$Parser", name := "readVertical", desc := "()Z" } : Jvm.MethodName) ∈ TW := tw_t 540 (by decide +kernel) rfl
theorem tw542 : Jvm.Cond.instanceMethod ({ cls := "DotRuns$Parser", name := "readVertical", desc := "()Z" } : Jvm.MethodName) ∈ TW := tw_t 542 (by decide +kernel) rfl
theorem tw543 : Jvm.Cond.code ({ cls := "DotRuns$Parser", name := "readVertical", desc := "()Z" } : Jvm.MethodName) prog_5_method_16_code (4 : Nat) (Option.some Jvm.ClassFile.FieldType.boolean) ∈ TW := tw_t 543 (by decide +kernel) rfl
theorem tw544 : Jvm.Cond.methodLink "DotRuns$Parser" (187 : Nat) ({ cls := "DotRuns$Reading", name := "goVertical", desc := "(I)Z" } : Jvm.MethodName) ∈ TW := tw_t 544 (by decide +kernel) rfl
theorem tw545 : Jvm.Cond.instanceMethod ({ cls := "DotRuns$Reading", name := "goVertical", desc := "(I)Z" } : Jvm.MethodName) ∈ TW := tw_t 545 (by decide +kernel) rfl
theorem tw546 : Jvm.Cond.selects "DotRuns$Reading" ({ cls := "DotRuns$Reading", name := "goVertical", desc := "(I)Z" } : Jvm.MethodName) ({ cls := "DotRuns$Reading", name := "goVertical", desc := "(I)Z" } : Jvm.MethodName) ∈ TW := tw_t 546 (by decide +kernel) rfl
theorem tw547 : Jvm.Cond.code ({ cls := "DotRuns$Reading", name := "goVertical", desc := "(I)Z" } : Jvm.MethodName) prog_6_method_6_code (2 : Nat) (Option.some Jvm.ClassFile.FieldType.boolean) ∈ TW := tw_t 547 (by decide +kernel) rfl
theorem tw549 : Jvm.Cond.methodLink "DotRuns$Parser" (170 : Nat) ({ cls := "DotRuns$Parser", name := "readHorizontal", desc := "()Z" } : Jvm.MethodName) ∈ TW := tw_t 549 (by decide +kernel) rfl
theorem tw551 : Jvm.Cond.instanceMethod ({ cls := "DotRuns$Parser", name := "readHorizontal", desc := "()Z" } : Jvm.MethodName) ∈ TW := tw_t 551 (by decide +kernel) rfl
theorem tw552 : Jvm.Cond.code ({ cls := "DotRuns$Parser", name := "readHorizontal", desc := "()Z" } : Jvm.MethodName) prog_5_method_17_code (4 : Nat) (Option.some Jvm.ClassFile.FieldType.boolean) ∈ TW := tw_t 552 (by decide +kernel) rfl
theorem tw553 : Jvm.Cond.methodLink "DotRuns$Parser" (190 : Nat) ({ cls := "DotRuns$Reading", name := "goHorizontal", desc := "(II)Z" } : Jvm.MethodName) ∈ TW := tw_t 553 (by decide +kernel) rfl
theorem tw554 : Jvm.Cond.instanceMethod ({ cls := "DotRuns$Reading", name := "goHorizontal", desc := "(II)Z" } : Jvm.MethodName) ∈ TW := tw_t 554 (by decide +kernel) rfl
theorem tw555 : Jvm.Cond.selects "DotRuns$Reading" ({ cls := "DotRuns$Reading", name := "goHorizontal", desc := "(II)Z" } : Jvm.MethodName) ({ cls := "DotRuns$Reading", name := "goHorizontal", desc := "(II)Z" } : Jvm.MethodName) ∈ TW := tw_t 555 (by decide +kernel) rfl
theorem tw556 : Jvm.Cond.code ({ cls := "DotRuns$Reading", name := "goHorizontal", desc := "(II)Z" } : Jvm.MethodName) prog_6_method_7_code (6 : Nat) (Option.some Jvm.ClassFile.FieldType.boolean) ∈ TW := tw_t 556 (by decide +kernel) rfl
theorem tw557 : Jvm.Cond.methodLink "DotRuns" (86 : Nat) ({ cls := "DotRuns$Page", name := "copyFrom", desc := "(LDotRuns$Page;)V" } : Jvm.MethodName) ∈ TW := tw_t 557 (by decide +kernel) rfl
theorem tw558 : Jvm.Cond.instanceMethod ({ cls := "DotRuns$Page", name := "copyFrom", desc := "(LDotRuns$Page;)V" } : Jvm.MethodName) ∈ TW := tw_t 558 (by decide +kernel) rfl
theorem tw559 : Jvm.Cond.selects "DotRuns$Page" ({ cls := "DotRuns$Page", name := "copyFrom", desc := "(LDotRuns$Page;)V" } : Jvm.MethodName) ({ cls := "DotRuns$Page", name := "copyFrom", desc := "(LDotRuns$Page;)V" } : Jvm.MethodName) ∈ TW := tw_t 559 (by decide +kernel) rfl
theorem tw560 : Jvm.Cond.code ({ cls := "DotRuns$Page", name := "copyFrom", desc := "(LDotRuns$Page;)V" } : Jvm.MethodName) prog_4_method_3_code (3 : Nat) (Option.none : Option Jvm.ClassFile.FieldType) ∈ TW := tw_t 560 (by decide +kernel) rfl
theorem tw561 : Jvm.Cond.methodLink "DotRuns" (90 : Nat) ({ cls := "DotRuns$History", name := "forget", desc := "()V" } : Jvm.MethodName) ∈ TW := tw_t 561 (by decide +kernel) rfl
theorem tw562 : Jvm.Cond.instanceMethod ({ cls := "DotRuns$History", name := "forget", desc := "()V" } : Jvm.MethodName) ∈ TW := tw_t 562 (by decide +kernel) rfl
theorem tw563 : Jvm.Cond.selects "DotRuns$History" ({ cls := "DotRuns$History", name := "forget", desc := "()V" } : Jvm.MethodName) ({ cls := "DotRuns$History", name := "forget", desc := "()V" } : Jvm.MethodName) ∈ TW := tw_t 563 (by decide +kernel) rfl
theorem tw564 : Jvm.Cond.code ({ cls := "DotRuns$History", name := "forget", desc := "()V" } : Jvm.MethodName) prog_3_method_4_code (1 : Nat) (Option.none : Option Jvm.ClassFile.FieldType) ∈ TW := tw_t 564 (by decide +kernel) rfl
theorem tw573 : Jvm.Cond.methodLink "DotRuns" (139 : Nat) ({ cls := "DotRuns", name := "needLine", desc := "(I)V" } : Jvm.MethodName) ∈ TW := tw_t 573 (by decide +kernel) rfl
theorem tw575 : Jvm.Cond.instanceMethod ({ cls := "DotRuns", name := "needLine", desc := "(I)V" } : Jvm.MethodName) ∈ TW := tw_t 575 (by decide +kernel) rfl
theorem tw576 : Jvm.Cond.code ({ cls := "DotRuns", name := "needLine", desc := "(I)V" } : Jvm.MethodName) prog_1_method_40_code (2 : Nat) (Option.none : Option Jvm.ClassFile.FieldType) ∈ TW := tw_t 576 (by decide +kernel) rfl
theorem tw577 : Jvm.Cond.methodLink "DotRuns" (343 : Nat) ({ cls := "DotRuns$Page", name := "hasLine", desc := "(I)Z" } : Jvm.MethodName) ∈ TW := tw_t 577 (by decide +kernel) rfl
theorem tw578 : Jvm.Cond.classLink "DotRuns" (222 : Nat) "java/lang/IndexOutOfBoundsException" ∈ TW := tw_t 578 (by decide +kernel) rfl
theorem tw645 : Jvm.Cond.methodLink "DotRuns" (229 : Nat) ({ cls := "DotRuns", name := "needSpan", desc := "(II)V" } : Jvm.MethodName) ∈ TW := tw_t 645 (by decide +kernel) rfl
theorem tw647 : Jvm.Cond.instanceMethod ({ cls := "DotRuns", name := "needSpan", desc := "(II)V" } : Jvm.MethodName) ∈ TW := tw_t 647 (by decide +kernel) rfl
theorem tw648 : Jvm.Cond.code ({ cls := "DotRuns", name := "needSpan", desc := "(II)V" } : Jvm.MethodName) prog_1_method_43_code (3 : Nat) (Option.none : Option Jvm.ClassFile.FieldType) ∈ TW := tw_t 648 (by decide +kernel) rfl
theorem tw649 : Jvm.Cond.classLink "DotRuns" (76 : Nat) "java/lang/IllegalArgumentException" ∈ TW := tw_t 649 (by decide +kernel) rfl
theorem tw665 : Jvm.Cond.methodLink "DotRuns" (192 : Nat) ({ cls := "DotRuns", name := "needColour", desc := "(I)V" } : Jvm.MethodName) ∈ TW := tw_t 665 (by decide +kernel) rfl
theorem tw666 : Jvm.Cond.static ({ cls := "DotRuns", name := "needColour", desc := "(I)V" } : Jvm.MethodName) ∈ TW := tw_t 666 (by decide +kernel) rfl
theorem tw667 : Jvm.Cond.code ({ cls := "DotRuns", name := "needColour", desc := "(I)V" } : Jvm.MethodName) prog_1_method_45_code (1 : Nat) (Option.none : Option Jvm.ClassFile.FieldType) ∈ TW := tw_t 667 (by decide +kernel) rfl
theorem tw669 : Jvm.Cond.methodLink "DotRuns" (219 : Nat) ({ cls := "DotRuns$History", name := "keep", desc := "(LDotRuns$Page;)V" } : Jvm.MethodName) ∈ TW := tw_t 669 (by decide +kernel) rfl
theorem tw670 : Jvm.Cond.instanceMethod ({ cls := "DotRuns$History", name := "keep", desc := "(LDotRuns$Page;)V" } : Jvm.MethodName) ∈ TW := tw_t 670 (by decide +kernel) rfl
theorem tw671 : Jvm.Cond.selects "DotRuns$History" ({ cls := "DotRuns$History", name := "keep", desc := "(LDotRuns$Page;)V" } : Jvm.MethodName) ({ cls := "DotRuns$History", name := "keep", desc := "(LDotRuns$Page;)V" } : Jvm.MethodName) ∈ TW := tw_t 671 (by decide +kernel) rfl
theorem tw672 : Jvm.Cond.code ({ cls := "DotRuns$History", name := "keep", desc := "(LDotRuns$Page;)V" } : Jvm.MethodName) prog_3_method_2_code (2 : Nat) (Option.none : Option Jvm.ClassFile.FieldType) ∈ TW := tw_t 672 (by decide +kernel) rfl
theorem tw673 : Jvm.Cond.methodLink "DotRuns$History" (24 : Nat) ({ cls := "DotRuns$Page", name := "<init>", desc := "()V" } : Jvm.MethodName) ∈ TW := tw_t 673 (by decide +kernel) rfl
theorem tw674 : Jvm.Cond.methodLink "DotRuns$History" (25 : Nat) ({ cls := "DotRuns$Page", name := "copyFrom", desc := "(LDotRuns$Page;)V" } : Jvm.MethodName) ∈ TW := tw_t 674 (by decide +kernel) rfl
theorem tw675 : Jvm.Cond.methodLink "DotRuns$History" (29 : Nat) ({ cls := "java/lang/Math", name := "min", desc := "(II)I" } : Jvm.MethodName) ∈ TW := tw_t 675 (by decide +kernel) rfl
theorem tw676 : Jvm.Cond.methodLink "DotRuns" (131 : Nat) ({ cls := "DotRuns$Page", name := "rowAt", desc := "(I)J" } : Jvm.MethodName) ∈ TW := tw_t 676 (by decide +kernel) rfl
theorem tw677 : Jvm.Cond.methodLink "DotRuns" (235 : Nat) ({ cls := "DotRuns", name := "span", desc := "(II)J" } : Jvm.MethodName) ∈ TW := tw_t 677 (by decide +kernel) rfl
theorem tw678 : Jvm.Cond.methodLink "DotRuns" (243 : Nat) ({ cls := "DotRuns$Page", name := "putRow", desc := "(IJ)V" } : Jvm.MethodName) ∈ TW := tw_t 678 (by decide +kernel) rfl
theorem tw689 : Jvm.Cond.methodLink "DotRuns" (232 : Nat) ({ cls := "DotRuns", name := "needRoom", desc := "()V" } : Jvm.MethodName) ∈ TW := tw_t 689 (by decide +kernel) rfl
theorem tw691 : Jvm.Cond.instanceMethod ({ cls := "DotRuns", name := "needRoom", desc := "()V" } : Jvm.MethodName) ∈ TW := tw_t 691 (by decide +kernel) rfl
theorem tw692 : Jvm.Cond.code ({ cls := "DotRuns", name := "needRoom", desc := "()V" } : Jvm.MethodName) prog_1_method_44_code (1 : Nat) (Option.none : Option Jvm.ClassFile.FieldType) ∈ TW := tw_t 692 (by decide +kernel) rfl
theorem tw693 : Jvm.Cond.classLink "DotRuns" (65 : Nat) "java/lang/IllegalStateException" ∈ TW := tw_t 693 (by decide +kernel) rfl
theorem tw709 : Jvm.Cond.methodLink "DotRuns" (239 : Nat) ({ cls := "DotRuns$Page", name := "insertRow", desc := "(IJ)V" } : Jvm.MethodName) ∈ TW := tw_t 709 (by decide +kernel) rfl
theorem tw714 : Jvm.Cond.methodLink "DotRuns" (250 : Nat) ({ cls := "DotRuns$Page", name := "deleteRow", desc := "(I)V" } : Jvm.MethodName) ∈ TW := tw_t 714 (by decide +kernel) rfl
theorem tw715 : Jvm.Cond.instanceMethod ({ cls := "DotRuns$Page", name := "deleteRow", desc := "(I)V" } : Jvm.MethodName) ∈ TW := tw_t 715 (by decide +kernel) rfl
theorem tw716 : Jvm.Cond.selects "DotRuns$Page" ({ cls := "DotRuns$Page", name := "deleteRow", desc := "(I)V" } : Jvm.MethodName) ({ cls := "DotRuns$Page", name := "deleteRow", desc := "(I)V" } : Jvm.MethodName) ∈ TW := tw_t 716 (by decide +kernel) rfl
theorem tw717 : Jvm.Cond.code ({ cls := "DotRuns$Page", name := "deleteRow", desc := "(I)V" } : Jvm.MethodName) prog_4_method_8_code (3 : Nat) (Option.none : Option Jvm.ClassFile.FieldType) ∈ TW := tw_t 717 (by decide +kernel) rfl
theorem tw730 : Jvm.Cond.methodLink "DotRuns" (334 : Nat) ({ cls := "DotRuns$History", name := "takeBack", desc := "(LDotRuns$Page;)Z" } : Jvm.MethodName) ∈ TW := tw_t 730 (by decide +kernel) rfl
theorem tw731 : Jvm.Cond.instanceMethod ({ cls := "DotRuns$History", name := "takeBack", desc := "(LDotRuns$Page;)Z" } : Jvm.MethodName) ∈ TW := tw_t 731 (by decide +kernel) rfl
theorem tw732 : Jvm.Cond.selects "DotRuns$History" ({ cls := "DotRuns$History", name := "takeBack", desc := "(LDotRuns$Page;)Z" } : Jvm.MethodName) ({ cls := "DotRuns$History", name := "takeBack", desc := "(LDotRuns$Page;)Z" } : Jvm.MethodName) ∈ TW := tw_t 732 (by decide +kernel) rfl
theorem tw733 : Jvm.Cond.code ({ cls := "DotRuns$History", name := "takeBack", desc := "(LDotRuns$Page;)Z" } : Jvm.MethodName) prog_3_method_3_code (3 : Nat) (Option.some Jvm.ClassFile.FieldType.boolean) ∈ TW := tw_t 733 (by decide +kernel) rfl
theorem tw984 : Jvm.Cond.methodLink "DotRuns" (111 : Nat) ({ cls := "DotRuns", name := "blackDots", desc := "()I" } : Jvm.MethodName) ∈ TW := tw_t 984 (by decide +kernel) rfl
theorem tw986 : Jvm.Cond.instanceMethod ({ cls := "DotRuns", name := "blackDots", desc := "()I" } : Jvm.MethodName) ∈ TW := tw_t 986 (by decide +kernel) rfl
theorem tw987 : Jvm.Cond.code ({ cls := "DotRuns", name := "blackDots", desc := "()I" } : Jvm.MethodName) prog_1_method_47_code (3 : Nat) (Option.some Jvm.ClassFile.FieldType.int) ∈ TW := tw_t 987 (by decide +kernel) rfl
theorem tw988 : Jvm.Cond.methodLink "DotRuns" (115 : Nat) ({ cls := "DotRuns", name := "allChanges", desc := "()I" } : Jvm.MethodName) ∈ TW := tw_t 988 (by decide +kernel) rfl
theorem tw990 : Jvm.Cond.instanceMethod ({ cls := "DotRuns", name := "allChanges", desc := "()I" } : Jvm.MethodName) ∈ TW := tw_t 990 (by decide +kernel) rfl
theorem tw991 : Jvm.Cond.code ({ cls := "DotRuns", name := "allChanges", desc := "()I" } : Jvm.MethodName) prog_1_method_48_code (3 : Nat) (Option.some Jvm.ClassFile.FieldType.int) ∈ TW := tw_t 991 (by decide +kernel) rfl
theorem tw992 : Jvm.Cond.methodLink "DotRuns" (155 : Nat) ({ cls := "DotRuns", name := "changesOf", desc := "(JI)J" } : Jvm.MethodName) ∈ TW := tw_t 992 (by decide +kernel) rfl
theorem tw993 : Jvm.Cond.methodLink "DotRuns" (118 : Nat) ({ cls := "DotRuns", name := "marks", desc := "()I" } : Jvm.MethodName) ∈ TW := tw_t 993 (by decide +kernel) rfl
theorem tw995 : Jvm.Cond.instanceMethod ({ cls := "DotRuns", name := "marks", desc := "()I" } : Jvm.MethodName) ∈ TW := tw_t 995 (by decide +kernel) rfl
theorem tw996 : Jvm.Cond.code ({ cls := "DotRuns", name := "marks", desc := "()I" } : Jvm.MethodName) prog_1_method_50_code (3 : Nat) (Option.some Jvm.ClassFile.FieldType.int) ∈ TW := tw_t 996 (by decide +kernel) rfl
theorem tw997 : Jvm.Cond.methodLink "DotRuns" (145 : Nat) ({ cls := "DotRuns", name := "isMark", desc := "(I)Z" } : Jvm.MethodName) ∈ TW := tw_t 997 (by decide +kernel) rfl
theorem tw999 : Jvm.Cond.instanceMethod ({ cls := "DotRuns", name := "isMark", desc := "(I)Z" } : Jvm.MethodName) ∈ TW := tw_t 999 (by decide +kernel) rfl
theorem tw1000 : Jvm.Cond.code ({ cls := "DotRuns", name := "isMark", desc := "(I)Z" } : Jvm.MethodName) prog_1_method_51_code (2 : Nat) (Option.some Jvm.ClassFile.FieldType.boolean) ∈ TW := tw_t 1000 (by decide +kernel) rfl
theorem tw1001 : Jvm.Cond.methodLink "DotRuns" (360 : Nat) ({ cls := "DotRuns", name := "isEvery", desc := "(II)Z" } : Jvm.MethodName) ∈ TW := tw_t 1001 (by decide +kernel) rfl
theorem tw1002 : Jvm.Cond.static ({ cls := "DotRuns", name := "isEvery", desc := "(II)Z" } : Jvm.MethodName) ∈ TW := tw_t 1002 (by decide +kernel) rfl
theorem tw1003 : Jvm.Cond.code ({ cls := "DotRuns", name := "isEvery", desc := "(II)Z" } : Jvm.MethodName) prog_1_method_66_code (2 : Nat) (Option.some Jvm.ClassFile.FieldType.boolean) ∈ TW := tw_t 1003 (by decide +kernel) rfl
theorem tw1004 : Jvm.Cond.methodLink "DotRuns" (142 : Nat) ({ cls := "DotRuns", name := "codeLine", desc := "(I)V" } : Jvm.MethodName) ∈ TW := tw_t 1004 (by decide +kernel) rfl
theorem tw1006 : Jvm.Cond.instanceMethod ({ cls := "DotRuns", name := "codeLine", desc := "(I)V" } : Jvm.MethodName) ∈ TW := tw_t 1006 (by decide +kernel) rfl
theorem tw1007 : Jvm.Cond.code ({ cls := "DotRuns", name := "codeLine", desc := "(I)V" } : Jvm.MethodName) prog_1_method_53_code (2 : Nat) (Option.none : Option Jvm.ClassFile.FieldType) ∈ TW := tw_t 1007 (by decide +kernel) rfl
theorem tw1008 : Jvm.Cond.methodLink "DotRuns" (363 : Nat) ({ cls := "DotRuns$Code", name := "makeFor", desc := "(JJI)V" } : Jvm.MethodName) ∈ TW := tw_t 1008 (by decide +kernel) rfl
theorem tw1009 : Jvm.Cond.instanceMethod ({ cls := "DotRuns$Code", name := "makeFor", desc := "(JJI)V" } : Jvm.MethodName) ∈ TW := tw_t 1009 (by decide +kernel) rfl
theorem tw1010 : Jvm.Cond.selects "DotRuns$Code" ({ cls := "DotRuns$Code", name := "makeFor", desc := "(JJI)V" } : Jvm.MethodName) ({ cls := "DotRuns$Code", name := "makeFor", desc := "(JJI)V" } : Jvm.MethodName) ∈ TW := tw_t 1010 (by decide +kernel) rfl
theorem tw1011 : Jvm.Cond.code ({ cls := "DotRuns$Code", name := "makeFor", desc := "(JJI)V" } : Jvm.MethodName) prog_2_method_2_code (7 : Nat) (Option.none : Option Jvm.ClassFile.FieldType) ∈ TW := tw_t 1011 (by decide +kernel) rfl
theorem tw1012 : Jvm.Cond.methodLink "DotRuns$Code" (38 : Nat) ({ cls := "DotRuns$Reading", name := "begin", desc := "(JI)V" } : Jvm.MethodName) ∈ TW := tw_t 1012 (by decide +kernel) rfl
theorem tw1013 : Jvm.Cond.methodLink "DotRuns$Code" (42 : Nat) ({ cls := "DotRuns$Reading", name := "hasEnded", desc := "()Z" } : Jvm.MethodName) ∈ TW := tw_t 1013 (by decide +kernel) rfl
theorem tw1014 : Jvm.Cond.methodLink "DotRuns$Code" (46 : Nat) ({ cls := "DotRuns$Reading", name := "look", desc := "()V" } : Jvm.MethodName) ∈ TW := tw_t 1014 (by decide +kernel) rfl
theorem tw1015 : Jvm.Cond.methodLink "DotRuns$Code" (49 : Nat) ({ cls := "DotRuns$Code", name := "addMode", desc := "(JI)V" } : Jvm.MethodName) ∈ TW := tw_t 1015 (by decide +kernel) rfl
theorem tw1017 : Jvm.Cond.instanceMethod ({ cls := "DotRuns$Code", name := "addMode", desc := "(JI)V" } : Jvm.MethodName) ∈ TW := tw_t 1017 (by decide +kernel) rfl
theorem tw1018 : Jvm.Cond.code ({ cls := "DotRuns$Code", name := "addMode", desc := "(JI)V" } : Jvm.MethodName) prog_2_method_3_code (12 : Nat) (Option.none : Option Jvm.ClassFile.FieldType) ∈ TW := tw_t 1018 (by decide +kernel) rfl
theorem tw1019 : Jvm.Cond.constantLong "DotRuns$Code" (56 : Nat) (-1 : Int64) ∈ TW := tw_t 1019 (by decide +kernel) rfl
theorem tw1022 : Jvm.Cond.methodLink "DotRuns$Code" (75 : Nat) ({ cls := "DotRuns$Code", name := "putMode", desc := "(IIII)V" } : Jvm.MethodName) ∈ TW := tw_t 1022 (by decide +kernel) rfl
theorem tw1024 : Jvm.Cond.instanceMethod ({ cls := "DotRuns$Code", name := "putMode", desc := "(IIII)V" } : Jvm.MethodName) ∈ TW := tw_t 1024 (by decide +kernel) rfl
theorem tw1025 : Jvm.Cond.code ({ cls := "DotRuns$Code", name := "putMode", desc := "(IIII)V" } : Jvm.MethodName) prog_2_method_4_code (5 : Nat) (Option.none : Option Jvm.ClassFile.FieldType) ∈ TW := tw_t 1025 (by decide +kernel) rfl
theorem tw1026 : Jvm.Cond.methodLink "DotRuns$Code" (79 : Nat) ({ cls := "DotRuns$Code", name := "verticalBits", desc := "(I)I" } : Jvm.MethodName) ∈ TW := tw_t 1026 (by decide +kernel) rfl
theorem tw1027 : Jvm.Cond.static ({ cls := "DotRuns$Code", name := "verticalBits", desc := "(I)I" } : Jvm.MethodName) ∈ TW := tw_t 1027 (by decide +kernel) rfl
theorem tw1028 : Jvm.Cond.code ({ cls := "DotRuns$Code", name := "verticalBits", desc := "(I)I" } : Jvm.MethodName) prog_2_method_5_code (1 : Nat) (Option.some Jvm.ClassFile.FieldType.int) ∈ TW := tw_t 1028 (by decide +kernel) rfl
theorem tw1029 : Jvm.Cond.methodLink "DotRuns$Code" (86 : Nat) ({ cls := "java/lang/Math", name := "abs", desc := "(I)I" } : Jvm.MethodName) ∈ TW := tw_t 1029 (by decide +kernel) rfl
theorem tw1030 : Jvm.Cond.static ({ cls := "java/lang/Math", name := "abs", desc := "(I)I" } : Jvm.MethodName) ∈ TW := tw_t 1030 (by decide +kernel) rfl
theorem tw1031 : Jvm.Cond.code ({ cls := "java/lang/Math", name := "abs", desc := "(I)I" } : Jvm.MethodName) prog_28_method_59_code (1 : Nat) (Option.some Jvm.ClassFile.FieldType.int) ∈ TW := tw_t 1031 (by decide +kernel) rfl
theorem tw1033 : Jvm.Cond.static ({ cls := "DotRuns", name := "numberBits", desc := "(I)I" } : Jvm.MethodName) ∈ TW := tw_t 1033 (by decide +kernel) rfl
theorem tw1034 : Jvm.Cond.code ({ cls := "DotRuns", name := "numberBits", desc := "(I)I" } : Jvm.MethodName) prog_1_method_65_code (1 : Nat) (Option.some Jvm.ClassFile.FieldType.int) ∈ TW := tw_t 1034 (by decide +kernel) rfl
theorem tw1035 : Jvm.Cond.methodLink "DotRuns" (149 : Nat) ({ cls := "DotRuns", name := "aloneBits", desc := "(JI)I" } : Jvm.MethodName) ∈ TW := tw_t 1035 (by decide +kernel) rfl
theorem tw1036 : Jvm.Cond.static ({ cls := "DotRuns", name := "aloneBits", desc := "(JI)I" } : Jvm.MethodName) ∈ TW := tw_t 1036 (by decide +kernel) rfl
theorem tw1037 : Jvm.Cond.code ({ cls := "DotRuns", name := "aloneBits", desc := "(JI)I" } : Jvm.MethodName) prog_1_method_64_code (9 : Nat) (Option.some Jvm.ClassFile.FieldType.int) ∈ TW := tw_t 1037 (by decide +kernel) rfl
theorem tw1038 : Jvm.Cond.methodLink "DotRuns" (370 : Nat) ({ cls := "DotRuns", name := "lowestOf", desc := "(J)I" } : Jvm.MethodName) ∈ TW := tw_t 1038 (by decide +kernel) rfl
theorem tw1039 : Jvm.Cond.static ({ cls := "DotRuns", name := "lowestOf", desc := "(J)I" } : Jvm.MethodName) ∈ TW := tw_t 1039 (by decide +kernel) rfl
theorem tw1040 : Jvm.Cond.code ({ cls := "DotRuns", name := "lowestOf", desc := "(J)I" } : Jvm.MethodName) prog_1_method_60_code (2 : Nat) (Option.some Jvm.ClassFile.FieldType.int) ∈ TW := tw_t 1040 (by decide +kernel) rfl
theorem tw1041 : Jvm.Cond.methodLink "DotRuns" (373 : Nat) ({ cls := "DotRuns", name := "numberBits", desc := "(I)I" } : Jvm.MethodName) ∈ TW := tw_t 1041 (by decide +kernel) rfl
theorem tw1042 : Jvm.Cond.methodLink "DotRuns" (124 : Nat) ({ cls := "DotRuns", name := "linesAsAbove", desc := "()I" } : Jvm.MethodName) ∈ TW := tw_t 1042 (by decide +kernel) rfl
theorem tw1044 : Jvm.Cond.instanceMethod ({ cls := "DotRuns", name := "linesAsAbove", desc := "()I" } : Jvm.MethodName) ∈ TW := tw_t 1044 (by decide +kernel) rfl
theorem tw1045 : Jvm.Cond.code ({ cls := "DotRuns", name := "linesAsAbove", desc := "()I" } : Jvm.MethodName) prog_1_method_49_code (3 : Nat) (Option.some Jvm.ClassFile.FieldType.int) ∈ TW := tw_t 1045 (by decide +kernel) rfl
theorem tw1050 : Jvm.Cond.methodLink "DotRuns" (127 : Nat) ({ cls := "DotRuns", name := "needDot", desc := "(II)V" } : Jvm.MethodName) ∈ TW := tw_t 1050 (by decide +kernel) rfl
theorem tw1052 : Jvm.Cond.instanceMethod ({ cls := "DotRuns", name := "needDot", desc := "(II)V" } : Jvm.MethodName) ∈ TW := tw_t 1052 (by decide +kernel) rfl
theorem tw1053 : Jvm.Cond.code ({ cls := "DotRuns", name := "needDot", desc := "(II)V" } : Jvm.MethodName) prog_1_method_41_code (3 : Nat) (Option.none : Option Jvm.ClassFile.FieldType) ∈ TW := tw_t 1053 (by decide +kernel) rfl
theorem tw1055 : Jvm.Cond.methodLink "DotRuns" (135 : Nat) ({ cls := "DotRuns", name := "colourAt", desc := "(JI)I" } : Jvm.MethodName) ∈ TW := tw_t 1055 (by decide +kernel) rfl
theorem tw1056 : Jvm.Cond.static ({ cls := "DotRuns", name := "colourAt", desc := "(JI)I" } : Jvm.MethodName) ∈ TW := tw_t 1056 (by decide +kernel) rfl
theorem tw1057 : Jvm.Cond.code ({ cls := "DotRuns", name := "colourAt", desc := "(JI)I" } : Jvm.MethodName) prog_1_method_58_code (3 : Nat) (Option.some Jvm.ClassFile.FieldType.int) ∈ TW := tw_t 1057 (by decide +kernel) rfl
theorem tw1157 : Jvm.Cond.methodLink "DotRuns" (168 : Nat) ({ cls := "DotRuns$Code", name := "modesOfKind", desc := "(I)I" } : Jvm.MethodName) ∈ TW := tw_t 1157 (by decide +kernel) rfl
theorem tw1158 : Jvm.Cond.instanceMethod ({ cls := "DotRuns$Code", name := "modesOfKind", desc := "(I)I" } : Jvm.MethodName) ∈ TW := tw_t 1158 (by decide +kernel) rfl
theorem tw1159 : Jvm.Cond.selects "DotRuns$Code" ({ cls := "DotRuns$Code", name := "modesOfKind", desc := "(I)I" } : Jvm.MethodName) ({ cls := "DotRuns$Code", name := "modesOfKind", desc := "(I)I" } : Jvm.MethodName) ∈ TW := tw_t 1159 (by decide +kernel) rfl
theorem tw1160 : Jvm.Cond.code ({ cls := "DotRuns$Code", name := "modesOfKind", desc := "(I)I" } : Jvm.MethodName) prog_2_method_6_code (4 : Nat) (Option.some Jvm.ClassFile.FieldType.int) ∈ TW := tw_t 1160 (by decide +kernel) rfl
theorem tw1161 : Jvm.Cond.methodLink "DotRuns" (175 : Nat) ({ cls := "DotRuns", name := "latestMark", desc := "(I)I" } : Jvm.MethodName) ∈ TW := tw_t 1161 (by decide +kernel) rfl
theorem tw1163 : Jvm.Cond.instanceMethod ({ cls := "DotRuns", name := "latestMark", desc := "(I)I" } : Jvm.MethodName) ∈ TW := tw_t 1163 (by decide +kernel) rfl
theorem tw1164 : Jvm.Cond.code ({ cls := "DotRuns", name := "latestMark", desc := "(I)I" } : Jvm.MethodName) prog_1_method_52_code (3 : Nat) (Option.some Jvm.ClassFile.FieldType.int) ∈ TW := tw_t 1164 (by decide +kernel) rfl
theorem tw1197 : Jvm.Cond.methodLink "DotRuns" (178 : Nat) ({ cls := "DotRuns", name := "needPlace", desc := "(II)V" } : Jvm.MethodName) ∈ TW := tw_t 1197 (by decide +kernel) rfl
theorem tw1199 : Jvm.Cond.instanceMethod ({ cls := "DotRuns", name := "needPlace", desc := "(II)V" } : Jvm.MethodName) ∈ TW := tw_t 1199 (by decide +kernel) rfl
theorem tw1200 : Jvm.Cond.code ({ cls := "DotRuns", name := "needPlace", desc := "(II)V" } : Jvm.MethodName) prog_1_method_42_code (3 : Nat) (Option.none : Option Jvm.ClassFile.FieldType) ∈ TW := tw_t 1200 (by decide +kernel) rfl
theorem tw1202 : Jvm.Cond.methodLink "DotRuns" (181 : Nat) ({ cls := "DotRuns", name := "runAt", desc := "(JII)I" } : Jvm.MethodName) ∈ TW := tw_t 1202 (by decide +kernel) rfl
theorem tw1203 : Jvm.Cond.static ({ cls := "DotRuns", name := "runAt", desc := "(JII)I" } : Jvm.MethodName) ∈ TW := tw_t 1203 (by decide +kernel) rfl
theorem tw1204 : Jvm.Cond.code ({ cls := "DotRuns", name := "runAt", desc := "(JII)I" } : Jvm.MethodName) prog_1_method_63_code (8 : Nat) (Option.some Jvm.ClassFile.FieldType.int) ∈ TW := tw_t 1204 (by decide +kernel) rfl
theorem tw1205 : Jvm.Cond.methodLink "DotRuns" (189 : Nat) ({ cls := "DotRuns", name := "changeAt", desc := "(JI)I" } : Jvm.MethodName) ∈ TW := tw_t 1205 (by decide +kernel) rfl
theorem tw1206 : Jvm.Cond.static ({ cls := "DotRuns", name := "changeAt", desc := "(JI)I" } : Jvm.MethodName) ∈ TW := tw_t 1206 (by decide +kernel) rfl
theorem tw1207 : Jvm.Cond.code ({ cls := "DotRuns", name := "changeAt", desc := "(JI)I" } : Jvm.MethodName) prog_1_method_62_code (6 : Nat) (Option.some Jvm.ClassFile.FieldType.int) ∈ TW := tw_t 1207 (by decide +kernel) rfl
theorem tw1212 : Jvm.Cond.methodLink "DotRuns" (185 : Nat) ({ cls := "DotRuns$Code", name := "modeNumber", desc := "(II)I" } : Jvm.MethodName) ∈ TW := tw_t 1212 (by decide +kernel) rfl
theorem tw1213 : Jvm.Cond.instanceMethod ({ cls := "DotRuns$Code", name := "modeNumber", desc := "(II)I" } : Jvm.MethodName) ∈ TW := tw_t 1213 (by decide +kernel) rfl
theorem tw1214 : Jvm.Cond.selects "DotRuns$Code" ({ cls := "DotRuns$Code", name := "modeNumber", desc := "(II)I" } : Jvm.MethodName) ({ cls := "DotRuns$Code", name := "modeNumber", desc := "(II)I" } : Jvm.MethodName) ∈ TW := tw_t 1214 (by decide +kernel) rfl
theorem tw1215 : Jvm.Cond.code ({ cls := "DotRuns$Code", name := "modeNumber", desc := "(II)I" } : Jvm.MethodName) prog_2_method_7_code (3 : Nat) (Option.some Jvm.ClassFile.FieldType.int) ∈ TW := tw_t 1215 (by decide +kernel) rfl
theorem tw1224 : Jvm.Cond.methodLink "DotRuns" (208 : Nat) ({ cls := "DotRuns$Code", name := "readUnder", desc := "(JI)J" } : Jvm.MethodName) ∈ TW := tw_t 1224 (by decide +kernel) rfl
theorem tw1225 : Jvm.Cond.instanceMethod ({ cls := "DotRuns$Code", name := "readUnder", desc := "(JI)J" } : Jvm.MethodName) ∈ TW := tw_t 1225 (by decide +kernel) rfl
theorem tw1226 : Jvm.Cond.selects "DotRuns$Code" ({ cls := "DotRuns$Code", name := "readUnder", desc := "(JI)J" } : Jvm.MethodName) ({ cls := "DotRuns$Code", name := "readUnder", desc := "(JI)J" } : Jvm.MethodName) ∈ TW := tw_t 1226 (by decide +kernel) rfl
theorem tw1227 : Jvm.Cond.code ({ cls := "DotRuns$Code", name := "readUnder", desc := "(JI)J" } : Jvm.MethodName) prog_2_method_8_code (6 : Nat) (Option.some Jvm.ClassFile.FieldType.long) ∈ TW := tw_t 1227 (by decide +kernel) rfl
theorem tw1228 : Jvm.Cond.methodLink "DotRuns$Code" (91 : Nat) ({ cls := "DotRuns$Reading", name := "pass", desc := "()Z" } : Jvm.MethodName) ∈ TW := tw_t 1228 (by decide +kernel) rfl
theorem tw1229 : Jvm.Cond.methodLink "DotRuns$Code" (94 : Nat) ({ cls := "DotRuns$Reading", name := "goVertical", desc := "(I)Z" } : Jvm.MethodName) ∈ TW := tw_t 1229 (by decide +kernel) rfl
theorem tw1230 : Jvm.Cond.methodLink "DotRuns$Code" (98 : Nat) ({ cls := "DotRuns$Reading", name := "goHorizontal", desc := "(II)Z" } : Jvm.MethodName) ∈ TW := tw_t 1230 (by decide +kernel) rfl
theorem tw1253 : Jvm.Cond.methodLink "DotRuns" (253 : Nat) ({ cls := "DotRuns$Sending", name := "prepare", desc := "(LDotRuns$Page;)V" } : Jvm.MethodName) ∈ TW := tw_t 1253 (by decide +kernel) rfl
theorem tw1254 : Jvm.Cond.instanceMethod ({ cls := "DotRuns$Sending", name := "prepare", desc := "(LDotRuns$Page;)V" } : Jvm.MethodName) ∈ TW := tw_t 1254 (by decide +kernel) rfl
theorem tw1255 : Jvm.Cond.selects "DotRuns$Sending" ({ cls := "DotRuns$Sending", name := "prepare", desc := "(LDotRuns$Page;)V" } : Jvm.MethodName) ({ cls := "DotRuns$Sending", name := "prepare", desc := "(LDotRuns$Page;)V" } : Jvm.MethodName) ∈ TW := tw_t 1255 (by decide +kernel) rfl
theorem tw1256 : Jvm.Cond.code ({ cls := "DotRuns$Sending", name := "prepare", desc := "(LDotRuns$Page;)V" } : Jvm.MethodName) prog_7_method_2_code (3 : Nat) (Option.none : Option Jvm.ClassFile.FieldType) ∈ TW := tw_t 1256 (by decide +kernel) rfl
theorem tw1257 : Jvm.Cond.methodLink "DotRuns$Sending" (60 : Nat) ({ cls := "DotRuns$Page", name := "rowAt", desc := "(I)J" } : Jvm.MethodName) ∈ TW := tw_t 1257 (by decide +kernel) rfl
theorem tw1258 : Jvm.Cond.methodLink "DotRuns$Sending" (67 : Nat) ({ cls := "DotRuns$Code", name := "makeFor", desc := "(JJI)V" } : Jvm.MethodName) ∈ TW := tw_t 1258 (by decide +kernel) rfl
theorem tw1260 : Jvm.Cond.methodLink "DotRuns" (256 : Nat) ({ cls := "DotRuns$Sending", name := "sendPage", desc := "(LDotRuns$Page;)V" } : Jvm.MethodName) ∈ TW := tw_t 1260 (by decide +kernel) rfl
theorem tw1261 : Jvm.Cond.instanceMethod ({ cls := "DotRuns$Sending", name := "sendPage", desc := "(LDotRuns$Page;)V" } : Jvm.MethodName) ∈ TW := tw_t 1261 (by decide +kernel) rfl
theorem tw1262 : Jvm.Cond.selects "DotRuns$Sending" ({ cls := "DotRuns$Sending", name := "sendPage", desc := "(LDotRuns$Page;)V" } : Jvm.MethodName) ({ cls := "DotRuns$Sending", name := "sendPage", desc := "(LDotRuns$Page;)V" } : Jvm.MethodName) ∈ TW := tw_t 1262 (by decide +kernel) rfl
theorem tw1263 : Jvm.Cond.code ({ cls := "DotRuns$Sending", name := "sendPage", desc := "(LDotRuns$Page;)V" } : Jvm.MethodName) prog_7_method_4_code (4 : Nat) (Option.none : Option Jvm.ClassFile.FieldType) ∈ TW := tw_t 1263 (by decide +kernel) rfl
theorem tw1264 : Jvm.Cond.methodLink "DotRuns$Sending" (78 : Nat) ({ cls := "DotRuns$Sending", name := "clear", desc := "()V" } : Jvm.MethodName) ∈ TW := tw_t 1264 (by decide +kernel) rfl
theorem tw1266 : Jvm.Cond.instanceMethod ({ cls := "DotRuns$Sending", name := "clear", desc := "()V" } : Jvm.MethodName) ∈ TW := tw_t 1266 (by decide +kernel) rfl
theorem tw1267 : Jvm.Cond.code ({ cls := "DotRuns$Sending", name := "clear", desc := "()V" } : Jvm.MethodName) prog_7_method_5_code (2 : Nat) (Option.none : Option Jvm.ClassFile.FieldType) ∈ TW := tw_t 1267 (by decide +kernel) rfl
theorem tw1268 : Jvm.Cond.methodLink "DotRuns$Sending" (81 : Nat) ({ cls := "DotRuns$Page", name := "hasLine", desc := "(I)Z" } : Jvm.MethodName) ∈ TW := tw_t 1268 (by decide +kernel) rfl
theorem tw1269 : Jvm.Cond.methodLink "DotRuns$Sending" (85 : Nat) ({ cls := "DotRuns$Sending", name := "sendOne", desc := "(LDotRuns$Page;I)I" } : Jvm.MethodName) ∈ TW := tw_t 1269 (by decide +kernel) rfl
theorem tw1271 : Jvm.Cond.instanceMethod ({ cls := "DotRuns$Sending", name := "sendOne", desc := "(LDotRuns$Page;I)I" } : Jvm.MethodName) ∈ TW := tw_t 1271 (by decide +kernel) rfl
theorem tw1272 : Jvm.Cond.code ({ cls := "DotRuns$Sending", name := "sendOne", desc := "(LDotRuns$Page;I)I" } : Jvm.MethodName) prog_7_method_6_code (8 : Nat) (Option.some Jvm.ClassFile.FieldType.int) ∈ TW := tw_t 1272 (by decide +kernel) rfl
theorem tw1273 : Jvm.Cond.methodLink "DotRuns$Sending" (102 : Nat) ({ cls := "DotRuns$Sending", name := "isSentAlone", desc := "(LDotRuns$Page;I)Z" } : Jvm.MethodName) ∈ TW := tw_t 1273 (by decide +kernel) rfl
theorem tw1275 : Jvm.Cond.instanceMethod ({ cls := "DotRuns$Sending", name := "isSentAlone", desc := "(LDotRuns$Page;I)Z" } : Jvm.MethodName) ∈ TW := tw_t 1275 (by decide +kernel) rfl
theorem tw1276 : Jvm.Cond.code ({ cls := "DotRuns$Sending", name := "isSentAlone", desc := "(LDotRuns$Page;I)Z" } : Jvm.MethodName) prog_7_method_8_code (3 : Nat) (Option.some Jvm.ClassFile.FieldType.boolean) ∈ TW := tw_t 1276 (by decide +kernel) rfl
theorem tw1278 : Jvm.Cond.constantLong "DotRuns$Sending" (106 : Nat) (-1 : Int64) ∈ TW := tw_t 1278 (by decide +kernel) rfl
theorem tw1279 : Jvm.Cond.methodLink "DotRuns$Sending" (108 : Nat) ({ cls := "DotRuns$Sending", name := "readByAbove", desc := "(LDotRuns$Page;I)J" } : Jvm.MethodName) ∈ TW := tw_t 1279 (by decide +kernel) rfl
theorem tw1281 : Jvm.Cond.instanceMethod ({ cls := "DotRuns$Sending", name := "readByAbove", desc := "(LDotRuns$Page;I)J" } : Jvm.MethodName) ∈ TW := tw_t 1281 (by decide +kernel) rfl
theorem tw1282 : Jvm.Cond.code ({ cls := "DotRuns$Sending", name := "readByAbove", desc := "(LDotRuns$Page;I)J" } : Jvm.MethodName) prog_7_method_10_code (3 : Nat) (Option.some Jvm.ClassFile.FieldType.long) ∈ TW := tw_t 1282 (by decide +kernel) rfl
theorem tw1283 : Jvm.Cond.methodLink "DotRuns$Sending" (115 : Nat) ({ cls := "DotRuns$Sending", name := "rowAbove", desc := "(I)J" } : Jvm.MethodName) ∈ TW := tw_t 1283 (by decide +kernel) rfl
theorem tw1285 : Jvm.Cond.instanceMethod ({ cls := "DotRuns$Sending", name := "rowAbove", desc := "(I)J" } : Jvm.MethodName) ∈ TW := tw_t 1285 (by decide +kernel) rfl
theorem tw1286 : Jvm.Cond.code ({ cls := "DotRuns$Sending", name := "rowAbove", desc := "(I)J" } : Jvm.MethodName) prog_7_method_9_code (2 : Nat) (Option.some Jvm.ClassFile.FieldType.long) ∈ TW := tw_t 1286 (by decide +kernel) rfl
theorem tw1287 : Jvm.Cond.methodLink "DotRuns$Sending" (122 : Nat) ({ cls := "DotRuns$Code", name := "readUnder", desc := "(JI)J" } : Jvm.MethodName) ∈ TW := tw_t 1287 (by decide +kernel) rfl
theorem tw1288 : Jvm.Cond.methodLink "DotRuns$Sending" (112 : Nat) ({ cls := "DotRuns$Sending", name := "stepBack", desc := "(LDotRuns$Page;I)I" } : Jvm.MethodName) ∈ TW := tw_t 1288 (by decide +kernel) rfl
theorem tw1290 : Jvm.Cond.instanceMethod ({ cls := "DotRuns$Sending", name := "stepBack", desc := "(LDotRuns$Page;I)I" } : Jvm.MethodName) ∈ TW := tw_t 1290 (by decide +kernel) rfl
theorem tw1291 : Jvm.Cond.code ({ cls := "DotRuns$Sending", name := "stepBack", desc := "(LDotRuns$Page;I)I" } : Jvm.MethodName) prog_7_method_7_code (4 : Nat) (Option.some Jvm.ClassFile.FieldType.int) ∈ TW := tw_t 1291 (by decide +kernel) rfl
theorem tw1292 : Jvm.Cond.methodLink "DotRuns" (266 : Nat) ({ cls := "DotRuns$Sending", name := "wrongDots", desc := "(LDotRuns$Page;)I" } : Jvm.MethodName) ∈ TW := tw_t 1292 (by decide +kernel) rfl
theorem tw1293 : Jvm.Cond.instanceMethod ({ cls := "DotRuns$Sending", name := "wrongDots", desc := "(LDotRuns$Page;)I" } : Jvm.MethodName) ∈ TW := tw_t 1293 (by decide +kernel) rfl
theorem tw1294 : Jvm.Cond.selects "DotRuns$Sending" ({ cls := "DotRuns$Sending", name := "wrongDots", desc := "(LDotRuns$Page;)I" } : Jvm.MethodName) ({ cls := "DotRuns$Sending", name := "wrongDots", desc := "(LDotRuns$Page;)I" } : Jvm.MethodName) ∈ TW := tw_t 1294 (by decide +kernel) rfl
theorem tw1295 : Jvm.Cond.code ({ cls := "DotRuns$Sending", name := "wrongDots", desc := "(LDotRuns$Page;)I" } : Jvm.MethodName) prog_7_method_13_code (4 : Nat) (Option.some Jvm.ClassFile.FieldType.int) ∈ TW := tw_t 1295 (by decide +kernel) rfl
theorem tw1296 : Jvm.Cond.methodLink "DotRuns$Sending" (132 : Nat) ({ cls := "DotRuns$Sending", name := "wrongDotsOf", desc := "(ILDotRuns$Page;)I" } : Jvm.MethodName) ∈ TW := tw_t 1296 (by decide +kernel) rfl
theorem tw1297 : Jvm.Cond.instanceMethod ({ cls := "DotRuns$Sending", name := "wrongDotsOf", desc := "(ILDotRuns$Page;)I" } : Jvm.MethodName) ∈ TW := tw_t 1297 (by decide +kernel) rfl
theorem tw1298 : Jvm.Cond.selects "DotRuns$Sending" ({ cls := "DotRuns$Sending", name := "wrongDotsOf", desc := "(ILDotRuns$Page;)I" } : Jvm.MethodName) ({ cls := "DotRuns$Sending", name := "wrongDotsOf", desc := "(ILDotRuns$Page;)I" } : Jvm.MethodName) ∈ TW := tw_t 1298 (by decide +kernel) rfl
theorem tw1299 : Jvm.Cond.code ({ cls := "DotRuns$Sending", name := "wrongDotsOf", desc := "(ILDotRuns$Page;)I" } : Jvm.MethodName) prog_7_method_12_code (3 : Nat) (Option.some Jvm.ClassFile.FieldType.int) ∈ TW := tw_t 1299 (by decide +kernel) rfl
theorem tw1300 : Jvm.Cond.methodLink "DotRuns$Sending" (126 : Nat) ({ cls := "java/lang/Long", name := "bitCount", desc := "(J)I" } : Jvm.MethodName) ∈ TW := tw_t 1300 (by decide +kernel) rfl
theorem tw1301 : Jvm.Cond.methodLink "DotRuns" (276 : Nat) ({ cls := "DotRuns$Sending", name := "linesOfState", desc := "(II)I" } : Jvm.MethodName) ∈ TW := tw_t 1301 (by decide +kernel) rfl
theorem tw1302 : Jvm.Cond.instanceMethod ({ cls := "DotRuns$Sending", name := "linesOfState", desc := "(II)I" } : Jvm.MethodName) ∈ TW := tw_t 1302 (by decide +kernel) rfl
theorem tw1303 : Jvm.Cond.selects "DotRuns$Sending" ({ cls := "DotRuns$Sending", name := "linesOfState", desc := "(II)I" } : Jvm.MethodName) ({ cls := "DotRuns$Sending", name := "linesOfState", desc := "(II)I" } : Jvm.MethodName) ∈ TW := tw_t 1303 (by decide +kernel) rfl
theorem tw1304 : Jvm.Cond.code ({ cls := "DotRuns$Sending", name := "linesOfState", desc := "(II)I" } : Jvm.MethodName) prog_7_method_11_code (5 : Nat) (Option.some Jvm.ClassFile.FieldType.int) ∈ TW := tw_t 1304 (by decide +kernel) rfl
theorem tw1317 : Jvm.Cond.methodLink "DotRuns" (288 : Nat) ({ cls := "DotRuns$Sending", name := "wrongDotsOf", desc := "(ILDotRuns$Page;)I" } : Jvm.MethodName) ∈ TW := tw_t 1317 (by decide +kernel) rfl
theorem tw1330 : Jvm.Cond.methodLink "DotRuns" (299 : Nat) ({ cls := "DotRuns$Sending", name := "loseOnly", desc := "(I)V" } : Jvm.MethodName) ∈ TW := tw_t 1330 (by decide +kernel) rfl
theorem tw1331 : Jvm.Cond.instanceMethod ({ cls := "DotRuns$Sending", name := "loseOnly", desc := "(I)V" } : Jvm.MethodName) ∈ TW := tw_t 1331 (by decide +kernel) rfl
theorem tw1332 : Jvm.Cond.selects "DotRuns$Sending" ({ cls := "DotRuns$Sending", name := "loseOnly", desc := "(I)V" } : Jvm.MethodName) ({ cls := "DotRuns$Sending", name := "loseOnly", desc := "(I)V" } : Jvm.MethodName) ∈ TW := tw_t 1332 (by decide +kernel) rfl
theorem tw1333 : Jvm.Cond.code ({ cls := "DotRuns$Sending", name := "loseOnly", desc := "(I)V" } : Jvm.MethodName) prog_7_method_3_code (3 : Nat) (Option.none : Option Jvm.ClassFile.FieldType) ∈ TW := tw_t 1333 (by decide +kernel) rfl
theorem tw1334 : Jvm.Cond.methodLink "DotRuns" (302 : Nat) ({ cls := "DotRuns$Sending", name := "wrongLines", desc := "(LDotRuns$Page;)I" } : Jvm.MethodName) ∈ TW := tw_t 1334 (by decide +kernel) rfl
theorem tw1335 : Jvm.Cond.instanceMethod ({ cls := "DotRuns$Sending", name := "wrongLines", desc := "(LDotRuns$Page;)I" } : Jvm.MethodName) ∈ TW := tw_t 1335 (by decide +kernel) rfl
theorem tw1336 : Jvm.Cond.selects "DotRuns$Sending" ({ cls := "DotRuns$Sending", name := "wrongLines", desc := "(LDotRuns$Page;)I" } : Jvm.MethodName) ({ cls := "DotRuns$Sending", name := "wrongLines", desc := "(LDotRuns$Page;)I" } : Jvm.MethodName) ∈ TW := tw_t 1336 (by decide +kernel) rfl
theorem tw1337 : Jvm.Cond.code ({ cls := "DotRuns$Sending", name := "wrongLines", desc := "(LDotRuns$Page;)I" } : Jvm.MethodName) prog_7_method_14_code (4 : Nat) (Option.some Jvm.ClassFile.FieldType.int) ∈ TW := tw_t 1337 (by decide +kernel) rfl
theorem tw1338 : Jvm.Cond.methodLink "DotRuns" (305 : Nat) ({ cls := "DotRuns$Sending", name := "lastWrongLine", desc := "(LDotRuns$Page;)I" } : Jvm.MethodName) ∈ TW := tw_t 1338 (by decide +kernel) rfl
theorem tw1339 : Jvm.Cond.instanceMethod ({ cls := "DotRuns$Sending", name := "lastWrongLine", desc := "(LDotRuns$Page;)I" } : Jvm.MethodName) ∈ TW := tw_t 1339 (by decide +kernel) rfl
theorem tw1340 : Jvm.Cond.selects "DotRuns$Sending" ({ cls := "DotRuns$Sending", name := "lastWrongLine", desc := "(LDotRuns$Page;)I" } : Jvm.MethodName) ({ cls := "DotRuns$Sending", name := "lastWrongLine", desc := "(LDotRuns$Page;)I" } : Jvm.MethodName) ∈ TW := tw_t 1340 (by decide +kernel) rfl
theorem tw1341 : Jvm.Cond.code ({ cls := "DotRuns$Sending", name := "lastWrongLine", desc := "(LDotRuns$Page;)I" } : Jvm.MethodName) prog_7_method_15_code (3 : Nat) (Option.some Jvm.ClassFile.FieldType.int) ∈ TW := tw_t 1341 (by decide +kernel) rfl
theorem tw1350 : Jvm.Cond.fieldLink "DotRuns" (308 : Nat) "DotRuns" "LEAST_SETTINGS" "[I" ∈ TW := tw_t 1350 (by decide +kernel) rfl
theorem tw1351 : Jvm.Cond.fieldLink "DotRuns" (311 : Nat) "DotRuns" "MOST_SETTINGS" "[I" ∈ TW := tw_t 1351 (by decide +kernel) rfl
theorem tw1493 : Jvm.Cond.fieldLink "java/lang/String" (9 : Nat) "java/lang/String" "value" "[B" ∈ TW := tw_t 1493 (by decide +kernel) rfl
theorem tw1494 : Jvm.Cond.fieldLink "java/lang/String" (15 : Nat) "java/lang/String" "coder" "B" ∈ TW := tw_t 1494 (by decide +kernel) rfl
theorem tw1519 : Jvm.Cond.methodLink "DotRuns" (72 : Nat) ({ cls := "DotRuns$Tokens", name := "append", desc := "(I)V" } : Jvm.MethodName) ∈ TW := tw_t 1519 (by decide +kernel) rfl
theorem tw1520 : Jvm.Cond.instanceMethod ({ cls := "DotRuns$Tokens", name := "append", desc := "(I)V" } : Jvm.MethodName) ∈ TW := tw_t 1520 (by decide +kernel) rfl
theorem tw1521 : Jvm.Cond.selects "DotRuns$Tokens" ({ cls := "DotRuns$Tokens", name := "append", desc := "(I)V" } : Jvm.MethodName) ({ cls := "DotRuns$Tokens", name := "append", desc := "(I)V" } : Jvm.MethodName) ∈ TW := tw_t 1521 (by decide +kernel) rfl
theorem tw1522 : Jvm.Cond.code ({ cls := "DotRuns$Tokens", name := "append", desc := "(I)V" } : Jvm.MethodName) prog_8_method_2_code (2 : Nat) (Option.none : Option Jvm.ClassFile.FieldType) ∈ TW := tw_t 1522 (by decide +kernel) rfl
