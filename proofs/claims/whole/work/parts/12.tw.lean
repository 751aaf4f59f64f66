theorem twp0 : Cond.selects "DotRuns$Tokens" ⟨"DotRuns$Tokens", "byteAt", "(I)I"⟩ ⟨"DotRuns$Tokens", "byteAt", "(I)I"⟩ ∈ TW := tw_p 0 (by decide +kernel) rfl
theorem twp1 : Cond.selects "DotRuns$Parser" ⟨"DotRuns$Parser", "readWide", "()Z"⟩ ⟨"DotRuns$Parser", "readWide", "()Z"⟩ ∈ TW := tw_p 1 (by decide +kernel) rfl
theorem twp2 : Cond.selects "DotRuns$Parser" ⟨"DotRuns$Parser", "needNumber", "(II)Z"⟩ ⟨"DotRuns$Parser", "needNumber", "(II)Z"⟩ ∈ TW := tw_p 2 (by decide +kernel) rfl
theorem twp3 : Cond.selects "DotRuns$Parser" ⟨"DotRuns$Parser", "failHere", "(I)Z"⟩ ⟨"DotRuns$Parser", "failHere", "(I)Z"⟩ ∈ TW := tw_p 3 (by decide +kernel) rfl
theorem twp4 : Cond.selects "DotRuns$Parser" ⟨"DotRuns$Parser", "readSemicolon", "()Z"⟩ ⟨"DotRuns$Parser", "readSemicolon", "()Z"⟩ ∈ TW := tw_p 4 (by decide +kernel) rfl
theorem twp5 : Cond.selects "DotRuns$Parser" ⟨"DotRuns$Parser", "readStatement", "()Z"⟩ ⟨"DotRuns$Parser", "readStatement", "()Z"⟩ ∈ TW := tw_p 5 (by decide +kernel) rfl
theorem twp6 : Cond.selects "DotRuns$Parser" ⟨"DotRuns$Parser", "readSet", "()Z"⟩ ⟨"DotRuns$Parser", "readSet", "()Z"⟩ ∈ TW := tw_p 6 (by decide +kernel) rfl
theorem twp7 : Cond.selects "DotRuns$Parser" ⟨"DotRuns$Parser", "readLoss", "()Z"⟩ ⟨"DotRuns$Parser", "readLoss", "()Z"⟩ ∈ TW := tw_p 7 (by decide +kernel) rfl
theorem twp8 : Cond.selects "DotRuns$Parser" ⟨"DotRuns$Parser", "readRow", "()Z"⟩ ⟨"DotRuns$Parser", "readRow", "()Z"⟩ ∈ TW := tw_p 8 (by decide +kernel) rfl
theorem twp9 : Cond.selects "DotRuns$Parser" ⟨"DotRuns$Parser", "readAlone", "()Z"⟩ ⟨"DotRuns$Parser", "readAlone", "()Z"⟩ ∈ TW := tw_p 9 (by decide +kernel) rfl
theorem twp10 : Cond.selects "DotRuns$Parser" ⟨"DotRuns$Parser", "endCode", "(ZJ)Z"⟩ ⟨"DotRuns$Parser", "endCode", "(ZJ)Z"⟩ ∈ TW := tw_p 10 (by decide +kernel) rfl
theorem twp11 : Cond.selects "DotRuns$Parser" ⟨"DotRuns$Parser", "readAbove", "()Z"⟩ ⟨"DotRuns$Parser", "readAbove", "()Z"⟩ ∈ TW := tw_p 11 (by decide +kernel) rfl
theorem twp12 : Cond.selects "DotRuns$Parser" ⟨"DotRuns$Parser", "readPass", "()Z"⟩ ⟨"DotRuns$Parser", "readPass", "()Z"⟩ ∈ TW := tw_p 12 (by decide +kernel) rfl
theorem twp13 : Cond.selects "DotRuns$Reading" ⟨"DotRuns$Reading", "goTo", "(IZ)Z"⟩ ⟨"DotRuns$Reading", "goTo", "(IZ)Z"⟩ ∈ TW := tw_p 13 (by decide +kernel) rfl
theorem twp14 : Cond.selects "DotRuns$Parser" ⟨"DotRuns$Parser", "needRead", "(ZI)Z"⟩ ⟨"DotRuns$Parser", "needRead", "(ZI)Z"⟩ ∈ TW := tw_p 14 (by decide +kernel) rfl
theorem twp15 : Cond.selects "DotRuns$Parser" ⟨"DotRuns$Parser", "readVertical", "()Z"⟩ ⟨"DotRuns$Parser", "readVertical", "()Z"⟩ ∈ TW := tw_p 15 (by decide +kernel) rfl
theorem twp16 : Cond.selects "DotRuns$Parser" ⟨"DotRuns$Parser", "readHorizontal", "()Z"⟩ ⟨"DotRuns$Parser", "readHorizontal", "()Z"⟩ ∈ TW := tw_p 16 (by decide +kernel) rfl
theorem twp17 : Cond.selects "DotRuns$Code" ⟨"DotRuns$Code", "addMode", "(JI)V"⟩ ⟨"DotRuns$Code", "addMode", "(JI)V"⟩ ∈ TW := tw_p 17 (by decide +kernel) rfl
theorem twp18 : Cond.selects "DotRuns$Code" ⟨"DotRuns$Code", "putMode", "(IIII)V"⟩ ⟨"DotRuns$Code", "putMode", "(IIII)V"⟩ ∈ TW := tw_p 18 (by decide +kernel) rfl
theorem twp19 : Cond.selects "DotRuns$Sending" ⟨"DotRuns$Sending", "clear", "()V"⟩ ⟨"DotRuns$Sending", "clear", "()V"⟩ ∈ TW := tw_p 19 (by decide +kernel) rfl
theorem twp20 : Cond.selects "DotRuns$Sending" ⟨"DotRuns$Sending", "sendOne", "(LDotRuns$Page;I)I"⟩ ⟨"DotRuns$Sending", "sendOne", "(LDotRuns$Page;I)I"⟩ ∈ TW := tw_p 20 (by decide +kernel) rfl
theorem twp21 : Cond.selects "DotRuns$Sending" ⟨"DotRuns$Sending", "isSentAlone", "(LDotRuns$Page;I)Z"⟩ ⟨"DotRuns$Sending", "isSentAlone", "(LDotRuns$Page;I)Z"⟩ ∈ TW := tw_p 21 (by decide +kernel) rfl
theorem twp22 : Cond.selects "DotRuns$Sending" ⟨"DotRuns$Sending", "readByAbove", "(LDotRuns$Page;I)J"⟩ ⟨"DotRuns$Sending", "readByAbove", "(LDotRuns$Page;I)J"⟩ ∈ TW := tw_p 22 (by decide +kernel) rfl
theorem twp23 : Cond.selects "DotRuns$Sending" ⟨"DotRuns$Sending", "rowAbove", "(I)J"⟩ ⟨"DotRuns$Sending", "rowAbove", "(I)J"⟩ ∈ TW := tw_p 23 (by decide +kernel) rfl
theorem twp24 : Cond.selects "DotRuns$Sending" ⟨"DotRuns$Sending", "stepBack", "(LDotRuns$Page;I)I"⟩ ⟨"DotRuns$Sending", "stepBack", "(LDotRuns$Page;I)I"⟩ ∈ TW := tw_p 24 (by decide +kernel) rfl
theorem twp25 : Cond.selects "DotRuns" ⟨"DotRuns", "marks", "()I"⟩ ⟨"DotRuns", "marks", "()I"⟩ ∈ TW := tw_p 25 (by decide +kernel) rfl
theorem twp26 : Cond.selects "DotRuns" ⟨"DotRuns", "isMark", "(I)Z"⟩ ⟨"DotRuns", "isMark", "(I)Z"⟩ ∈ TW := tw_p 26 (by decide +kernel) rfl
theorem twp27 : Cond.selects "DotRuns" ⟨"DotRuns", "codeLine", "(I)V"⟩ ⟨"DotRuns", "codeLine", "(I)V"⟩ ∈ TW := tw_p 27 (by decide +kernel) rfl
theorem twp29 : Cond.selects "DotRuns" ⟨"DotRuns", "blackDots", "()I"⟩ ⟨"DotRuns", "blackDots", "()I"⟩ ∈ TW := tw_p 29 (by decide +kernel) rfl
theorem twp30 : Cond.selects "DotRuns" ⟨"DotRuns", "allChanges", "()I"⟩ ⟨"DotRuns", "allChanges", "()I"⟩ ∈ TW := tw_p 30 (by decide +kernel) rfl
theorem twp31 : Cond.selects "DotRuns" ⟨"DotRuns", "linesAsAbove", "()I"⟩ ⟨"DotRuns", "linesAsAbove", "()I"⟩ ∈ TW := tw_p 31 (by decide +kernel) rfl
theorem twp32 : Cond.selects "DotRuns" ⟨"DotRuns", "needDot", "(II)V"⟩ ⟨"DotRuns", "needDot", "(II)V"⟩ ∈ TW := tw_p 32 (by decide +kernel) rfl
theorem twp33 : Cond.selects "DotRuns" ⟨"DotRuns", "needLine", "(I)V"⟩ ⟨"DotRuns", "needLine", "(I)V"⟩ ∈ TW := tw_p 33 (by decide +kernel) rfl
theorem twp34 : Cond.selects "DotRuns" ⟨"DotRuns", "latestMark", "(I)I"⟩ ⟨"DotRuns", "latestMark", "(I)I"⟩ ∈ TW := tw_p 34 (by decide +kernel) rfl
theorem twp35 : Cond.selects "DotRuns" ⟨"DotRuns", "needPlace", "(II)V"⟩ ⟨"DotRuns", "needPlace", "(II)V"⟩ ∈ TW := tw_p 35 (by decide +kernel) rfl
theorem twp36 : Cond.selects "DotRuns" ⟨"DotRuns", "longestRun", "(JI)I"⟩ ⟨"DotRuns", "longestRun", "(JI)I"⟩ ∈ TW := tw_p 36 (by decide +kernel) rfl
theorem twp37 : Cond.selects "DotRuns" ⟨"DotRuns", "runsJustOf", "(JII)I"⟩ ⟨"DotRuns", "runsJustOf", "(JII)I"⟩ ∈ TW := tw_p 37 (by decide +kernel) rfl
theorem twp38 : Cond.selects "DotRuns" ⟨"DotRuns", "needSpan", "(II)V"⟩ ⟨"DotRuns", "needSpan", "(II)V"⟩ ∈ TW := tw_p 38 (by decide +kernel) rfl
theorem twp39 : Cond.selects "DotRuns" ⟨"DotRuns", "needRoom", "()V"⟩ ⟨"DotRuns", "needRoom", "()V"⟩ ∈ TW := tw_p 39 (by decide +kernel) rfl
theorem twp40 : Cond.selects "DotRuns" ⟨"DotRuns", "writeAlone", "(J)V"⟩ ⟨"DotRuns", "writeAlone", "(J)V"⟩ ∈ TW := tw_p 40 (by decide +kernel) rfl
theorem twp41 : Cond.selects "DotRuns" ⟨"DotRuns", "putWord", "(Ljava/lang/String;)V"⟩ ⟨"DotRuns", "putWord", "(Ljava/lang/String;)V"⟩ ∈ TW := tw_p 41 (by decide +kernel) rfl
theorem twp42 : Cond.selects "DotRuns" ⟨"DotRuns", "putSign", "(C)V"⟩ ⟨"DotRuns", "putSign", "(C)V"⟩ ∈ TW := tw_p 42 (by decide +kernel) rfl
theorem twp43 : Cond.selects "DotRuns" ⟨"DotRuns", "putNumber", "(I)V"⟩ ⟨"DotRuns", "putNumber", "(I)V"⟩ ∈ TW := tw_p 43 (by decide +kernel) rfl
theorem twp44 : Cond.selects "DotRuns" ⟨"DotRuns", "writeAbove", "()V"⟩ ⟨"DotRuns", "writeAbove", "()V"⟩ ∈ TW := tw_p 44 (by decide +kernel) rfl
theorem twp45 : Cond.selects "DotRuns" ⟨"DotRuns", "writeMode", "(I)V"⟩ ⟨"DotRuns", "writeMode", "(I)V"⟩ ∈ TW := tw_p 45 (by decide +kernel) rfl
theorem twp46 : Cond.selects "DotRunsModel" ⟨"DotRunsModel", "begins", "(I)V"⟩ ⟨"DotRunsModel", "begins", "(I)V"⟩ ∈ TW := tw_p 46 (by decide +kernel) rfl
theorem twp47 : Cond.selects "DotRunsModel" ⟨"DotRunsModel", "sumOf", "(I)I"⟩ ⟨"DotRunsModel", "sumOf", "(I)I"⟩ ∈ TW := tw_p 47 (by decide +kernel) rfl
theorem twp48 : Cond.selects "DotRunsModel" ⟨"DotRunsModel", "blacks", "(I)I"⟩ ⟨"DotRunsModel", "blacks", "(I)I"⟩ ∈ TW := tw_p 48 (by decide +kernel) rfl
theorem twp49 : Cond.selects "DotRunsModel" ⟨"DotRunsModel", "changes", "(I)I"⟩ ⟨"DotRunsModel", "changes", "(I)I"⟩ ∈ TW := tw_p 49 (by decide +kernel) rfl
theorem twp50 : Cond.selects "DotRunsModel" ⟨"DotRunsModel", "ahead", "(II)I"⟩ ⟨"DotRunsModel", "ahead", "(II)I"⟩ ∈ TW := tw_p 50 (by decide +kernel) rfl
theorem twp51 : Cond.selects "DotRunsModel" ⟨"DotRunsModel", "isMark", "(I)Z"⟩ ⟨"DotRunsModel", "isMark", "(I)Z"⟩ ∈ TW := tw_p 51 (by decide +kernel) rfl
theorem twp52 : Cond.selects "DotRunsModel" ⟨"DotRunsModel", "codesLine", "(I)V"⟩ ⟨"DotRunsModel", "codesLine", "(I)V"⟩ ∈ TW := tw_p 52 (by decide +kernel) rfl
theorem twp53 : Cond.selects "DotRunsModel" ⟨"DotRunsModel", "laysLine", "(I)V"⟩ ⟨"DotRunsModel", "laysLine", "(I)V"⟩ ∈ TW := tw_p 53 (by decide +kernel) rfl
theorem twp54 : Cond.selects "DotRunsModel" ⟨"DotRunsModel", "laysUpper", "([II)V"⟩ ⟨"DotRunsModel", "laysUpper", "([II)V"⟩ ∈ TW := tw_p 54 (by decide +kernel) rfl
theorem twp55 : Cond.selects "DotRunsModel" ⟨"DotRunsModel", "laysLower", "([II)V"⟩ ⟨"DotRunsModel", "laysLower", "([II)V"⟩ ∈ TW := tw_p 55 (by decide +kernel) rfl
theorem twp56 : Cond.selects "DotRunsModel" ⟨"DotRunsModel", "codes", "()V"⟩ ⟨"DotRunsModel", "codes", "()V"⟩ ∈ TW := tw_p 56 (by decide +kernel) rfl
theorem twp57 : Cond.selects "DotRunsModel" ⟨"DotRunsModel", "dotBehind", "(II)I"⟩ ⟨"DotRunsModel", "dotBehind", "(II)I"⟩ ∈ TW := tw_p 57 (by decide +kernel) rfl
theorem twp58 : Cond.selects "DotRunsModel" ⟨"DotRunsModel", "changeBehind", "(II)I"⟩ ⟨"DotRunsModel", "changeBehind", "(II)I"⟩ ∈ TW := tw_p 58 (by decide +kernel) rfl
theorem twp59 : Cond.selects "DotRunsModel" ⟨"DotRunsModel", "isChange", "(I)Z"⟩ ⟨"DotRunsModel", "isChange", "(I)Z"⟩ ∈ TW := tw_p 59 (by decide +kernel) rfl
theorem twp60 : Cond.selects "DotRunsModel" ⟨"DotRunsModel", "adds", "(IIII)V"⟩ ⟨"DotRunsModel", "adds", "(IIII)V"⟩ ∈ TW := tw_p 60 (by decide +kernel) rfl
theorem twp61 : Cond.selects "DotRunsModel" ⟨"DotRunsModel", "codesAlone", "()V"⟩ ⟨"DotRunsModel", "codesAlone", "()V"⟩ ∈ TW := tw_p 61 (by decide +kernel) rfl
theorem twp62 : Cond.selects "DotRunsModel" ⟨"DotRunsModel", "aloneBits", "()I"⟩ ⟨"DotRunsModel", "aloneBits", "()I"⟩ ∈ TW := tw_p 62 (by decide +kernel) rfl
theorem twp63 : Cond.selects "DotRunsModel" ⟨"DotRunsModel", "codeBits", "()I"⟩ ⟨"DotRunsModel", "codeBits", "()I"⟩ ∈ TW := tw_p 63 (by decide +kernel) rfl
theorem twp64 : Cond.selects "DotRunsModel" ⟨"DotRunsModel", "differs", "(II)I"⟩ ⟨"DotRunsModel", "differs", "(II)I"⟩ ∈ TW := tw_p 64 (by decide +kernel) rfl
theorem twp65 : Cond.selects "DotRunsModel" ⟨"DotRunsModel", "isDot", "(II)Z"⟩ ⟨"DotRunsModel", "isDot", "(II)Z"⟩ ∈ TW := tw_p 65 (by decide +kernel) rfl
theorem twp66 : Cond.selects "DotRunsModel" ⟨"DotRunsModel", "isLine", "(I)Z"⟩ ⟨"DotRunsModel", "isLine", "(I)Z"⟩ ∈ TW := tw_p 66 (by decide +kernel) rfl
theorem twp67 : Cond.selects "DotRunsModel" ⟨"DotRunsModel", "sentBits", "(I)I"⟩ ⟨"DotRunsModel", "sentBits", "(I)I"⟩ ∈ TW := tw_p 67 (by decide +kernel) rfl
theorem twp68 : Cond.selects "DotRunsModel" ⟨"DotRunsModel", "markUpTo", "(I)I"⟩ ⟨"DotRunsModel", "markUpTo", "(I)I"⟩ ∈ TW := tw_p 68 (by decide +kernel) rfl
theorem twp69 : Cond.selects "DotRunsModel" ⟨"DotRunsModel", "modesOf", "(I)I"⟩ ⟨"DotRunsModel", "modesOf", "(I)I"⟩ ∈ TW := tw_p 69 (by decide +kernel) rfl
theorem twp70 : Cond.selects "DotRunsModel" ⟨"DotRunsModel", "rowFrom", "(III)I"⟩ ⟨"DotRunsModel", "rowFrom", "(III)I"⟩ ∈ TW := tw_p 70 (by decide +kernel) rfl
theorem twp71 : Cond.selects "DotRunsModel" ⟨"DotRunsModel", "beginsRow", "(III)Z"⟩ ⟨"DotRunsModel", "beginsRow", "(III)Z"⟩ ∈ TW := tw_p 71 (by decide +kernel) rfl
theorem twp72 : Cond.selects "DotRunsModel" ⟨"DotRunsModel", "readsCode", "()Z"⟩ ⟨"DotRunsModel", "readsCode", "()Z"⟩ ∈ TW := tw_p 72 (by decide +kernel) rfl
theorem twp73 : Cond.selects "DotRunsModel" ⟨"DotRunsModel", "startsReading", "()V"⟩ ⟨"DotRunsModel", "startsReading", "()V"⟩ ∈ TW := tw_p 73 (by decide +kernel) rfl
theorem twp74 : Cond.selects "DotRunsModel" ⟨"DotRunsModel", "readsMode", "(III)Z"⟩ ⟨"DotRunsModel", "readsMode", "(III)Z"⟩ ∈ TW := tw_p 74 (by decide +kernel) rfl
theorem twp75 : Cond.selects "DotRunsModel" ⟨"DotRunsModel", "paints", "(III)V"⟩ ⟨"DotRunsModel", "paints", "(III)V"⟩ ∈ TW := tw_p 75 (by decide +kernel) rfl
theorem twp76 : Cond.selects "DotRunsModel" ⟨"DotRunsModel", "keeps", "()V"⟩ ⟨"DotRunsModel", "keeps", "()V"⟩ ∈ TW := tw_p 76 (by decide +kernel) rfl
theorem twp77 : Cond.selects "DotRunsModel" ⟨"DotRunsModel", "isPart", "(II)Z"⟩ ⟨"DotRunsModel", "isPart", "(II)Z"⟩ ∈ TW := tw_p 77 (by decide +kernel) rfl
theorem twp78 : Cond.selects "DotRunsModel" ⟨"DotRunsModel", "clearsLine", "(I)V"⟩ ⟨"DotRunsModel", "clearsLine", "(I)V"⟩ ∈ TW := tw_p 78 (by decide +kernel) rfl
theorem twp79 : Cond.selects "DotRunsModel" ⟨"DotRunsModel", "paintsLine", "(IIII)I"⟩ ⟨"DotRunsModel", "paintsLine", "(IIII)I"⟩ ∈ TW := tw_p 79 (by decide +kernel) rfl
theorem twp80 : Cond.selects "DotRunsModel" ⟨"DotRunsModel", "movesLine", "(II)V"⟩ ⟨"DotRunsModel", "movesLine", "(II)V"⟩ ∈ TW := tw_p 80 (by decide +kernel) rfl
theorem twp81 : Cond.selects "DotRunsModel" ⟨"DotRunsModel", "sendsPage", "()V"⟩ ⟨"DotRunsModel", "sendsPage", "()V"⟩ ∈ TW := tw_p 81 (by decide +kernel) rfl
theorem twp82 : Cond.selects "DotRunsModel" ⟨"DotRunsModel", "laysLosses", "()V"⟩ ⟨"DotRunsModel", "laysLosses", "()V"⟩ ∈ TW := tw_p 82 (by decide +kernel) rfl
theorem twp83 : Cond.selects "DotRunsModel" ⟨"DotRunsModel", "sendsAll", "()V"⟩ ⟨"DotRunsModel", "sendsAll", "()V"⟩ ∈ TW := tw_p 83 (by decide +kernel) rfl
theorem twp84 : Cond.selects "DotRunsModel" ⟨"DotRunsModel", "sends", "(I)I"⟩ ⟨"DotRunsModel", "sends", "(I)I"⟩ ∈ TW := tw_p 84 (by decide +kernel) rfl
theorem twp85 : Cond.selects "DotRunsModel" ⟨"DotRunsModel", "isRead", "(I)Z"⟩ ⟨"DotRunsModel", "isRead", "(I)Z"⟩ ∈ TW := tw_p 85 (by decide +kernel) rfl
theorem twp86 : Cond.selects "DotRunsModel" ⟨"DotRunsModel", "wrongIn", "(I)I"⟩ ⟨"DotRunsModel", "wrongIn", "(I)I"⟩ ∈ TW := tw_p 86 (by decide +kernel) rfl
theorem twp87 : Cond.selects "DotRunsModel" ⟨"DotRunsModel", "fills", "(II)V"⟩ ⟨"DotRunsModel", "fills", "(II)V"⟩ ∈ TW := tw_p 87 (by decide +kernel) rfl
theorem twp88 : Cond.selects "DotRunsModel" ⟨"DotRunsModel", "wrongDots", "()I"⟩ ⟨"DotRunsModel", "wrongDots", "()I"⟩ ∈ TW := tw_p 88 (by decide +kernel) rfl
theorem twp89 : Cond.selects "DotRunsModel" ⟨"DotRunsModel", "statesOf", "(I)I"⟩ ⟨"DotRunsModel", "statesOf", "(I)I"⟩ ∈ TW := tw_p 89 (by decide +kernel) rfl
theorem twp90 : Cond.selects "DotRunsModel" ⟨"DotRunsModel", "sendsHarmed", "(I)V"⟩ ⟨"DotRunsModel", "sendsHarmed", "(I)V"⟩ ∈ TW := tw_p 90 (by decide +kernel) rfl
theorem twp91 : Cond.selects "DotRunsModel" ⟨"DotRunsModel", "harmOf", "(I)I"⟩ ⟨"DotRunsModel", "harmOf", "(I)I"⟩ ∈ TW := tw_p 91 (by decide +kernel) rfl
theorem twp92 : Cond.selects "DotRunsModel" ⟨"DotRunsModel", "advances", "()V"⟩ ⟨"DotRunsModel", "advances", "()V"⟩ ∈ TW := tw_p 92 (by decide +kernel) rfl
theorem twp93 : Cond.selects "DotRunsModel" ⟨"DotRunsModel", "see", "()I"⟩ ⟨"DotRunsModel", "see", "()I"⟩ ∈ TW := tw_p 93 (by decide +kernel) rfl
theorem twp94 : Cond.selects "DotRunsModel" ⟨"DotRunsModel", "wordHere", "()I"⟩ ⟨"DotRunsModel", "wordHere", "()I"⟩ ∈ TW := tw_p 94 (by decide +kernel) rfl
theorem twp95 : Cond.selects "DotRunsModel" ⟨"DotRunsModel", "goesOn", "()V"⟩ ⟨"DotRunsModel", "goesOn", "()V"⟩ ∈ TW := tw_p 95 (by decide +kernel) rfl
theorem twp96 : Cond.selects "DotRunsModel" ⟨"DotRunsModel", "reads", "(II)I"⟩ ⟨"DotRunsModel", "reads", "(II)I"⟩ ∈ TW := tw_p 96 (by decide +kernel) rfl
theorem twp97 : Cond.selects "DotRunsModel" ⟨"DotRunsModel", "looks", "(II)I"⟩ ⟨"DotRunsModel", "looks", "(II)I"⟩ ∈ TW := tw_p 97 (by decide +kernel) rfl
theorem twp98 : Cond.selects "DotRunsModel" ⟨"DotRunsModel", "must", "(ZI)V"⟩ ⟨"DotRunsModel", "must", "(ZI)V"⟩ ∈ TW := tw_p 98 (by decide +kernel) rfl
theorem twp99 : Cond.selects "DotRunsModel" ⟨"DotRunsModel", "readsStatement", "()V"⟩ ⟨"DotRunsModel", "readsStatement", "()V"⟩ ∈ TW := tw_p 99 (by decide +kernel) rfl
theorem twp100 : Cond.selects "DotRunsModel" ⟨"DotRunsModel", "readsLine", "(I)V"⟩ ⟨"DotRunsModel", "readsLine", "(I)V"⟩ ∈ TW := tw_p 100 (by decide +kernel) rfl
theorem twp101 : Cond.selects "DotRunsModel" ⟨"DotRunsModel", "laysTold", "()V"⟩ ⟨"DotRunsModel", "laysTold", "()V"⟩ ∈ TW := tw_p 101 (by decide +kernel) rfl
theorem twp102 : Cond.selects "DotRunsModel" ⟨"DotRunsModel", "readsRow", "()V"⟩ ⟨"DotRunsModel", "readsRow", "()V"⟩ ∈ TW := tw_p 102 (by decide +kernel) rfl
theorem twp103 : Cond.selects "DotRunsModel" ⟨"DotRunsModel", "readsAlone", "()V"⟩ ⟨"DotRunsModel", "readsAlone", "()V"⟩ ∈ TW := tw_p 103 (by decide +kernel) rfl
theorem twp104 : Cond.selects "DotRunsModel" ⟨"DotRunsModel", "readsAbove", "()V"⟩ ⟨"DotRunsModel", "readsAbove", "()V"⟩ ∈ TW := tw_p 104 (by decide +kernel) rfl
theorem twp105 : Cond.selects "DotRunsModel" ⟨"DotRunsModel", "readsOne", "()V"⟩ ⟨"DotRunsModel", "readsOne", "()V"⟩ ∈ TW := tw_p 105 (by decide +kernel) rfl
theorem twp106 : Cond.selects "DotRunsModel" ⟨"DotRunsModel", "addsTold", "()V"⟩ ⟨"DotRunsModel", "addsTold", "()V"⟩ ∈ TW := tw_p 106 (by decide +kernel) rfl
theorem twp107 : Cond.selects "DotRunsModel" ⟨"DotRunsModel", "readsSetting", "()V"⟩ ⟨"DotRunsModel", "readsSetting", "()V"⟩ ∈ TW := tw_p 107 (by decide +kernel) rfl
theorem twp108 : Cond.selects "DotRunsModel" ⟨"DotRunsModel", "readsLoss", "()V"⟩ ⟨"DotRunsModel", "readsLoss", "()V"⟩ ∈ TW := tw_p 108 (by decide +kernel) rfl
theorem twp109 : Cond.selects "DotRunsModel" ⟨"DotRunsModel", "printsWord", "(I)V"⟩ ⟨"DotRunsModel", "printsWord", "(I)V"⟩ ∈ TW := tw_p 109 (by decide +kernel) rfl
theorem twp110 : Cond.selects "DotRunsModel" ⟨"DotRunsModel", "prints", "(I)V"⟩ ⟨"DotRunsModel", "prints", "(I)V"⟩ ∈ TW := tw_p 110 (by decide +kernel) rfl
theorem twp111 : Cond.selects "DotRunsModel" ⟨"DotRunsModel", "printsNumber", "(I)V"⟩ ⟨"DotRunsModel", "printsNumber", "(I)V"⟩ ∈ TW := tw_p 111 (by decide +kernel) rfl
theorem twp112 : Cond.selects "DotRunsModel" ⟨"DotRunsModel", "printsMode", "(I)V"⟩ ⟨"DotRunsModel", "printsMode", "(I)V"⟩ ∈ TW := tw_p 112 (by decide +kernel) rfl
theorem tw1 : Jvm.Cond.initialized "DotRuns" ∈ TW := tw_t 1 (by decide +kernel) rfl
theorem tw2 : Jvm.Cond.initialized "DotRuns$Page" ∈ TW := tw_t 2 (by decide +kernel) rfl
theorem tw3 : Jvm.Cond.initialized "DotRuns$History" ∈ TW := tw_t 3 (by decide +kernel) rfl
theorem tw4 : Jvm.Cond.initialized "DotRuns$Parser" ∈ TW := tw_t 4 (by decide +kernel) rfl
theorem tw5 : Jvm.Cond.initialized "DotRuns$Tokens" ∈ TW := tw_t 5 (by decide +kernel) rfl
theorem tw6 : Jvm.Cond.initialized "DotRuns$Reading" ∈ TW := tw_t 6 (by decide +kernel) rfl
theorem tw7 : Jvm.Cond.initialized "DotRuns$Code" ∈ TW := tw_t 7 (by decide +kernel) rfl
theorem tw8 : Jvm.Cond.initialized "DotRuns$Sending" ∈ TW := tw_t 8 (by decide +kernel) rfl
theorem tw9 : Jvm.Cond.initialized "DotRunsModel" ∈ TW := tw_t 9 (by decide +kernel) rfl
theorem tw13 : Jvm.Cond.initialized "java/lang/IllegalStateException" ∈ TW := tw_t 13 (by decide +kernel) rfl
theorem tw14 : Jvm.Cond.initialized "java/lang/IllegalArgumentException" ∈ TW := tw_t 14 (by decide +kernel) rfl
theorem tw15 : Jvm.Cond.initialized "java/lang/String" ∈ TW := tw_t 15 (by decide +kernel) rfl
theorem tw16 : Jvm.Cond.initialized "java/lang/StringLatin1" ∈ TW := tw_t 16 (by decide +kernel) rfl
theorem tw17 : Jvm.Cond.initialized "jdk/internal/util/Preconditions" ∈ TW := tw_t 17 (by decide +kernel) rfl
theorem tw19 : Jvm.Cond.initialized "java/lang/Math" ∈ TW := tw_t 19 (by decide +kernel) rfl
theorem tw20 : Jvm.Cond.initialized "java/lang/Long" ∈ TW := tw_t 20 (by decide +kernel) rfl
theorem tw21 : Jvm.Cond.initialized "java/lang/IndexOutOfBoundsException" ∈ TW := tw_t 21 (by decide +kernel) rfl
theorem tw27 : Jvm.Cond.methodLink "DotRuns" (1 : Nat) ({ cls := "java/lang/Object", name := "<init>", desc := "()V" } : Jvm.MethodName) ∈ TW := tw_t 27 (by decide +kernel) rfl
theorem tw28 : Jvm.Cond.instanceMethod ({ cls := "java/lang/Object", name := "<init>", desc := "()V" } : Jvm.MethodName) ∈ TW := tw_t 28 (by decide +kernel) rfl
theorem tw29 : Jvm.Cond.code ({ cls := "java/lang/Object", name := "<init>", desc := "()V" } : Jvm.MethodName) object_method_1_code (1 : Nat) (Option.none : Option Jvm.ClassFile.FieldType) ∈ TW := tw_t 29 (by decide +kernel) rfl
theorem tw30 : Jvm.Cond.classLink "DotRuns" (7 : Nat) "DotRuns$Page" ∈ TW := tw_t 30 (by decide +kernel) rfl
theorem tw31 : Jvm.Cond.instantiable "DotRuns$Page" (5 : Nat) ∈ TW := tw_t 31 (by decide +kernel) rfl
theorem tw32 : Jvm.Cond.methodLink "DotRuns" (9 : Nat) ({ cls := "DotRuns$Page", name := "<init>", desc := "()V" } : Jvm.MethodName) ∈ TW := tw_t 32 (by decide +kernel) rfl
theorem tw33 : Jvm.Cond.instanceMethod ({ cls := "DotRuns$Page", name := "<init>", desc := "()V" } : Jvm.MethodName) ∈ TW := tw_t 33 (by decide +kernel) rfl
theorem tw34 : Jvm.Cond.code ({ cls := "DotRuns$Page", name := "<init>", desc := "()V" } : Jvm.MethodName) prog_4_method_1_code (2 : Nat) (Option.none : Option Jvm.ClassFile.FieldType) ∈ TW := tw_t 34 (by decide +kernel) rfl
theorem tw35 : Jvm.Cond.methodLink "DotRuns$Page" (3 : Nat) ({ cls := "java/lang/Object", name := "<init>", desc := "()V" } : Jvm.MethodName) ∈ TW := tw_t 35 (by decide +kernel) rfl
theorem tw38 : Jvm.Cond.fieldLink "DotRuns$Page" (22 : Nat) "DotRuns$Page" "width" "I" ∈ TW := tw_t 38 (by decide +kernel) rfl
theorem tw39 : Jvm.Cond.fieldLink "DotRuns$Sending" (64 : Nat) "DotRuns$Page" "width" "I" ∈ TW := tw_t 39 (by decide +kernel) rfl
theorem tw40 : Jvm.Cond.fieldLink "DotRuns$Parser" (82 : Nat) "DotRuns$Page" "width" "I" ∈ TW := tw_t 40 (by decide +kernel) rfl
theorem tw41 : Jvm.Cond.fieldLink "DotRuns" (108 : Nat) "DotRuns$Page" "width" "I" ∈ TW := tw_t 41 (by decide +kernel) rfl
theorem tw42 : Jvm.Cond.fieldLink "DotRuns$Page" (26 : Nat) "DotRuns$Page" "lines" "I" ∈ TW := tw_t 42 (by decide +kernel) rfl
theorem tw43 : Jvm.Cond.fieldLink "DotRuns$Sending" (57 : Nat) "DotRuns$Page" "lines" "I" ∈ TW := tw_t 43 (by decide +kernel) rfl
theorem tw44 : Jvm.Cond.fieldLink "DotRuns" (93 : Nat) "DotRuns$Page" "lines" "I" ∈ TW := tw_t 44 (by decide +kernel) rfl
theorem tw45 : Jvm.Cond.fieldLink "DotRuns$Parser" (104 : Nat) "DotRuns$Page" "lines" "I" ∈ TW := tw_t 45 (by decide +kernel) rfl
theorem tw46 : Jvm.Cond.fieldLink "DotRuns$Page" (9 : Nat) "DotRuns$Page" "rows" "[J" ∈ TW := tw_t 46 (by decide +kernel) rfl
theorem tw47 : Jvm.Cond.fieldLink "DotRuns$Page" (15 : Nat) "DotRuns$Page" "losses" "[I" ∈ TW := tw_t 47 (by decide +kernel) rfl
theorem tw48 : Jvm.Cond.fieldLink "DotRuns$Sending" (56 : Nat) "DotRuns$Page" "losses" "[I" ∈ TW := tw_t 48 (by decide +kernel) rfl
theorem tw49 : Jvm.Cond.fieldLink "DotRuns" (172 : Nat) "DotRuns$Page" "losses" "[I" ∈ TW := tw_t 49 (by decide +kernel) rfl
theorem tw50 : Jvm.Cond.fieldLink "DotRuns$Parser" (126 : Nat) "DotRuns$Page" "losses" "[I" ∈ TW := tw_t 50 (by decide +kernel) rfl
theorem tw51 : Jvm.Cond.fieldLink "DotRuns$Page" (19 : Nat) "DotRuns$Page" "settings" "[I" ∈ TW := tw_t 51 (by decide +kernel) rfl
theorem tw52 : Jvm.Cond.fieldLink "DotRuns$Sending" (44 : Nat) "DotRuns$Page" "settings" "[I" ∈ TW := tw_t 52 (by decide +kernel) rfl
theorem tw53 : Jvm.Cond.fieldLink "DotRuns" (104 : Nat) "DotRuns$Page" "settings" "[I" ∈ TW := tw_t 53 (by decide +kernel) rfl
theorem tw54 : Jvm.Cond.fieldLink "DotRuns$Parser" (123 : Nat) "DotRuns$Page" "settings" "[I" ∈ TW := tw_t 54 (by decide +kernel) rfl
theorem tw66 : Jvm.Cond.arrayClass Jvm.ClassFile.FieldType.long ∈ TW := tw_t 66 (by decide +kernel) rfl
theorem tw67 : Jvm.Cond.arrayClass Jvm.ClassFile.FieldType.int ∈ TW := tw_t 67 (by decide +kernel) rfl
theorem tw68 : Jvm.Cond.classLink "DotRuns" (16 : Nat) "DotRuns$History" ∈ TW := tw_t 68 (by decide +kernel) rfl
theorem tw69 : Jvm.Cond.instantiable "DotRuns$History" (3 : Nat) ∈ TW := tw_t 69 (by decide +kernel) rfl
theorem tw70 : Jvm.Cond.methodLink "DotRuns" (18 : Nat) ({ cls := "DotRuns$History", name := "<init>", desc := "()V" } : Jvm.MethodName) ∈ TW := tw_t 70 (by decide +kernel) rfl
theorem tw71 : Jvm.Cond.instanceMethod ({ cls := "DotRuns$History", name := "<init>", desc := "()V" } : Jvm.MethodName) ∈ TW := tw_t 71 (by decide +kernel) rfl
theorem tw72 : Jvm.Cond.code ({ cls := "DotRuns$History", name := "<init>", desc := "()V" } : Jvm.MethodName) prog_3_method_1_code (1 : Nat) (Option.none : Option Jvm.ClassFile.FieldType) ∈ TW := tw_t 72 (by decide +kernel) rfl
theorem tw73 : Jvm.Cond.methodLink "DotRuns$History" (3 : Nat) ({ cls := "java/lang/Object", name := "<init>", desc := "()V" } : Jvm.MethodName) ∈ TW := tw_t 73 (by decide +kernel) rfl
theorem tw74 : Jvm.Cond.classLink "DotRuns$History" (18 : Nat) "DotRuns$Page" ∈ TW := tw_t 74 (by decide +kernel) rfl
theorem tw76 : Jvm.Cond.fieldLink "DotRuns$History" (9 : Nat) "DotRuns$History" "held" "I" ∈ TW := tw_t 76 (by decide +kernel) rfl
theorem tw77 : Jvm.Cond.fieldLink "DotRuns" (121 : Nat) "DotRuns$History" "held" "I" ∈ TW := tw_t 77 (by decide +kernel) rfl
theorem tw78 : Jvm.Cond.fieldLink "DotRuns$History" (15 : Nat) "DotRuns$History" "next" "I" ∈ TW := tw_t 78 (by decide +kernel) rfl
theorem tw79 : Jvm.Cond.fieldLink "DotRuns$History" (20 : Nat) "DotRuns$History" "pages" "[LDotRuns$Page;" ∈ TW := tw_t 79 (by decide +kernel) rfl
theorem tw87 : Jvm.Cond.classLink "DotRuns" (27 : Nat) "DotRuns$Parser" ∈ TW := tw_t 87 (by decide +kernel) rfl
theorem tw88 : Jvm.Cond.instantiable "DotRuns$Parser" (5 : Nat) ∈ TW := tw_t 88 (by decide +kernel) rfl
theorem tw89 : Jvm.Cond.methodLink "DotRuns" (29 : Nat) ({ cls := "DotRuns$Parser", name := "<init>", desc := "()V" } : Jvm.MethodName) ∈ TW := tw_t 89 (by decide +kernel) rfl
theorem tw90 : Jvm.Cond.instanceMethod ({ cls := "DotRuns$Parser", name := "<init>", desc := "()V" } : Jvm.MethodName) ∈ TW := tw_t 90 (by decide +kernel) rfl
theorem tw91 : Jvm.Cond.code ({ cls := "DotRuns$Parser", name := "<init>", desc := "()V" } : Jvm.MethodName) prog_5_method_1_code (1 : Nat) (Option.none : Option Jvm.ClassFile.FieldType) ∈ TW := tw_t 91 (by decide +kernel) rfl
theorem tw92 : Jvm.Cond.methodLink "DotRuns$Parser" (3 : Nat) ({ cls := "java/lang/Object", name := "<init>", desc := "()V" } : Jvm.MethodName) ∈ TW := tw_t 92 (by decide +kernel) rfl
theorem tw93 : Jvm.Cond.classLink "DotRuns$Parser" (18 : Nat) "DotRuns$Tokens" ∈ TW := tw_t 93 (by decide +kernel) rfl
theorem tw94 : Jvm.Cond.instantiable "DotRuns$Tokens" (5 : Nat) ∈ TW := tw_t 94 (by decide +kernel) rfl
theorem tw95 : Jvm.Cond.methodLink "DotRuns$Parser" (20 : Nat) ({ cls := "DotRuns$Tokens", name := "<init>", desc := "()V" } : Jvm.MethodName) ∈ TW := tw_t 95 (by decide +kernel) rfl
theorem tw96 : Jvm.Cond.instanceMethod ({ cls := "DotRuns$Tokens", name := "<init>", desc := "()V" } : Jvm.MethodName) ∈ TW := tw_t 96 (by decide +kernel) rfl
theorem tw97 : Jvm.Cond.code ({ cls := "DotRuns$Tokens", name := "<init>", desc := "()V" } : Jvm.MethodName) prog_8_method_1_code (1 : Nat) (Option.none : Option Jvm.ClassFile.FieldType) ∈ TW := tw_t 97 (by decide +kernel) rfl
theorem tw98 : Jvm.Cond.methodLink "DotRuns$Tokens" (3 : Nat) ({ cls := "java/lang/Object", name := "<init>", desc := "()V" } : Jvm.MethodName) ∈ TW := tw_t 98 (by decide +kernel) rfl
theorem tw99 : Jvm.Cond.fieldLink "DotRuns$Tokens" (9 : Nat) "DotRuns$Tokens" "length" "I" ∈ TW := tw_t 99 (by decide +kernel) rfl
theorem tw100 : Jvm.Cond.fieldLink "DotRuns" (60 : Nat) "DotRuns$Tokens" "length" "I" ∈ TW := tw_t 100 (by decide +kernel) rfl
theorem tw101 : Jvm.Cond.fieldLink "DotRuns$Parser" (55 : Nat) "DotRuns$Tokens" "length" "I" ∈ TW := tw_t 101 (by decide +kernel) rfl
theorem tw102 : Jvm.Cond.fieldLink "DotRuns$Parser" (58 : Nat) "DotRuns$Tokens" "kind" "I" ∈ TW := tw_t 102 (by decide +kernel) rfl
theorem tw103 : Jvm.Cond.fieldLink "DotRuns$Tokens" (39 : Nat) "DotRuns$Tokens" "kind" "I" ∈ TW := tw_t 103 (by decide +kernel) rfl
theorem tw104 : Jvm.Cond.fieldLink "DotRuns$Parser" (64 : Nat) "DotRuns$Tokens" "start" "I" ∈ TW := tw_t 104 (by decide +kernel) rfl
theorem tw105 : Jvm.Cond.fieldLink "DotRuns$Tokens" (25 : Nat) "DotRuns$Tokens" "start" "I" ∈ TW := tw_t 105 (by decide +kernel) rfl
theorem tw106 : Jvm.Cond.fieldLink "DotRuns$Tokens" (19 : Nat) "DotRuns$Tokens" "end" "I" ∈ TW := tw_t 106 (by decide +kernel) rfl
theorem tw107 : Jvm.Cond.fieldLink "DotRuns$Tokens" (15 : Nat) "DotRuns$Tokens" "bytes" "[B" ∈ TW := tw_t 107 (by decide +kernel) rfl
theorem tw119 : Jvm.Cond.arrayClass Jvm.ClassFile.FieldType.byte ∈ TW := tw_t 119 (by decide +kernel) rfl
theorem tw120 : Jvm.Cond.classLink "DotRuns$Parser" (25 : Nat) "DotRuns$Page" ∈ TW := tw_t 120 (by decide +kernel) rfl
theorem tw121 : Jvm.Cond.methodLink "DotRuns$Parser" (27 : Nat) ({ cls := "DotRuns$Page", name := "<init>", desc := "()V" } : Jvm.MethodName) ∈ TW := tw_t 121 (by decide +kernel) rfl
theorem tw122 : Jvm.Cond.classLink "DotRuns$Parser" (32 : Nat) "DotRuns$Reading" ∈ TW := tw_t 122 (by decide +kernel) rfl
theorem tw123 : Jvm.Cond.instantiable "DotRuns$Reading" (8 : Nat) ∈ TW := tw_t 123 (by decide +kernel) rfl
theorem tw125 : Jvm.Cond.instanceMethod ({ cls := "DotRuns$Reading", name := "<init>", desc := "()V" } : Jvm.MethodName) ∈ TW := tw_t 125 (by decide +kernel) rfl
theorem tw126 : Jvm.Cond.code ({ cls := "DotRuns$Reading", name := "<init>", desc := "()V" } : Jvm.MethodName) prog_6_method_1_code (1 : Nat) (Option.none : Option Jvm.ClassFile.FieldType) ∈ TW := tw_t 126 (by decide +kernel) rfl
theorem tw127 : Jvm.Cond.methodLink "DotRuns$Reading" (1 : Nat) ({ cls := "java/lang/Object", name := "<init>", desc := "()V" } : Jvm.MethodName) ∈ TW := tw_t 127 (by decide +kernel) rfl
theorem tw128 : Jvm.Cond.fieldLink "DotRuns$Reading" (7 : Nat) "DotRuns$Reading" "width" "I" ∈ TW := tw_t 128 (by decide +kernel) rfl
theorem tw129 : Jvm.Cond.fieldLink "DotRuns$Reading" (13 : Nat) "DotRuns$Reading" "place" "I" ∈ TW := tw_t 129 (by decide +kernel) rfl
theorem tw130 : Jvm.Cond.fieldLink "DotRuns$Code" (62 : Nat) "DotRuns$Reading" "place" "I" ∈ TW := tw_t 130 (by decide +kernel) rfl
theorem tw131 : Jvm.Cond.fieldLink "DotRuns$Reading" (16 : Nat) "DotRuns$Reading" "black" "Z" ∈ TW := tw_t 131 (by decide +kernel) rfl
theorem tw132 : Jvm.Cond.fieldLink "DotRuns$Code" (52 : Nat) "DotRuns$Reading" "black" "Z" ∈ TW := tw_t 132 (by decide +kernel) rfl
theorem tw133 : Jvm.Cond.fieldLink "DotRuns$Reading" (20 : Nat) "DotRuns$Reading" "row" "J" ∈ TW := tw_t 133 (by decide +kernel) rfl
theorem tw134 : Jvm.Cond.fieldLink "DotRuns$Code" (102 : Nat) "DotRuns$Reading" "row" "J" ∈ TW := tw_t 134 (by decide +kernel) rfl
theorem tw135 : Jvm.Cond.fieldLink "DotRuns$Parser" (176 : Nat) "DotRuns$Reading" "row" "J" ∈ TW := tw_t 135 (by decide +kernel) rfl
theorem tw136 : Jvm.Cond.fieldLink "DotRuns$Reading" (24 : Nat) "DotRuns$Reading" "turn" "I" ∈ TW := tw_t 136 (by decide +kernel) rfl
theorem tw137 : Jvm.Cond.fieldLink "DotRuns$Code" (69 : Nat) "DotRuns$Reading" "turn" "I" ∈ TW := tw_t 137 (by decide +kernel) rfl
theorem tw138 : Jvm.Cond.fieldLink "DotRuns$Reading" (27 : Nat) "DotRuns$Reading" "passed" "I" ∈ TW := tw_t 138 (by decide +kernel) rfl
theorem tw139 : Jvm.Cond.fieldLink "DotRuns$Code" (72 : Nat) "DotRuns$Reading" "passed" "I" ∈ TW := tw_t 139 (by decide +kernel) rfl
theorem tw140 : Jvm.Cond.fieldLink "DotRuns$Reading" (30 : Nat) "DotRuns$Reading" "above" "J" ∈ TW := tw_t 140 (by decide +kernel) rfl
theorem tw141 : Jvm.Cond.fieldLink "DotRuns$Reading" (39 : Nat) "DotRuns$Reading" "changes" "J" ∈ TW := tw_t 141 (by decide +kernel) rfl
theorem tw159 : Jvm.Cond.fieldLink "DotRuns$Parser" (9 : Nat) "DotRuns$Parser" "faultCode" "I" ∈ TW := tw_t 159 (by decide +kernel) rfl
theorem tw160 : Jvm.Cond.fieldLink "DotRuns" (96 : Nat) "DotRuns$Parser" "faultCode" "I" ∈ TW := tw_t 160 (by decide +kernel) rfl
theorem tw161 : Jvm.Cond.fieldLink "DotRuns$Parser" (15 : Nat) "DotRuns$Parser" "faultPosition" "I" ∈ TW := tw_t 161 (by decide +kernel) rfl
theorem tw162 : Jvm.Cond.fieldLink "DotRuns" (99 : Nat) "DotRuns$Parser" "faultPosition" "I" ∈ TW := tw_t 162 (by decide +kernel) rfl
theorem tw163 : Jvm.Cond.fieldLink "DotRuns$Parser" (21 : Nat) "DotRuns$Parser" "text" "LDotRuns$Tokens;" ∈ TW := tw_t 163 (by decide +kernel) rfl
theorem tw164 : Jvm.Cond.fieldLink "DotRuns" (56 : Nat) "DotRuns$Parser" "text" "LDotRuns$Tokens;" ∈ TW := tw_t 164 (by decide +kernel) rfl
theorem tw165 : Jvm.Cond.fieldLink "DotRuns$Parser" (28 : Nat) "DotRuns$Parser" "page" "LDotRuns$Page;" ∈ TW := tw_t 165 (by decide +kernel) rfl
theorem tw166 : Jvm.Cond.fieldLink "DotRuns" (85 : Nat) "DotRuns$Parser" "page" "LDotRuns$Page;" ∈ TW := tw_t 166 (by decide +kernel) rfl
theorem tw167 : Jvm.Cond.fieldLink "DotRuns$Parser" (35 : Nat) "DotRuns$Parser" "reading" "LDotRuns$Reading;" ∈ TW := tw_t 167 (by decide +kernel) rfl
theorem tw179 : Jvm.Cond.classLink "DotRuns" (34 : Nat) "DotRuns$Code" ∈ TW := tw_t 179 (by decide +kernel) rfl
theorem tw180 : Jvm.Cond.instantiable "DotRuns$Code" (7 : Nat) ∈ TW := tw_t 180 (by decide +kernel) rfl
theorem tw181 : Jvm.Cond.methodLink "DotRuns" (36 : Nat) ({ cls := "DotRuns$Code", name := "<init>", desc := "()V" } : Jvm.MethodName) ∈ TW := tw_t 181 (by decide +kernel) rfl
theorem tw182 : Jvm.Cond.instanceMethod ({ cls := "DotRuns$Code", name := "<init>", desc := "()V" } : Jvm.MethodName) ∈ TW := tw_t 182 (by decide +kernel) rfl
theorem tw183 : Jvm.Cond.code ({ cls := "DotRuns$Code", name := "<init>", desc := "()V" } : Jvm.MethodName) prog_2_method_1_code (1 : Nat) (Option.none : Option Jvm.ClassFile.FieldType) ∈ TW := tw_t 183 (by decide +kernel) rfl
theorem tw184 : Jvm.Cond.methodLink "DotRuns$Code" (3 : Nat) ({ cls := "java/lang/Object", name := "<init>", desc := "()V" } : Jvm.MethodName) ∈ TW := tw_t 184 (by decide +kernel) rfl
theorem tw185 : Jvm.Cond.classLink "DotRuns$Code" (31 : Nat) "DotRuns$Reading" ∈ TW := tw_t 185 (by decide +kernel) rfl
theorem tw187 : Jvm.Cond.fieldLink "DotRuns$Code" (9 : Nat) "DotRuns$Code" "modes" "I" ∈ TW := tw_t 187 (by decide +kernel) rfl
theorem tw188 : Jvm.Cond.fieldLink "DotRuns" (165 : Nat) "DotRuns$Code" "modes" "I" ∈ TW := tw_t 188 (by decide +kernel) rfl
theorem tw189 : Jvm.Cond.fieldLink "DotRuns$Code" (15 : Nat) "DotRuns$Code" "bits" "I" ∈ TW := tw_t 189 (by decide +kernel) rfl
theorem tw190 : Jvm.Cond.fieldLink "DotRuns$Sending" (71 : Nat) "DotRuns$Code" "bits" "I" ∈ TW := tw_t 190 (by decide +kernel) rfl
theorem tw191 : Jvm.Cond.fieldLink "DotRuns" (152 : Nat) "DotRuns$Code" "bits" "I" ∈ TW := tw_t 191 (by decide +kernel) rfl
theorem tw192 : Jvm.Cond.fieldLink "DotRuns$Code" (18 : Nat) "DotRuns$Code" "kinds" "[I" ∈ TW := tw_t 192 (by decide +kernel) rfl
theorem tw193 : Jvm.Cond.fieldLink "DotRuns$Code" (22 : Nat) "DotRuns$Code" "firsts" "[I" ∈ TW := tw_t 193 (by decide +kernel) rfl
theorem tw194 : Jvm.Cond.fieldLink "DotRuns$Code" (25 : Nat) "DotRuns$Code" "seconds" "[I" ∈ TW := tw_t 194 (by decide +kernel) rfl
theorem tw195 : Jvm.Cond.fieldLink "DotRuns$Code" (28 : Nat) "DotRuns$Code" "places" "[I" ∈ TW := tw_t 195 (by decide +kernel) rfl
theorem tw196 : Jvm.Cond.fieldLink "DotRuns$Code" (34 : Nat) "DotRuns$Code" "reading" "LDotRuns$Reading;" ∈ TW := tw_t 196 (by decide +kernel) rfl
theorem tw212 : Jvm.Cond.classLink "DotRuns" (41 : Nat) "DotRuns$Sending" ∈ TW := tw_t 212 (by decide +kernel) rfl
theorem tw213 : Jvm.Cond.instantiable "DotRuns$Sending" (16 : Nat) ∈ TW := tw_t 213 (by decide +kernel) rfl
theorem tw214 : Jvm.Cond.methodLink "DotRuns" (43 : Nat) ({ cls := "DotRuns$Sending", name := "<init>", desc := "()V" } : Jvm.MethodName) ∈ TW := tw_t 214 (by decide +kernel) rfl
theorem tw215 : Jvm.Cond.instanceMethod ({ cls := "DotRuns$Sending", name := "<init>", desc := "()V" } : Jvm.MethodName) ∈ TW := tw_t 215 (by decide +kernel) rfl
theorem tw216 : Jvm.Cond.code ({ cls := "DotRuns$Sending", name := "<init>", desc := "()V" } : Jvm.MethodName) prog_7_method_1_code (1 : Nat) (Option.none : Option Jvm.ClassFile.FieldType) ∈ TW := tw_t 216 (by decide +kernel) rfl
theorem tw217 : Jvm.Cond.methodLink "DotRuns$Sending" (3 : Nat) ({ cls := "java/lang/Object", name := "<init>", desc := "()V" } : Jvm.MethodName) ∈ TW := tw_t 217 (by decide +kernel) rfl
theorem tw218 : Jvm.Cond.classLink "DotRuns$Sending" (37 : Nat) "DotRuns$Code" ∈ TW := tw_t 218 (by decide +kernel) rfl
theorem tw219 : Jvm.Cond.methodLink "DotRuns$Sending" (39 : Nat) ({ cls := "DotRuns$Code", name := "<init>", desc := "()V" } : Jvm.MethodName) ∈ TW := tw_t 219 (by decide +kernel) rfl
theorem tw220 : Jvm.Cond.fieldLink "DotRuns$Sending" (49 : Nat) "DotRuns$Sending" "every" "I" ∈ TW := tw_t 220 (by decide +kernel) rfl
theorem tw221 : Jvm.Cond.fieldLink "DotRuns" (314 : Nat) "DotRuns$Sending" "every" "I" ∈ TW := tw_t 221 (by decide +kernel) rfl
theorem tw222 : Jvm.Cond.fieldLink "DotRuns$Sending" (53 : Nat) "DotRuns$Sending" "steps" "I" ∈ TW := tw_t 222 (by decide +kernel) rfl
theorem tw223 : Jvm.Cond.fieldLink "DotRuns" (317 : Nat) "DotRuns$Sending" "steps" "I" ∈ TW := tw_t 223 (by decide +kernel) rfl
theorem tw224 : Jvm.Cond.fieldLink "DotRuns$Sending" (89 : Nat) "DotRuns$Sending" "bits" "I" ∈ TW := tw_t 224 (by decide +kernel) rfl
theorem tw225 : Jvm.Cond.fieldLink "DotRuns" (259 : Nat) "DotRuns$Sending" "bits" "I" ∈ TW := tw_t 225 (by decide +kernel) rfl
theorem tw226 : Jvm.Cond.fieldLink "DotRuns$Sending" (90 : Nat) "DotRuns$Sending" "sendings" "I" ∈ TW := tw_t 226 (by decide +kernel) rfl
theorem tw227 : Jvm.Cond.fieldLink "DotRuns" (260 : Nat) "DotRuns$Sending" "sendings" "I" ∈ TW := tw_t 227 (by decide +kernel) rfl
theorem tw228 : Jvm.Cond.fieldLink "DotRuns$Sending" (93 : Nat) "DotRuns$Sending" "stepsBack" "I" ∈ TW := tw_t 228 (by decide +kernel) rfl
theorem tw229 : Jvm.Cond.fieldLink "DotRuns" (263 : Nat) "DotRuns$Sending" "stepsBack" "I" ∈ TW := tw_t 229 (by decide +kernel) rfl
theorem tw230 : Jvm.Cond.fieldLink "DotRuns$Sending" (96 : Nat) "DotRuns$Sending" "lostSendings" "I" ∈ TW := tw_t 230 (by decide +kernel) rfl
theorem tw231 : Jvm.Cond.fieldLink "DotRuns" (270 : Nat) "DotRuns$Sending" "lostSendings" "I" ∈ TW := tw_t 231 (by decide +kernel) rfl
theorem tw232 : Jvm.Cond.fieldLink "DotRuns$Sending" (99 : Nat) "DotRuns$Sending" "unreadSendings" "I" ∈ TW := tw_t 232 (by decide +kernel) rfl
theorem tw233 : Jvm.Cond.fieldLink "DotRuns" (273 : Nat) "DotRuns$Sending" "unreadSendings" "I" ∈ TW := tw_t 233 (by decide +kernel) rfl
theorem tw234 : Jvm.Cond.fieldLink "DotRuns$Sending" (9 : Nat) "DotRuns$Sending" "rows" "[J" ∈ TW := tw_t 234 (by decide +kernel) rfl
theorem tw235 : Jvm.Cond.fieldLink "DotRuns" (295 : Nat) "DotRuns$Sending" "rows" "[J" ∈ TW := tw_t 235 (by decide +kernel) rfl
theorem tw236 : Jvm.Cond.fieldLink "DotRuns$Sending" (15 : Nat) "DotRuns$Sending" "states" "[I" ∈ TW := tw_t 236 (by decide +kernel) rfl
theorem tw237 : Jvm.Cond.fieldLink "DotRuns" (279 : Nat) "DotRuns$Sending" "states" "[I" ∈ TW := tw_t 237 (by decide +kernel) rfl
theorem tw238 : Jvm.Cond.fieldLink "DotRuns$Sending" (19 : Nat) "DotRuns$Sending" "timesSent" "[I" ∈ TW := tw_t 238 (by decide +kernel) rfl
theorem tw239 : Jvm.Cond.fieldLink "DotRuns" (282 : Nat) "DotRuns$Sending" "timesSent" "[I" ∈ TW := tw_t 239 (by decide +kernel) rfl
theorem tw240 : Jvm.Cond.fieldLink "DotRuns$Sending" (22 : Nat) "DotRuns$Sending" "bitsOfLine" "[I" ∈ TW := tw_t 240 (by decide +kernel) rfl
theorem tw241 : Jvm.Cond.fieldLink "DotRuns" (285 : Nat) "DotRuns$Sending" "bitsOfLine" "[I" ∈ TW := tw_t 241 (by decide +kernel) rfl
theorem tw242 : Jvm.Cond.fieldLink "DotRuns$Sending" (25 : Nat) "DotRuns$Sending" "stepsBackOf" "[I" ∈ TW := tw_t 242 (by decide +kernel) rfl
theorem tw243 : Jvm.Cond.fieldLink "DotRuns" (292 : Nat) "DotRuns$Sending" "stepsBackOf" "[I" ∈ TW := tw_t 243 (by decide +kernel) rfl
theorem tw244 : Jvm.Cond.fieldLink "DotRuns$Sending" (28 : Nat) "DotRuns$Sending" "losses" "[I" ∈ TW := tw_t 244 (by decide +kernel) rfl
theorem tw245 : Jvm.Cond.fieldLink "DotRuns$Sending" (31 : Nat) "DotRuns$Sending" "bitsAlone" "[I" ∈ TW := tw_t 245 (by decide +kernel) rfl
theorem tw246 : Jvm.Cond.fieldLink "DotRuns$Sending" (34 : Nat) "DotRuns$Sending" "bitsByAbove" "[I" ∈ TW := tw_t 246 (by decide +kernel) rfl
theorem tw247 : Jvm.Cond.fieldLink "DotRuns$Sending" (40 : Nat) "DotRuns$Sending" "code" "LDotRuns$Code;" ∈ TW := tw_t 247 (by decide +kernel) rfl
theorem tw281 : Jvm.Cond.fieldLink "DotRuns" (10 : Nat) "DotRuns" "page" "LDotRuns$Page;" ∈ TW := tw_t 281 (by decide +kernel) rfl
theorem tw282 : Jvm.Cond.fieldLink "DotRuns" (19 : Nat) "DotRuns" "history" "LDotRuns$History;" ∈ TW := tw_t 282 (by decide +kernel) rfl
theorem tw283 : Jvm.Cond.fieldLink "DotRuns" (23 : Nat) "DotRuns" "saved" "[LDotRuns$Page;" ∈ TW := tw_t 283 (by decide +kernel) rfl
theorem tw284 : Jvm.Cond.fieldLink "DotRuns" (30 : Nat) "DotRuns" "parser" "LDotRuns$Parser;" ∈ TW := tw_t 284 (by decide +kernel) rfl
theorem tw285 : Jvm.Cond.fieldLink "DotRuns" (37 : Nat) "DotRuns" "code" "LDotRuns$Code;" ∈ TW := tw_t 285 (by decide +kernel) rfl
theorem tw286 : Jvm.Cond.fieldLink "DotRuns" (44 : Nat) "DotRuns" "sending" "LDotRuns$Sending;" ∈ TW := tw_t 286 (by decide +kernel) rfl
theorem tw287 : Jvm.Cond.fieldLink "DotRuns" (48 : Nat) "DotRuns" "written" "[B" ∈ TW := tw_t 287 (by decide +kernel) rfl
theorem tw288 : Jvm.Cond.fieldLink "DotRuns" (52 : Nat) "DotRuns" "writtenLength" "I" ∈ TW := tw_t 288 (by decide +kernel) rfl
theorem tw310 : Jvm.Cond.methodLink "DotRuns" (81 : Nat) ({ cls := "DotRuns$Parser", name := "readText", desc := "()Z" } : Jvm.MethodName) ∈ TW := tw_t 310 (by decide +kernel) rfl
theorem tw311 : Jvm.Cond.instanceMethod ({ cls := "DotRuns$Parser", name := "readText", desc := "()Z" } : Jvm.MethodName) ∈ TW := tw_t 311 (by decide +kernel) rfl
theorem tw312 : Jvm.Cond.selects "DotRuns$Parser" ({ cls := "DotRuns$Parser", name := "readText", desc := "()Z" } : Jvm.MethodName) ({ cls := "DotRuns$Parser", name := "readText", desc := "()Z" } : Jvm.MethodName) ∈ TW := tw_t 312 (by decide +kernel) rfl
theorem tw313 : Jvm.Cond.code ({ cls := "DotRuns$Parser", name := "readText", desc := "()Z" } : Jvm.MethodName) prog_5_method_2_code (3 : Nat) (Option.some Jvm.ClassFile.FieldType.boolean) ∈ TW := tw_t 313 (by decide +kernel) rfl
theorem tw314 : Jvm.Cond.methodLink "DotRuns$Parser" (39 : Nat) ({ cls := "DotRuns$Page", name := "clear", desc := "()V" } : Jvm.MethodName) ∈ TW := tw_t 314 (by decide +kernel) rfl
theorem tw315 : Jvm.Cond.instanceMethod ({ cls := "DotRuns$Page", name := "clear", desc := "()V" } : Jvm.MethodName) ∈ TW := tw_t 315 (by decide +kernel) rfl
theorem tw316 : Jvm.Cond.selects "DotRuns$Page" ({ cls := "DotRuns$Page", name := "clear", desc := "()V" } : Jvm.MethodName) ({ cls := "DotRuns$Page", name := "clear", desc := "()V" } : Jvm.MethodName) ∈ TW := tw_t 316 (by decide +kernel) rfl
theorem tw317 : Jvm.Cond.code ({ cls := "DotRuns$Page", name := "clear", desc := "()V" } : Jvm.MethodName) prog_4_method_2_code (2 : Nat) (Option.none : Option Jvm.ClassFile.FieldType) ∈ TW := tw_t 317 (by decide +kernel) rfl
theorem tw318 : Jvm.Cond.methodLink "DotRuns$Parser" (42 : Nat) ({ cls := "DotRuns$Tokens", name := "begin", desc := "()V" } : Jvm.MethodName) ∈ TW := tw_t 318 (by decide +kernel) rfl
theorem tw319 : Jvm.Cond.instanceMethod ({ cls := "DotRuns$Tokens", name := "begin", desc := "()V" } : Jvm.MethodName) ∈ TW := tw_t 319 (by decide +kernel) rfl
theorem tw320 : Jvm.Cond.selects "DotRuns$Tokens" ({ cls := "DotRuns$Tokens", name := "begin", desc := "()V" } : Jvm.MethodName) ({ cls := "DotRuns$Tokens", name := "begin", desc := "()V" } : Jvm.MethodName) ∈ TW := tw_t 320 (by decide +kernel) rfl
theorem tw321 : Jvm.Cond.code ({ cls := "DotRuns$Tokens", name := "begin", desc := "()V" } : Jvm.MethodName) prog_8_method_3_code (1 : Nat) (Option.none : Option Jvm.ClassFile.FieldType) ∈ TW := tw_t 321 (by decide +kernel) rfl
theorem tw322 : Jvm.Cond.methodLink "DotRuns$Tokens" (22 : Nat) ({ cls := "DotRuns$Tokens", name := "next", desc := "()V" } : Jvm.MethodName) ∈ TW := tw_t 322 (by decide +kernel) rfl
theorem tw323 : Jvm.Cond.instanceMethod ({ cls := "DotRuns$Tokens", name := "next", desc := "()V" } : Jvm.MethodName) ∈ TW := tw_t 323 (by decide +kernel) rfl
theorem tw324 : Jvm.Cond.selects "DotRuns$Tokens" ({ cls := "DotRuns$Tokens", name := "next", desc := "()V" } : Jvm.MethodName) ({ cls := "DotRuns$Tokens", name := "next", desc := "()V" } : Jvm.MethodName) ∈ TW := tw_t 324 (by decide +kernel) rfl
theorem tw325 : Jvm.Cond.code ({ cls := "DotRuns$Tokens", name := "next", desc := "()V" } : Jvm.MethodName) prog_8_method_4_code (1 : Nat) (Option.none : Option Jvm.ClassFile.FieldType) ∈ TW := tw_t 325 (by decide +kernel) rfl
theorem tw326 : Jvm.Cond.methodLink "DotRuns$Tokens" (28 : Nat) ({ cls := "DotRuns$Tokens", name := "byteAt", desc := "(I)I" } : Jvm.MethodName) ∈ TW := tw_t 326 (by decide +kernel) rfl
theorem tw328 : Jvm.Cond.instanceMethod ({ cls := "DotRuns$Tokens", name := "byteAt", desc := "(I)I" } : Jvm.MethodName) ∈ TW := tw_t 328 (by decide +kernel) rfl
theorem tw329 : Jvm.Cond.code ({ cls := "DotRuns$Tokens", name := "byteAt", desc := "(I)I" } : Jvm.MethodName) prog_8_method_5_code (2 : Nat) (Option.some Jvm.ClassFile.FieldType.int) ∈ TW := tw_t 329 (by decide +kernel) rfl
theorem tw330 : Jvm.Cond.methodLink "DotRuns$Tokens" (32 : Nat) ({ cls := "DotRuns$Tokens", name := "isSpace", desc := "(I)Z" } : Jvm.MethodName) ∈ TW := tw_t 330 (by decide +kernel) rfl
theorem tw331 : Jvm.Cond.static ({ cls := "DotRuns$Tokens", name := "isSpace", desc := "(I)Z" } : Jvm.MethodName) ∈ TW := tw_t 331 (by decide +kernel) rfl
theorem tw332 : Jvm.Cond.code ({ cls := "DotRuns$Tokens", name := "isSpace", desc := "(I)Z" } : Jvm.MethodName) prog_8_method_6_code (1 : Nat) (Option.some Jvm.ClassFile.FieldType.boolean) ∈ TW := tw_t 332 (by decide +kernel) rfl
theorem tw333 : Jvm.Cond.methodLink "DotRuns$Tokens" (36 : Nat) ({ cls := "DotRuns$Tokens", name := "kindOf", desc := "(I)I" } : Jvm.MethodName) ∈ TW := tw_t 333 (by decide +kernel) rfl
theorem tw334 : Jvm.Cond.static ({ cls := "DotRuns$Tokens", name := "kindOf", desc := "(I)I" } : Jvm.MethodName) ∈ TW := tw_t 334 (by decide +kernel) rfl
theorem tw335 : Jvm.Cond.code ({ cls := "DotRuns$Tokens", name := "kindOf", desc := "(I)I" } : Jvm.MethodName) prog_8_method_7_code (1 : Nat) (Option.some Jvm.ClassFile.FieldType.int) ∈ TW := tw_t 335 (by decide +kernel) rfl
theorem tw337 : Jvm.Cond.methodLink "DotRuns$Parser" (47 : Nat) ({ cls := "DotRuns$Tokens", name := "isWord", desc := "(Ljava/lang/String;)Z" } : Jvm.MethodName) ∈ TW := tw_t 337 (by decide +kernel) rfl
theorem tw338 : Jvm.Cond.instanceMethod ({ cls := "DotRuns$Tokens", name := "isWord", desc := "(Ljava/lang/String;)Z" } : Jvm.MethodName) ∈ TW := tw_t 338 (by decide +kernel) rfl
theorem tw339 : Jvm.Cond.selects "DotRuns$Tokens" ({ cls := "DotRuns$Tokens", name := "isWord", desc := "(Ljava/lang/String;)Z" } : Jvm.MethodName) ({ cls := "DotRuns$Tokens", name := "isWord", desc := "(Ljava/lang/String;)Z" } : Jvm.MethodName) ∈ TW := tw_t 339 (by decide +kernel) rfl
theorem tw340 : Jvm.Cond.code ({ cls := "DotRuns$Tokens", name := "isWord", desc := "(Ljava/lang/String;)Z" } : Jvm.MethodName) prog_8_method_8_code (3 : Nat) (Option.some Jvm.ClassFile.FieldType.boolean) ∈ TW := tw_t 340 (by decide +kernel) rfl
theorem tw341 : Jvm.Cond.methodLink "DotRuns$Tokens" (42 : Nat) ({ cls := "java/lang/String", name := "length", desc := "()I" } : Jvm.MethodName) ∈ TW := tw_t 341 (by decide +kernel) rfl
theorem tw342 : Jvm.Cond.instanceMethod ({ cls := "java/lang/String", name := "length", desc := "()I" } : Jvm.MethodName) ∈ TW := tw_t 342 (by decide +kernel) rfl
theorem tw343 : Jvm.Cond.selects "java/lang/String" ({ cls := "java/lang/String", name := "length", desc := "()I" } : Jvm.MethodName) ({ cls := "java/lang/String", name := "length", desc := "()I" } : Jvm.MethodName) ∈ TW := tw_t 343 (by decide +kernel) rfl
theorem tw344 : Jvm.Cond.code ({ cls := "java/lang/String", name := "length", desc := "()I" } : Jvm.MethodName) prog_18_method_54_code (1 : Nat) (Option.some Jvm.ClassFile.FieldType.int) ∈ TW := tw_t 344 (by decide +kernel) rfl
theorem tw345 : Jvm.Cond.methodLink "java/lang/String" (335 : Nat) ({ cls := "java/lang/String", name := "coder", desc := "()B" } : Jvm.MethodName) ∈ TW := tw_t 345 (by decide +kernel) rfl
theorem tw346 : Jvm.Cond.instanceMethod ({ cls := "java/lang/String", name := "coder", desc := "()B" } : Jvm.MethodName) ∈ TW := tw_t 346 (by decide +kernel) rfl
theorem tw347 : Jvm.Cond.selects "java/lang/String" ({ cls := "java/lang/String", name := "coder", desc := "()B" } : Jvm.MethodName) ({ cls := "java/lang/String", name := "coder", desc := "()B" } : Jvm.MethodName) ∈ TW := tw_t 347 (by decide +kernel) rfl
theorem tw348 : Jvm.Cond.code ({ cls := "java/lang/String", name := "coder", desc := "()B" } : Jvm.MethodName) prog_18_method_152_code (1 : Nat) (Option.some Jvm.ClassFile.FieldType.byte) ∈ TW := tw_t 348 (by decide +kernel) rfl
theorem tw349 : Jvm.Cond.fieldLink "java/lang/String" (38 : Nat) "java/lang/String" "COMPACT_STRINGS" "Z" ∈ TW := tw_t 349 (by decide +kernel) rfl
theorem tw351 : Jvm.Cond.methodLink "DotRuns$Tokens" (47 : Nat) ({ cls := "java/lang/String", name := "charAt", desc := "(I)C" } : Jvm.MethodName) ∈ TW := tw_t 351 (by decide +kernel) rfl
theorem tw352 : Jvm.Cond.instanceMethod ({ cls := "java/lang/String", name := "charAt", desc := "(I)C" } : Jvm.MethodName) ∈ TW := tw_t 352 (by decide +kernel) rfl
theorem tw353 : Jvm.Cond.selects "java/lang/String" ({ cls := "java/lang/String", name := "charAt", desc := "(I)C" } : Jvm.MethodName) ({ cls := "java/lang/String", name := "charAt", desc := "(I)C" } : Jvm.MethodName) ∈ TW := tw_t 353 (by decide +kernel) rfl
theorem tw354 : Jvm.Cond.code ({ cls := "java/lang/String", name := "charAt", desc := "(I)C" } : Jvm.MethodName) prog_18_method_56_code (2 : Nat) (Option.some Jvm.ClassFile.FieldType.char) ∈ TW := tw_t 354 (by decide +kernel) rfl
theorem tw355 : Jvm.Cond.methodLink "java/lang/String" (492 : Nat) ({ cls := "java/lang/String", name := "isLatin1", desc := "()Z" } : Jvm.MethodName) ∈ TW := tw_t 355 (by decide +kernel) rfl
theorem tw356 : Jvm.Cond.instanceMethod ({ cls := "java/lang/String", name := "isLatin1", desc := "()Z" } : Jvm.MethodName) ∈ TW := tw_t 356 (by decide +kernel) rfl
theorem tw357 : Jvm.Cond.selects "java/lang/String" ({ cls := "java/lang/String", name := "isLatin1", desc := "()Z" } : Jvm.MethodName) ({ cls := "java/lang/String", name := "isLatin1", desc := "()Z" } : Jvm.MethodName) ∈ TW := tw_t 357 (by decide +kernel) rfl
theorem tw358 : Jvm.Cond.code ({ cls := "java/lang/String", name := "isLatin1", desc := "()Z" } : Jvm.MethodName) prog_18_method_154_code (1 : Nat) (Option.some Jvm.ClassFile.FieldType.boolean) ∈ TW := tw_t 358 (by decide +kernel) rfl
theorem tw359 : Jvm.Cond.methodLink "java/lang/String" (495 : Nat) ({ cls := "java/lang/StringLatin1", name := "charAt", desc := "([BI)C" } : Jvm.MethodName) ∈ TW := tw_t 359 (by decide +kernel) rfl
theorem tw360 : Jvm.Cond.static ({ cls := "java/lang/StringLatin1", name := "charAt", desc := "([BI)C" } : Jvm.MethodName) ∈ TW := tw_t 360 (by decide +kernel) rfl
theorem tw361 : Jvm.Cond.code ({ cls := "java/lang/StringLatin1", name := "charAt", desc := "([BI)C" } : Jvm.MethodName) prog_19_method_2_code (2 : Nat) (Option.some Jvm.ClassFile.FieldType.char) ∈ TW := tw_t 361 (by decide +kernel) rfl
theorem tw362 : Jvm.Cond.methodLink "java/lang/StringLatin1" (9 : Nat) ({ cls := "java/lang/String", name := "checkIndex", desc := "(II)V" } : Jvm.MethodName) ∈ TW := tw_t 362 (by decide +kernel) rfl
theorem tw363 : Jvm.Cond.static ({ cls := "java/lang/String", name := "checkIndex", desc := "(II)V" } : Jvm.MethodName) ∈ TW := tw_t 363 (by decide +kernel) rfl
theorem tw364 : Jvm.Cond.code ({ cls := "java/lang/String", name := "checkIndex", desc := "(II)V" } : Jvm.MethodName) prog_18_method_155_code (2 : Nat) (Option.none : Option Jvm.ClassFile.FieldType) ∈ TW := tw_t 364 (by decide +kernel) rfl
theorem tw365 : Jvm.Cond.fieldLink "java/lang/String" (1053 : Nat) "jdk/internal/util/Preconditions" "SIOOBE_FORMATTER" "Ljava/util/function/BiFunction;" ∈ TW := tw_t 365 (by decide +kernel) rfl
theorem tw367 : Jvm.Cond.methodLink "java/lang/String" (1059 : Nat) ({ cls := "jdk/internal/util/Preconditions", name := "checkIndex", desc := "(IILjava/util/function/BiFunction;)I" } : Jvm.MethodName) ∈ TW := tw_t 367 (by decide +kernel) rfl
theorem tw368 : Jvm.Cond.static ({ cls := "jdk/internal/util/Preconditions", name := "checkIndex", desc := "(IILjava/util/function/BiFunction;)I" } : Jvm.MethodName) ∈ TW := tw_t 368 (by decide +kernel) rfl
theorem tw369 : Jvm.Cond.code ({ cls := "jdk/internal/util/Preconditions", name := "checkIndex", desc := "(IILjava/util/function/BiFunction;)I" } : Jvm.MethodName) prog_22_method_11_code (3 : Nat) (Option.some Jvm.ClassFile.FieldType.int) ∈ TW := tw_t 369 (by decide +kernel) rfl
theorem tw389 : Jvm.Cond.methodLink "DotRuns$Parser" (51 : Nat) ({ cls := "DotRuns$Parser", name := "readWide", desc := "()Z" } : Jvm.MethodName) ∈ TW := tw_t 389 (by decide +kernel) rfl
theorem tw391 : Jvm.Cond.instanceMethod ({ cls := "DotRuns$Parser", name := "readWide", desc := "()Z" } : Jvm.MethodName) ∈ TW := tw_t 391 (by decide +kernel) rfl
theorem tw392 : Jvm.Cond.code ({ cls := "DotRuns$Parser", name := "readWide", desc := "()Z" } : Jvm.MethodName) prog_5_method_7_code (1 : Nat) (Option.some Jvm.ClassFile.FieldType.boolean) ∈ TW := tw_t 392 (by decide +kernel) rfl
theorem tw393 : Jvm.Cond.methodLink "DotRuns$Parser" (75 : Nat) ({ cls := "DotRuns$Tokens", name := "next", desc := "()V" } : Jvm.MethodName) ∈ TW := tw_t 393 (by decide +kernel) rfl
theorem tw394 : Jvm.Cond.methodLink "DotRuns$Parser" (78 : Nat) ({ cls := "DotRuns$Parser", name := "needNumber", desc := "(II)Z" } : Jvm.MethodName) ∈ TW := tw_t 394 (by decide +kernel) rfl
theorem tw396 : Jvm.Cond.instanceMethod ({ cls := "DotRuns$Parser", name := "needNumber", desc := "(II)Z" } : Jvm.MethodName) ∈ TW := tw_t 396 (by decide +kernel) rfl
theorem tw397 : Jvm.Cond.code ({ cls := "DotRuns$Parser", name := "needNumber", desc := "(II)Z" } : Jvm.MethodName) prog_5_method_5_code (4 : Nat) (Option.some Jvm.ClassFile.FieldType.boolean) ∈ TW := tw_t 397 (by decide +kernel) rfl
theorem tw398 : Jvm.Cond.methodLink "DotRuns$Parser" (67 : Nat) ({ cls := "DotRuns$Parser", name := "failHere", desc := "(I)Z" } : Jvm.MethodName) ∈ TW := tw_t 398 (by decide +kernel) rfl
theorem tw400 : Jvm.Cond.instanceMethod ({ cls := "DotRuns$Parser", name := "failHere", desc := "(I)Z" } : Jvm.MethodName) ∈ TW := tw_t 400 (by decide +kernel) rfl
theorem tw401 : Jvm.Cond.code ({ cls := "DotRuns$Parser", name := "failHere", desc := "(I)Z" } : Jvm.MethodName) prog_5_method_3_code (2 : Nat) (Option.some Jvm.ClassFile.FieldType.boolean) ∈ TW := tw_t 401 (by decide +kernel) rfl
theorem tw402 : Jvm.Cond.methodLink "DotRuns$Parser" (71 : Nat) ({ cls := "DotRuns$Tokens", name := "number", desc := "()I" } : Jvm.MethodName) ∈ TW := tw_t 402 (by decide +kernel) rfl
theorem tw403 : Jvm.Cond.instanceMethod ({ cls := "DotRuns$Tokens", name := "number", desc := "()I" } : Jvm.MethodName) ∈ TW := tw_t 403 (by decide +kernel) rfl
theorem tw404 : Jvm.Cond.selects "DotRuns$Tokens" ({ cls := "DotRuns$Tokens", name := "number", desc := "()I" } : Jvm.MethodName) ({ cls := "DotRuns$Tokens", name := "number", desc := "()I" } : Jvm.MethodName) ∈ TW := tw_t 404 (by decide +kernel) rfl
theorem tw405 : Jvm.Cond.code ({ cls := "DotRuns$Tokens", name := "number", desc := "()I" } : Jvm.MethodName) prog_8_method_9_code (3 : Nat) (Option.some Jvm.ClassFile.FieldType.int) ∈ TW := tw_t 405 (by decide +kernel) rfl
theorem tw406 : Jvm.Cond.methodLink "DotRuns$Tokens" (51 : Nat) ({ cls := "java/lang/Math", name := "min", desc := "(II)I" } : Jvm.MethodName) ∈ TW := tw_t 406 (by decide +kernel) rfl
theorem tw407 : Jvm.Cond.static ({ cls := "java/lang/Math", name := "min", desc := "(II)I" } : Jvm.MethodName) ∈ TW := tw_t 407 (by decide +kernel) rfl
theorem tw408 : Jvm.Cond.code ({ cls := "java/lang/Math", name := "min", desc := "(II)I" } : Jvm.MethodName) prog_16_method_69_code (2 : Nat) (Option.some Jvm.ClassFile.FieldType.int) ∈ TW := tw_t 408 (by decide +kernel) rfl
theorem tw409 : Jvm.Cond.methodLink "DotRuns$Parser" (85 : Nat) ({ cls := "DotRuns$Parser", name := "readSemicolon", desc := "()Z" } : Jvm.MethodName) ∈ TW := tw_t 409 (by decide +kernel) rfl
theorem tw411 : Jvm.Cond.instanceMethod ({ cls := "DotRuns$Parser", name := "readSemicolon", desc := "()Z" } : Jvm.MethodName) ∈ TW := tw_t 411 (by decide +kernel) rfl
theorem tw412 : Jvm.Cond.code ({ cls := "DotRuns$Parser", name := "readSemicolon", desc := "()Z" } : Jvm.MethodName) prog_5_method_6_code (1 : Nat) (Option.some Jvm.ClassFile.FieldType.boolean) ∈ TW := tw_t 412 (by decide +kernel) rfl
theorem tw413 : Jvm.Cond.methodLink "DotRuns$Parser" (61 : Nat) ({ cls := "DotRuns$Parser", name := "readStatement", desc := "()Z" } : Jvm.MethodName) ∈ TW := tw_t 413 (by decide +kernel) rfl
theorem tw415 : Jvm.Cond.instanceMethod ({ cls := "DotRuns$Parser", name := "readStatement", desc := "()Z" } : Jvm.MethodName) ∈ TW := tw_t 415 (by decide +kernel) rfl
theorem tw416 : Jvm.Cond.code ({ cls := "DotRuns$Parser", name := "readStatement", desc := "()Z" } : Jvm.MethodName) prog_5_method_8_code (3 : Nat) (Option.some Jvm.ClassFile.FieldType.boolean) ∈ TW := tw_t 416 (by decide +kernel) rfl
theorem tw418 : Jvm.Cond.methodLink "DotRuns$Parser" (90 : Nat) ({ cls := "DotRuns$Parser", name := "readSet", desc := "()Z" } : Jvm.MethodName) ∈ TW := tw_t 418 (by decide +kernel) rfl
theorem tw420 : Jvm.Cond.instanceMethod ({ cls := "DotRuns$Parser", name := "readSet", desc := "()Z" } : Jvm.MethodName) ∈ TW := tw_t 420 (by decide +kernel) rfl
theorem tw421 : Jvm.Cond.code ({ cls := "DotRuns$Parser", name := "readSet", desc := "()Z" } : Jvm.MethodName) prog_5_method_9_code (2 : Nat) (Option.some Jvm.ClassFile.FieldType.boolean) ∈ TW := tw_t 421 (by decide +kernel) rfl
theorem tw427 : Jvm.Cond.methodLink "DotRuns$Parser" (95 : Nat) ({ cls := "DotRuns$Parser", name := "readLoss", desc := "()Z" } : Jvm.MethodName) ∈ TW := tw_t 427 (by decide +kernel) rfl
theorem tw429 : Jvm.Cond.instanceMethod ({ cls := "DotRuns$Parser", name := "readLoss", desc := "()Z" } : Jvm.MethodName) ∈ TW := tw_t 429 (by decide +kernel) rfl
theorem tw430 : Jvm.Cond.code ({ cls := "DotRuns$Parser", name := "readLoss", desc := "()Z" } : Jvm.MethodName) prog_5_method_10_code (2 : Nat) (Option.some Jvm.ClassFile.FieldType.boolean) ∈ TW := tw_t 430 (by decide +kernel) rfl
theorem tw434 : Jvm.Cond.methodLink "DotRuns$Parser" (107 : Nat) ({ cls := "DotRuns$Parser", name := "readRow", desc := "()Z" } : Jvm.MethodName) ∈ TW := tw_t 434 (by decide +kernel) rfl
theorem tw436 : Jvm.Cond.instanceMethod ({ cls := "DotRuns$Parser", name := "readRow", desc := "()Z" } : Jvm.MethodName) ∈ TW := tw_t 436 (by decide +kernel) rfl
theorem tw437 : Jvm.Cond.code ({ cls := "DotRuns$Parser", name := "readRow", desc := "()Z" } : Jvm.MethodName) prog_5_method_11_code (1 : Nat) (Option.some Jvm.ClassFile.FieldType.boolean) ∈ TW := tw_t 437 (by decide +kernel) rfl
theorem tw438 : Jvm.Cond.methodLink "DotRuns$Parser" (129 : Nat) ({ cls := "DotRuns$Tokens", name := "signs", desc := "()I" } : Jvm.MethodName) ∈ TW := tw_t 438 (by decide +kernel) rfl
theorem tw439 : Jvm.Cond.instanceMethod ({ cls := "DotRuns$Tokens", name := "signs", desc := "()I" } : Jvm.MethodName) ∈ TW := tw_t 439 (by decide +kernel) rfl
theorem tw440 : Jvm.Cond.selects "DotRuns$Tokens" ({ cls := "DotRuns$Tokens", name := "signs", desc := "()I" } : Jvm.MethodName) ({ cls := "DotRuns$Tokens", name := "signs", desc := "()I" } : Jvm.MethodName) ∈ TW := tw_t 440 (by decide +kernel) rfl
theorem tw441 : Jvm.Cond.code ({ cls := "DotRuns$Tokens", name := "signs", desc := "()I" } : Jvm.MethodName) prog_8_method_10_code (1 : Nat) (Option.some Jvm.ClassFile.FieldType.int) ∈ TW := tw_t 441 (by decide +kernel) rfl
theorem tw442 : Jvm.Cond.methodLink "DotRuns$Parser" (132 : Nat) ({ cls := "DotRuns$Tokens", name := "dots", desc := "()J" } : Jvm.MethodName) ∈ TW := tw_t 442 (by decide +kernel) rfl
theorem tw443 : Jvm.Cond.instanceMethod ({ cls := "DotRuns$Tokens", name := "dots", desc := "()J" } : Jvm.MethodName) ∈ TW := tw_t 443 (by decide +kernel) rfl
theorem tw444 : Jvm.Cond.selects "DotRuns$Tokens" ({ cls := "DotRuns$Tokens", name := "dots", desc := "()J" } : Jvm.MethodName) ({ cls := "DotRuns$Tokens", name := "dots", desc := "()J" } : Jvm.MethodName) ∈ TW := tw_t 444 (by decide +kernel) rfl
theorem tw445 : Jvm.Cond.code ({ cls := "DotRuns$Tokens", name := "dots", desc := "()J" } : Jvm.MethodName) prog_8_method_11_code (4 : Nat) (Option.some Jvm.ClassFile.FieldType.long) ∈ TW := tw_t 445 (by decide +kernel) rfl
theorem tw446 : Jvm.Cond.methodLink "DotRuns$Parser" (136 : Nat) ({ cls := "DotRuns$Page", name := "insertRow", desc := "(IJ)V" } : Jvm.MethodName) ∈ TW := tw_t 446 (by decide +kernel) rfl
theorem tw447 : Jvm.Cond.instanceMethod ({ cls := "DotRuns$Page", name := "insertRow", desc := "(IJ)V" } : Jvm.MethodName) ∈ TW := tw_t 447 (by decide +kernel) rfl
theorem tw448 : Jvm.Cond.selects "DotRuns$Page" ({ cls := "DotRuns$Page", name := "insertRow", desc := "(IJ)V" } : Jvm.MethodName) ({ cls := "DotRuns$Page", name := "insertRow", desc := "(IJ)V" } : Jvm.MethodName) ∈ TW := tw_t 448 (by decide +kernel) rfl
theorem tw449 : Jvm.Cond.code ({ cls := "DotRuns$Page", name := "insertRow", desc := "(IJ)V" } : Jvm.MethodName) prog_4_method_7_code (5 : Nat) (Option.none : Option Jvm.ClassFile.FieldType) ∈ TW := tw_t 449 (by decide +kernel) rfl
theorem tw450 : Jvm.Cond.methodLink "DotRuns$Page" (40 : Nat) ({ cls := "DotRuns$Page", name := "putRow", desc := "(IJ)V" } : Jvm.MethodName) ∈ TW := tw_t 450 (by decide +kernel) rfl
theorem tw451 : Jvm.Cond.instanceMethod ({ cls := "DotRuns$Page", name := "putRow", desc := "(IJ)V" } : Jvm.MethodName) ∈ TW := tw_t 451 (by decide +kernel) rfl
theorem tw452 : Jvm.Cond.selects "DotRuns$Page" ({ cls := "DotRuns$Page", name := "putRow", desc := "(IJ)V" } : Jvm.MethodName) ({ cls := "DotRuns$Page", name := "putRow", desc := "(IJ)V" } : Jvm.MethodName) ∈ TW := tw_t 452 (by decide +kernel) rfl
theorem tw453 : Jvm.Cond.code ({ cls := "DotRuns$Page", name := "putRow", desc := "(IJ)V" } : Jvm.MethodName) prog_4_method_6_code (4 : Nat) (Option.none : Option Jvm.ClassFile.FieldType) ∈ TW := tw_t 453 (by decide +kernel) rfl
theorem tw454 : Jvm.Cond.methodLink "DotRuns$Page" (32 : Nat) ({ cls := "DotRuns$Page", name := "hasLine", desc := "(I)Z" } : Jvm.MethodName) ∈ TW := tw_t 454 (by decide +kernel) rfl
theorem tw455 : Jvm.Cond.instanceMethod ({ cls := "DotRuns$Page", name := "hasLine", desc := "(I)Z" } : Jvm.MethodName) ∈ TW := tw_t 455 (by decide +kernel) rfl
theorem tw456 : Jvm.Cond.selects "DotRuns$Page" ({ cls := "DotRuns$Page", name := "hasLine", desc := "(I)Z" } : Jvm.MethodName) ({ cls := "DotRuns$Page", name := "hasLine", desc := "(I)Z" } : Jvm.MethodName) ∈ TW := tw_t 456 (by decide +kernel) rfl
theorem tw457 : Jvm.Cond.code ({ cls := "DotRuns$Page", name := "hasLine", desc := "(I)Z" } : Jvm.MethodName) prog_4_method_4_code (2 : Nat) (Option.some Jvm.ClassFile.FieldType.boolean) ∈ TW := tw_t 457 (by decide +kernel) rfl
theorem tw459 : Jvm.Cond.static ({ cls := "DotRuns", name := "allBlack", desc := "(I)J" } : Jvm.MethodName) ∈ TW := tw_t 459 (by decide +kernel) rfl
theorem tw460 : Jvm.Cond.code ({ cls := "DotRuns", name := "allBlack", desc := "(I)J" } : Jvm.MethodName) prog_1_method_56_code (1 : Nat) (Option.some Jvm.ClassFile.FieldType.long) ∈ TW := tw_t 460 (by decide +kernel) rfl
theorem tw461 : Jvm.Cond.methodLink "DotRuns$Parser" (110 : Nat) ({ cls := "DotRuns$Parser", name := "readAlone", desc := "()Z" } : Jvm.MethodName) ∈ TW := tw_t 461 (by decide +kernel) rfl
theorem tw463 : Jvm.Cond.instanceMethod ({ cls := "DotRuns$Parser", name := "readAlone", desc := "()Z" } : Jvm.MethodName) ∈ TW := tw_t 463 (by decide +kernel) rfl
theorem tw464 : Jvm.Cond.code ({ cls := "DotRuns$Parser", name := "readAlone", desc := "()Z" } : Jvm.MethodName) prog_5_method_12_code (8 : Nat) (Option.some Jvm.ClassFile.FieldType.boolean) ∈ TW := tw_t 464 (by decide +kernel) rfl
theorem tw466 : Jvm.Cond.static ({ cls := "DotRuns", name := "span", desc := "(II)J" } : Jvm.MethodName) ∈ TW := tw_t 466 (by decide +kernel) rfl
theorem tw467 : Jvm.Cond.code ({ cls := "DotRuns", name := "span", desc := "(II)J" } : Jvm.MethodName) prog_1_method_57_code (2 : Nat) (Option.some Jvm.ClassFile.FieldType.long) ∈ TW := tw_t 467 (by decide +kernel) rfl
theorem tw468 : Jvm.Cond.methodLink "DotRuns$Parser" (144 : Nat) ({ cls := "DotRuns$Parser", name := "endCode", desc := "(ZJ)Z" } : Jvm.MethodName) ∈ TW := tw_t 468 (by decide +kernel) rfl
theorem tw470 : Jvm.Cond.instanceMethod ({ cls := "DotRuns$Parser", name := "endCode", desc := "(ZJ)Z" } : Jvm.MethodName) ∈ TW := tw_t 470 (by decide +kernel) rfl
theorem tw471 : Jvm.Cond.code ({ cls := "DotRuns$Parser", name := "endCode", desc := "(ZJ)Z" } : Jvm.MethodName) prog_5_method_14_code (4 : Nat) (Option.some Jvm.ClassFile.FieldType.boolean) ∈ TW := tw_t 471 (by decide +kernel) rfl
theorem tw472 : Jvm.Cond.methodLink "DotRuns$Parser" (113 : Nat) ({ cls := "DotRuns$Parser", name := "readAbove", desc := "()Z" } : Jvm.MethodName) ∈ TW := tw_t 472 (by decide +kernel) rfl
theorem tw474 : Jvm.Cond.instanceMethod ({ cls := "DotRuns$Parser", name := "readAbove", desc := "()Z" } : Jvm.MethodName) ∈ TW := tw_t 474 (by decide +kernel) rfl
theorem tw475 : Jvm.Cond.code ({ cls := "DotRuns$Parser", name := "readAbove", desc := "()Z" } : Jvm.MethodName) prog_5_method_13_code (3 : Nat) (Option.some Jvm.ClassFile.FieldType.boolean) ∈ TW := tw_t 475 (by decide +kernel) rfl
theorem tw476 : Jvm.Cond.methodLink "DotRuns$Parser" (148 : Nat) ({ cls := "DotRuns$Page", name := "rowAt", desc := "(I)J" } : Jvm.MethodName) ∈ TW := tw_t 476 (by decide +kernel) rfl
theorem tw477 : Jvm.Cond.instanceMethod ({ cls := "DotRuns$Page", name := "rowAt", desc := "(I)J" } : Jvm.MethodName) ∈ TW := tw_t 477 (by decide +kernel) rfl
theorem tw478 : Jvm.Cond.selects "DotRuns$Page" ({ cls := "DotRuns$Page", name := "rowAt", desc := "(I)J" } : Jvm.MethodName) ({ cls := "DotRuns$Page", name := "rowAt", desc := "(I)J" } : Jvm.MethodName) ∈ TW := tw_t 478 (by decide +kernel) rfl
theorem tw479 : Jvm.Cond.code ({ cls := "DotRuns$Page", name := "rowAt", desc := "(I)J" } : Jvm.MethodName) prog_4_method_5_code (2 : Nat) (Option.some Jvm.ClassFile.FieldType.long) ∈ TW := tw_t 479 (by decide +kernel) rfl
theorem tw480 : Jvm.Cond.methodLink "DotRuns$Parser" (152 : Nat) ({ cls := "DotRuns$Reading", name := "begin", desc := "(JI)V" } : Jvm.MethodName) ∈ TW := tw_t 480 (by decide +kernel) rfl
theorem tw481 : Jvm.Cond.instanceMethod ({ cls := "DotRuns$Reading", name := "begin", desc := "(JI)V" } : Jvm.MethodName) ∈ TW := tw_t 481 (by decide +kernel) rfl
theorem tw482 : Jvm.Cond.selects "DotRuns$Reading" ({ cls := "DotRuns$Reading", name := "begin", desc := "(JI)V" } : Jvm.MethodName) ({ cls := "DotRuns$Reading", name := "begin", desc := "(JI)V" } : Jvm.MethodName) ∈ TW := tw_t 482 (by decide +kernel) rfl
theorem tw483 : Jvm.Cond.code ({ cls := "DotRuns$Reading", name := "begin", desc := "(JI)V" } : Jvm.MethodName) prog_6_method_2_code (4 : Nat) (Option.none : Option Jvm.ClassFile.FieldType) ∈ TW := tw_t 483 (by decide +kernel) rfl
theorem tw485 : Jvm.Cond.static ({ cls := "DotRuns", name := "changesOf", desc := "(JI)J" } : Jvm.MethodName) ∈ TW := tw_t 485 (by decide +kernel) rfl
theorem tw486 : Jvm.Cond.code ({ cls := "DotRuns", name := "changesOf", desc := "(JI)J" } : Jvm.MethodName) prog_1_method_59_code (3 : Nat) (Option.some Jvm.ClassFile.FieldType.long) ∈ TW := tw_t 486 (by decide +kernel) rfl
theorem tw487 : Jvm.Cond.methodLink "DotRuns" (367 : Nat) ({ cls := "DotRuns", name := "allBlack", desc := "(I)J" } : Jvm.MethodName) ∈ TW := tw_t 487 (by decide +kernel) rfl
theorem tw488 : Jvm.Cond.methodLink "DotRuns$Parser" (155 : Nat) ({ cls := "DotRuns$Reading", name := "look", desc := "()V" } : Jvm.MethodName) ∈ TW := tw_t 488 (by decide +kernel) rfl
theorem tw489 : Jvm.Cond.instanceMethod ({ cls := "DotRuns$Reading", name := "look", desc := "()V" } : Jvm.MethodName) ∈ TW := tw_t 489 (by decide +kernel) rfl
theorem tw490 : Jvm.Cond.selects "DotRuns$Reading" ({ cls := "DotRuns$Reading", name := "look", desc := "()V" } : Jvm.MethodName) ({ cls := "DotRuns$Reading", name := "look", desc := "()V" } : Jvm.MethodName) ∈ TW := tw_t 490 (by decide +kernel) rfl
theorem tw491 : Jvm.Cond.code ({ cls := "DotRuns$Reading", name := "look", desc := "()V" } : Jvm.MethodName) prog_6_method_4_code (1 : Nat) (Option.none : Option Jvm.ClassFile.FieldType) ∈ TW := tw_t 491 (by decide +kernel) rfl
theorem tw492 : Jvm.Cond.constantLong "DotRuns$Reading" (42 : Nat) (-1 : Int64) ∈ TW := tw_t 492 (by decide +kernel) rfl
theorem tw494 : Jvm.Cond.static ({ cls := "DotRuns", name := "firstBehind", desc := "(JII)I" } : Jvm.MethodName) ∈ TW := tw_t 494 (by decide +kernel) rfl
theorem tw495 : Jvm.Cond.code ({ cls := "DotRuns", name := "firstBehind", desc := "(JII)I" } : Jvm.MethodName) prog_1_method_61_code (6 : Nat) (Option.some Jvm.ClassFile.FieldType.int) ∈ TW := tw_t 495 (by decide +kernel) rfl
theorem tw496 : Jvm.Cond.constantLong "DotRuns" (211 : Nat) (-1 : Int64) ∈ TW := tw_t 496 (by decide +kernel) rfl
theorem tw497 : Jvm.Cond.methodLink "DotRuns" (159 : Nat) ({ cls := "java/lang/Long", name := "bitCount", desc := "(J)I" } : Jvm.MethodName) ∈ TW := tw_t 497 (by decide +kernel) rfl
theorem tw498 : Jvm.Cond.static ({ cls := "java/lang/Long", name := "bitCount", desc := "(J)I" } : Jvm.MethodName) ∈ TW := tw_t 498 (by decide +kernel) rfl
theorem tw499 : Jvm.Cond.code ({ cls := "java/lang/Long", name := "bitCount", desc := "(J)I" } : Jvm.MethodName) prog_15_method_50_code (2 : Nat) (Option.some Jvm.ClassFile.FieldType.int) ∈ TW := tw_t 499 (by decide +kernel) rfl
theorem tw500 : Jvm.Cond.constantLong "java/lang/Long" (314 : Nat) (6148914691236517205 : Int64) ∈ TW := tw_t 500 (by decide +kernel) rfl
theorem tw501 : Jvm.Cond.constantLong "java/lang/Long" (316 : Nat) (3689348814741910323 : Int64) ∈ TW := tw_t 501 (by decide +kernel) rfl
theorem tw502 : Jvm.Cond.constantLong "java/lang/Long" (318 : Nat) (1085102592571150095 : Int64) ∈ TW := tw_t 502 (by decide +kernel) rfl
theorem tw504 : Jvm.Cond.methodLink "DotRuns$Parser" (160 : Nat) ({ cls := "DotRuns$Parser", name := "readPass", desc := "()Z" } : Jvm.MethodName) ∈ TW := tw_t 504 (by decide +kernel) rfl
theorem tw506 : Jvm.Cond.instanceMethod ({ cls := "DotRuns$Parser", name := "readPass", desc := "()Z" } : Jvm.MethodName) ∈ TW := tw_t 506 (by decide +kernel) rfl
theorem tw507 : Jvm.Cond.code ({ cls := "DotRuns$Parser", name := "readPass", desc := "()Z" } : Jvm.MethodName) prog_5_method_15_code (2 : Nat) (Option.some Jvm.ClassFile.FieldType.boolean) ∈ TW := tw_t 507 (by decide +kernel) rfl
theorem tw508 : Jvm.Cond.methodLink "DotRuns$Parser" (173 : Nat) ({ cls := "DotRuns$Reading", name := "hasEnded", desc := "()Z" } : Jvm.MethodName) ∈ TW := tw_t 508 (by decide +kernel) rfl
theorem tw509 : Jvm.Cond.instanceMethod ({ cls := "DotRuns$Reading", name := "hasEnded", desc := "()Z" } : Jvm.MethodName) ∈ TW := tw_t 509 (by decide +kernel) rfl
theorem tw510 : Jvm.Cond.selects "DotRuns$Reading" ({ cls := "DotRuns$Reading", name := "hasEnded", desc := "()Z" } : Jvm.MethodName) ({ cls := "DotRuns$Reading", name := "hasEnded", desc := "()Z" } : Jvm.MethodName) ∈ TW := tw_t 510 (by decide +kernel) rfl
theorem tw511 : Jvm.Cond.code ({ cls := "DotRuns$Reading", name := "hasEnded", desc := "()Z" } : Jvm.MethodName) prog_6_method_3_code (1 : Nat) (Option.some Jvm.ClassFile.FieldType.boolean) ∈ TW := tw_t 511 (by decide +kernel) rfl
theorem tw512 : Jvm.Cond.methodLink "DotRuns$Parser" (180 : Nat) ({ cls := "DotRuns$Reading", name := "pass", desc := "()Z" } : Jvm.MethodName) ∈ TW := tw_t 512 (by decide +kernel) rfl
theorem tw513 : Jvm.Cond.instanceMethod ({ cls := "DotRuns$Reading", name := "pass", desc := "()Z" } : Jvm.MethodName) ∈ TW := tw_t 513 (by decide +kernel) rfl
theorem tw514 : Jvm.Cond.selects "DotRuns$Reading" ({ cls := "DotRuns$Reading", name := "pass", desc := "()Z" } : Jvm.MethodName) ({ cls := "DotRuns$Reading", name := "pass", desc := "()Z" } : Jvm.MethodName) ∈ TW := tw_t 514 (by decide +kernel) rfl
theorem tw515 : Jvm.Cond.code ({ cls := "DotRuns$Reading", name := "pass", desc := "()Z" } : Jvm.MethodName) prog_6_method_5_code (1 : Nat) (Option.some Jvm.ClassFile.FieldType.boolean) ∈ TW := tw_t 515 (by decide +kernel) rfl
theorem tw516 : Jvm.Cond.methodLink "DotRuns$Reading" (48 : Nat) ({ cls := "DotRuns$Reading", name := "goTo", desc := "(IZ)Z" } : Jvm.MethodName) ∈ TW := tw_t 516 (by decide +kernel) rfl
theorem tw518 : Jvm.Cond.instanceMethod ({ cls := "DotRuns$Reading", name := "goTo", desc := "(IZ)Z" } : Jvm.MethodName) ∈ TW := tw_t 518 (by decide +kernel) rfl
theorem tw519 : Jvm.Cond.code ({ cls := "DotRuns$Reading", name := "goTo", desc := "(IZ)Z" } : Jvm.MethodName) prog_6_method_8_code (3 : Nat) (Option.some Jvm.ClassFile.FieldType.boolean) ∈ TW := tw_t 519 (by decide +kernel) rfl
theorem tw521 : Jvm.Cond.methodLink "DotRuns$Parser" (183 : Nat) ({ cls := "DotRuns$Parser", name := "needRead", desc := "(ZI)Z" } : Jvm.MethodName) ∈ TW := tw_t 521 (by decide +kernel) rfl
theorem tw523 : Jvm.Cond.instanceMethod ({ cls := "DotRuns$Parser", name := "needRead", desc := "(ZI)Z" } : Jvm.MethodName) ∈ TW := tw_t 523 (by decide +kernel) rfl
theorem tw524 : Jvm.Cond.code ({ cls := "DotRuns$Parser", name := "needRead", desc := "(ZI)Z" } : Jvm.MethodName) prog_5_method_4_code (3 : Nat) (Option.some Jvm.ClassFile.FieldType.boolean) ∈ TW := tw_t 524 (by decide +kernel) rfl
theorem tw526 : Jvm.Cond.methodLink "DotRuns$Parser" (165 : Nat) ({ cls := "DotRuns$Parser", name := "readVertical", desc := "()Z" } : Jvm.MethodName) ∈ TW := tw_t 526 (by decide +kernel) rfl
theorem tw528 : Jvm.Cond.instanceMethod ({ cls := "DotRuns$Parser", name := "readVertical", desc := "()Z" } : Jvm.MethodName) ∈ TW := tw_t 528 (by decide +kernel) rfl
theorem tw529 : Jvm.Cond.code ({ cls := "DotRuns$Parser", name := "readVertical", desc := "()Z" } : Jvm.MethodName) prog_5_method_16_code (4 : Nat) (Option.some Jvm.ClassFile.FieldType.boolean) ∈ TW := tw_t 529 (by decide +kernel) rfl
theorem tw530 : Jvm.Cond.methodLink "DotRuns$Parser" (187 : Nat) ({ cls := "DotRuns$Reading", name := "goVertical", desc := "(I)Z" } : Jvm.MethodName) ∈ TW := tw_t 530 (by decide +kernel) rfl
theorem tw531 : Jvm.Cond.instanceMethod ({ cls := "DotRuns$Reading", name := "goVertical", desc := "(I)Z" } : Jvm.MethodName) ∈ TW := tw_t 531 (by decide +kernel) rfl
theorem tw532 : Jvm.Cond.selects "DotRuns$Reading" ({ cls := "DotRuns$Reading", name := "goVertical", desc := "(I)Z" } : Jvm.MethodName) ({ cls := "DotRuns$Reading", name := "goVertical", desc := "(I)Z" } : Jvm.MethodName) ∈ TW := tw_t 532 (by decide +kernel) rfl
theorem tw533 : Jvm.Cond.code ({ cls := "DotRuns$Reading", name := "goVertical", desc := "(I)Z" } : Jvm.MethodName) prog_6_method_6_code (2 : Nat) (Option.some Jvm.ClassFile.FieldType.boolean) ∈ TW := tw_t 533 (by decide +kernel) rfl
theorem tw535 : Jvm.Cond.methodLink "DotRuns$Parser" (170 : Nat) ({ cls := "DotRuns$Parser", name := "readHorizontal", desc := "()Z" } : Jvm.MethodName) ∈ TW := tw_t 535 (by decide +kernel) rfl
theorem tw537 : Jvm.Cond.instanceMethod ({ cls := "DotRuns$Parser", name := "readHorizontal", desc := "()Z" } : Jvm.MethodName) ∈ TW := tw_t 537 (by decide +kernel) rfl
theorem tw538 : Jvm.Cond.code ({ cls := "DotRuns$Parser", name := "readHorizontal", desc := "()Z" } : Jvm.MethodName) prog_5_method_17_code (4 : Nat) (Option.some Jvm.ClassFile.FieldType.boolean) ∈ TW := tw_t 538 (by decide +kernel) rfl
theorem tw539 : Jvm.Cond.methodLink "DotRuns$Parser" (190 : Nat) ({ cls := "DotRuns$Reading", name := "goHorizontal", desc := "(II)Z" } : Jvm.MethodName) ∈ TW := tw_t 539 (by decide +kernel) rfl
theorem tw540 : Jvm.Cond.instanceMethod ({ cls := "DotRuns$Reading", name := "goHorizontal", desc := "(II)Z" } : Jvm.MethodName) ∈ TW := tw_t 540 (by decide +kernel) rfl
theorem tw541 : Jvm.Cond.selects "DotRuns$Reading" ({ cls := "DotRuns$Reading", name := "goHorizontal", desc := "(II)Z" } : Jvm.MethodName) ({ cls := "DotRuns$Reading", name := "goHorizontal", desc := "(II)Z" } : Jvm.MethodName) ∈ TW := tw_t 541 (by decide +kernel) rfl
theorem tw542 : Jvm.Cond.code ({ cls := "DotRuns$Reading", name := "goHorizontal", desc := "(II)Z" } : Jvm.MethodName) prog_6_method_7_code (6 : Nat) (Option.some Jvm.ClassFile.FieldType.boolean) ∈ TW := tw_t 542 (by decide +kernel) rfl
theorem tw543 : Jvm.Cond.methodLink "DotRuns" (86 : Nat) ({ cls := "DotRuns$Page", name := "copyFrom", desc := "(LDotRuns$Page;)V" } : Jvm.MethodName) ∈ TW := tw_t 543 (by decide +kernel) rfl
theorem tw544 : Jvm.Cond.instanceMethod ({ cls := "DotRuns$Page", name := "copyFrom", desc := "(LDotRuns$Page;)V" } : Jvm.MethodName) ∈ TW := tw_t 544 (by decide +kernel) rfl
theorem tw545 : Jvm.Cond.selects "DotRuns$Page" ({ cls := "DotRuns$Page", name := "copyFrom", desc := "(LDotRuns$Page;)V" } : Jvm.MethodName) ({ cls := "DotRuns$Page", name := "copyFrom", desc := "(LDotRuns$Page;)V" } : Jvm.MethodName) ∈ TW := tw_t 545 (by decide +kernel) rfl
theorem tw546 : Jvm.Cond.code ({ cls := "DotRuns$Page", name := "copyFrom", desc := "(LDotRuns$Page;)V" } : Jvm.MethodName) prog_4_method_3_code (3 : Nat) (Option.none : Option Jvm.ClassFile.FieldType) ∈ TW := tw_t 546 (by decide +kernel) rfl
theorem tw547 : Jvm.Cond.methodLink "DotRuns" (90 : Nat) ({ cls := "DotRuns$History", name := "forget", desc := "()V" } : Jvm.MethodName) ∈ TW := tw_t 547 (by decide +kernel) rfl
theorem tw548 : Jvm.Cond.instanceMethod ({ cls := "DotRuns$History", name := "forget", desc := "()V" } : Jvm.MethodName) ∈ TW := tw_t 548 (by decide +kernel) rfl
theorem tw549 : Jvm.Cond.selects "DotRuns$History" ({ cls := "DotRuns$History", name := "forget", desc := "()V" } : Jvm.MethodName) ({ cls := "DotRuns$History", name := "forget", desc := "()V" } : Jvm.MethodName) ∈ TW := tw_t 549 (by decide +kernel) rfl
theorem tw550 : Jvm.Cond.code ({ cls := "DotRuns$History", name := "forget", desc := "()V" } : Jvm.MethodName) prog_3_method_4_code (1 : Nat) (Option.none : Option Jvm.ClassFile.FieldType) ∈ TW := tw_t 550 (by decide +kernel) rfl
theorem tw563 : Jvm.Cond.methodLink "DotRuns" (253 : Nat) ({ cls := "DotRuns$Sending", name := "prepare", desc := "(LDotRuns$Page;)V" } : Jvm.MethodName) ∈ TW := tw_t 563 (by decide +kernel) rfl
theorem tw564 : Jvm.Cond.instanceMethod ({ cls := "DotRuns$Sending", name := "prepare", desc := "(LDotRuns$Page;)V" } : Jvm.MethodName) ∈ TW := tw_t 564 (by decide +kernel) rfl
theorem tw565 : Jvm.Cond.selects "DotRuns$Sending" ({ cls := "DotRuns$Sending", name := "prepare", desc := "(LDotRuns$Page;)V" } : Jvm.MethodName) ({ cls := "DotRuns$Sending", name := "prepare", desc := "(LDotRuns$Page;)V" } : Jvm.MethodName) ∈ TW := tw_t 565 (by decide +kernel) rfl
theorem tw566 : Jvm.Cond.code ({ cls := "DotRuns$Sending", name := "prepare", desc := "(LDotRuns$Page;)V" } : Jvm.MethodName) prog_7_method_2_code (3 : Nat) (Option.none : Option Jvm.ClassFile.FieldType) ∈ TW := tw_t 566 (by decide +kernel) rfl
theorem tw567 : Jvm.Cond.methodLink "DotRuns$Sending" (60 : Nat) ({ cls := "DotRuns$Page", name := "rowAt", desc := "(I)J" } : Jvm.MethodName) ∈ TW := tw_t 567 (by decide +kernel) rfl
theorem tw568 : Jvm.Cond.methodLink "DotRuns$Sending" (67 : Nat) ({ cls := "DotRuns$Code", name := "makeFor", desc := "(JJI)V" } : Jvm.MethodName) ∈ TW := tw_t 568 (by decide +kernel) rfl
theorem tw569 : Jvm.Cond.instanceMethod ({ cls := "DotRuns$Code", name := "makeFor", desc := "(JJI)V" } : Jvm.MethodName) ∈ TW := tw_t 569 (by decide +kernel) rfl
theorem tw570 : Jvm.Cond.selects "DotRuns$Code" ({ cls := "DotRuns$Code", name := "makeFor", desc := "(JJI)V" } : Jvm.MethodName) ({ cls := "DotRuns$Code", name := "makeFor", desc := "(JJI)V" } : Jvm.MethodName) ∈ TW := tw_t 570 (by decide +kernel) rfl
theorem tw571 : Jvm.Cond.code ({ cls := "DotRuns$Code", name := "makeFor", desc := "(JJI)V" } : Jvm.MethodName) prog_2_method_2_code (7 : Nat) (Option.none : Option Jvm.ClassFile.FieldType) ∈ TW := tw_t 571 (by decide +kernel) rfl
theorem tw572 : Jvm.Cond.methodLink "DotRuns$Code" (38 : Nat) ({ cls := "DotRuns$Reading", name := "begin", desc := "(JI)V" } : Jvm.MethodName) ∈ TW := tw_t 572 (by decide +kernel) rfl
theorem tw573 : Jvm.Cond.methodLink "DotRuns$Code" (42 : Nat) ({ cls := "DotRuns$Reading", name := "hasEnded", desc := "()Z" } : Jvm.MethodName) ∈ TW := tw_t 573 (by decide +kernel) rfl
theorem tw574 : Jvm.Cond.methodLink "DotRuns$Code" (46 : Nat) ({ cls := "DotRuns$Reading", name := "look", desc := "()V" } : Jvm.MethodName) ∈ TW := tw_t 574 (by decide +kernel) rfl
theorem tw575 : Jvm.Cond.methodLink "DotRuns$Code" (49 : Nat) ({ cls := "DotRuns$Code", name := "addMode", desc := "(JI)V" } : Jvm.MethodName) ∈ TW := tw_t 575 (by decide +kernel) rfl
theorem tw577 : Jvm.Cond.instanceMethod ({ cls := "DotRuns$Code", name := "addMode", desc := "(JI)V" } : Jvm.MethodName) ∈ TW := tw_t 577 (by decide +kernel) rfl
theorem tw578 : Jvm.Cond.code ({ cls := "DotRuns$Code", name := "addMode", desc := "(JI)V" } : Jvm.MethodName) prog_2_method_3_code (12 : Nat) (Option.none : Option Jvm.ClassFile.FieldType) ∈ TW := tw_t 578 (by decide +kernel) rfl
theorem tw579 : Jvm.Cond.constantLong "DotRuns$Code" (56 : Nat) (-1 : Int64) ∈ TW := tw_t 579 (by decide +kernel) rfl
theorem tw582 : Jvm.Cond.methodLink "DotRuns$Code" (75 : Nat) ({ cls := "DotRuns$Code", name := "putMode", desc := "(IIII)V" } : Jvm.MethodName) ∈ TW := tw_t 582 (by decide +kernel) rfl
theorem tw584 : Jvm.Cond.instanceMethod ({ cls := "DotRuns$Code", name := "putMode", desc := "(IIII)V" } : Jvm.MethodName) ∈ TW := tw_t 584 (by decide +kernel) rfl
theorem tw585 : Jvm.Cond.code ({ cls := "DotRuns$Code", name := "putMode", desc := "(IIII)V" } : Jvm.MethodName) prog_2_method_4_code (5 : Nat) (Option.none : Option Jvm.ClassFile.FieldType) ∈ TW := tw_t 585 (by decide +kernel) rfl
theorem tw586 : Jvm.Cond.methodLink "DotRuns$Code" (79 : Nat) ({ cls := "DotRuns$Code", name := "verticalBits", desc := "(I)I" } : Jvm.MethodName) ∈ TW := tw_t 586 (by decide +kernel) rfl
theorem tw587 : Jvm.Cond.static ({ cls := "DotRuns$Code", name := "verticalBits", desc := "(I)I" } : Jvm.MethodName) ∈ TW := tw_t 587 (by decide +kernel) rfl
theorem tw588 : Jvm.Cond.code ({ cls := "DotRuns$Code", name := "verticalBits", desc := "(I)I" } : Jvm.MethodName) prog_2_method_5_code (1 : Nat) (Option.some Jvm.ClassFile.FieldType.int) ∈ TW := tw_t 588 (by decide +kernel) rfl
theorem tw589 : Jvm.Cond.methodLink "DotRuns$Code" (86 : Nat) ({ cls := "java/lang/Math", name := "abs", desc := "(I)I" } : Jvm.MethodName) ∈ TW := tw_t 589 (by decide +kernel) rfl
theorem tw590 : Jvm.Cond.static ({ cls := "java/lang/Math", name := "abs", desc := "(I)I" } : Jvm.MethodName) ∈ TW := tw_t 590 (by decide +kernel) rfl
theorem tw591 : Jvm.Cond.code ({ cls := "java/lang/Math", name := "abs", desc := "(I)I" } : Jvm.MethodName) prog_16_method_59_code (1 : Nat) (Option.some Jvm.ClassFile.FieldType.int) ∈ TW := tw_t 591 (by decide +kernel) rfl
theorem tw593 : Jvm.Cond.static ({ cls := "DotRuns", name := "numberBits", desc := "(I)I" } : Jvm.MethodName) ∈ TW := tw_t 593 (by decide +kernel) rfl
theorem tw594 : Jvm.Cond.code ({ cls := "DotRuns", name := "numberBits", desc := "(I)I" } : Jvm.MethodName) prog_1_method_65_code (1 : Nat) (Option.some Jvm.ClassFile.FieldType.int) ∈ TW := tw_t 594 (by decide +kernel) rfl
theorem tw596 : Jvm.Cond.static ({ cls := "DotRuns", name := "aloneBits", desc := "(JI)I" } : Jvm.MethodName) ∈ TW := tw_t 596 (by decide +kernel) rfl
theorem tw597 : Jvm.Cond.code ({ cls := "DotRuns", name := "aloneBits", desc := "(JI)I" } : Jvm.MethodName) prog_1_method_64_code (9 : Nat) (Option.some Jvm.ClassFile.FieldType.int) ∈ TW := tw_t 597 (by decide +kernel) rfl
theorem tw598 : Jvm.Cond.methodLink "DotRuns" (155 : Nat) ({ cls := "DotRuns", name := "changesOf", desc := "(JI)J" } : Jvm.MethodName) ∈ TW := tw_t 598 (by decide +kernel) rfl
theorem tw599 : Jvm.Cond.methodLink "DotRuns" (370 : Nat) ({ cls := "DotRuns", name := "lowestOf", desc := "(J)I" } : Jvm.MethodName) ∈ TW := tw_t 599 (by decide +kernel) rfl
theorem tw600 : Jvm.Cond.static ({ cls := "DotRuns", name := "lowestOf", desc := "(J)I" } : Jvm.MethodName) ∈ TW := tw_t 600 (by decide +kernel) rfl
theorem tw601 : Jvm.Cond.code ({ cls := "DotRuns", name := "lowestOf", desc := "(J)I" } : Jvm.MethodName) prog_1_method_60_code (2 : Nat) (Option.some Jvm.ClassFile.FieldType.int) ∈ TW := tw_t 601 (by decide +kernel) rfl
theorem tw602 : Jvm.Cond.methodLink "DotRuns" (373 : Nat) ({ cls := "DotRuns", name := "numberBits", desc := "(I)I" } : Jvm.MethodName) ∈ TW := tw_t 602 (by decide +kernel) rfl
theorem tw603 : Jvm.Cond.methodLink "DotRuns" (299 : Nat) ({ cls := "DotRuns$Sending", name := "loseOnly", desc := "(I)V" } : Jvm.MethodName) ∈ TW := tw_t 603 (by decide +kernel) rfl
theorem tw604 : Jvm.Cond.instanceMethod ({ cls := "DotRuns$Sending", name := "loseOnly", desc := "(I)V" } : Jvm.MethodName) ∈ TW := tw_t 604 (by decide +kernel) rfl
theorem tw605 : Jvm.Cond.selects "DotRuns$Sending" ({ cls := "DotRuns$Sending", name := "loseOnly", desc := "(I)V" } : Jvm.MethodName) ({ cls := "DotRuns$Sending", name := "loseOnly", desc := "(I)V" } : Jvm.MethodName) ∈ TW := tw_t 605 (by decide +kernel) rfl
theorem tw606 : Jvm.Cond.code ({ cls := "DotRuns$Sending", name := "loseOnly", desc := "(I)V" } : Jvm.MethodName) prog_7_method_3_code (3 : Nat) (Option.none : Option Jvm.ClassFile.FieldType) ∈ TW := tw_t 606 (by decide +kernel) rfl
theorem tw607 : Jvm.Cond.methodLink "DotRuns" (256 : Nat) ({ cls := "DotRuns$Sending", name := "sendPage", desc := "(LDotRuns$Page;)V" } : Jvm.MethodName) ∈ TW := tw_t 607 (by decide +kernel) rfl
theorem tw608 : Jvm.Cond.instanceMethod ({ cls := "DotRuns$Sending", name := "sendPage", desc := "(LDotRuns$Page;)V" } : Jvm.MethodName) ∈ TW := tw_t 608 (by decide +kernel) rfl
theorem tw609 : Jvm.Cond.selects "DotRuns$Sending" ({ cls := "DotRuns$Sending", name := "sendPage", desc := "(LDotRuns$Page;)V" } : Jvm.MethodName) ({ cls := "DotRuns$Sending", name := "sendPage", desc := "(LDotRuns$Page;)V" } : Jvm.MethodName) ∈ TW := tw_t 609 (by decide +kernel) rfl
theorem tw610 : Jvm.Cond.code ({ cls := "DotRuns$Sending", name := "sendPage", desc := "(LDotRuns$Page;)V" } : Jvm.MethodName) prog_7_method_4_code (4 : Nat) (Option.none : Option Jvm.ClassFile.FieldType) ∈ TW := tw_t 610 (by decide +kernel) rfl
theorem tw611 : Jvm.Cond.methodLink "DotRuns$Sending" (78 : Nat) ({ cls := "DotRuns$Sending", name := "clear", desc := "()V" } : Jvm.MethodName) ∈ TW := tw_t 611 (by decide +kernel) rfl
theorem tw613 : Jvm.Cond.instanceMethod ({ cls := "DotRuns$Sending", name := "clear", desc := "()V" } : Jvm.MethodName) ∈ TW := tw_t 613 (by decide +kernel) rfl
theorem tw614 : Jvm.Cond.code ({ cls := "DotRuns$Sending", name := "clear", desc := "()V" } : Jvm.MethodName) prog_7_method_5_code (2 : Nat) (Option.none : Option Jvm.ClassFile.FieldType) ∈ TW := tw_t 614 (by decide +kernel) rfl
theorem tw615 : Jvm.Cond.methodLink "DotRuns$Sending" (81 : Nat) ({ cls := "DotRuns$Page", name := "hasLine", desc := "(I)Z" } : Jvm.MethodName) ∈ TW := tw_t 615 (by decide +kernel) rfl
theorem tw616 : Jvm.Cond.methodLink "DotRuns$Sending" (85 : Nat) ({ cls := "DotRuns$Sending", name := "sendOne", desc := "(LDotRuns$Page;I)I" } : Jvm.MethodName) ∈ TW := tw_t 616 (by decide +kernel) rfl
theorem tw618 : Jvm.Cond.instanceMethod ({ cls := "DotRuns$Sending", name := "sendOne", desc := "(LDotRuns$Page;I)I" } : Jvm.MethodName) ∈ TW := tw_t 618 (by decide +kernel) rfl
theorem tw619 : Jvm.Cond.code ({ cls := "DotRuns$Sending", name := "sendOne", desc := "(LDotRuns$Page;I)I" } : Jvm.MethodName) prog_7_method_6_code (8 : Nat) (Option.some Jvm.ClassFile.FieldType.int) ∈ TW := tw_t 619 (by decide +kernel) rfl
theorem tw620 : Jvm.Cond.methodLink "DotRuns$Sending" (102 : Nat) ({ cls := "DotRuns$Sending", name := "isSentAlone", desc := "(LDotRuns$Page;I)Z" } : Jvm.MethodName) ∈ TW := tw_t 620 (by decide +kernel) rfl
theorem tw622 : Jvm.Cond.instanceMethod ({ cls := "DotRuns$Sending", name := "isSentAlone", desc := "(LDotRuns$Page;I)Z" } : Jvm.MethodName) ∈ TW := tw_t 622 (by decide +kernel) rfl
theorem tw623 : Jvm.Cond.code ({ cls := "DotRuns$Sending", name := "isSentAlone", desc := "(LDotRuns$Page;I)Z" } : Jvm.MethodName) prog_7_method_8_code (3 : Nat) (Option.some Jvm.ClassFile.FieldType.boolean) ∈ TW := tw_t 623 (by decide +kernel) rfl
theorem tw625 : Jvm.Cond.static ({ cls := "DotRuns", name := "isEvery", desc := "(II)Z" } : Jvm.MethodName) ∈ TW := tw_t 625 (by decide +kernel) rfl
theorem tw626 : Jvm.Cond.code ({ cls := "DotRuns", name := "isEvery", desc := "(II)Z" } : Jvm.MethodName) prog_1_method_66_code (2 : Nat) (Option.some Jvm.ClassFile.FieldType.boolean) ∈ TW := tw_t 626 (by decide +kernel) rfl
theorem tw627 : Jvm.Cond.constantLong "DotRuns$Sending" (106 : Nat) (-1 : Int64) ∈ TW := tw_t 627 (by decide +kernel) rfl
theorem tw628 : Jvm.Cond.methodLink "DotRuns$Sending" (108 : Nat) ({ cls := "DotRuns$Sending", name := "readByAbove", desc := "(LDotRuns$Page;I)J" } : Jvm.MethodName) ∈ TW := tw_t 628 (by decide +kernel) rfl
theorem tw630 : Jvm.Cond.instanceMethod ({ cls := "DotRuns$Sending", name := "readByAbove", desc := "(LDotRuns$Page;I)J" } : Jvm.MethodName) ∈ TW := tw_t 630 (by decide +kernel) rfl
theorem tw631 : Jvm.Cond.code ({ cls := "DotRuns$Sending", name := "readByAbove", desc := "(LDotRuns$Page;I)J" } : Jvm.MethodName) prog_7_method_10_code (3 : Nat) (Option.some Jvm.ClassFile.FieldType.long) ∈ TW := tw_t 631 (by decide +kernel) rfl
theorem tw632 : Jvm.Cond.methodLink "DotRuns$Sending" (115 : Nat) ({ cls := "DotRuns$Sending", name := "rowAbove", desc := "(I)J" } : Jvm.MethodName) ∈ TW := tw_t 632 (by decide +kernel) rfl
theorem tw634 : Jvm.Cond.instanceMethod ({ cls := "DotRuns$Sending", name := "rowAbove", desc := "(I)J" } : Jvm.MethodName) ∈ TW := tw_t 634 (by decide +kernel) rfl
theorem tw635 : Jvm.Cond.code ({ cls := "DotRuns$Sending", name := "rowAbove", desc := "(I)J" } : Jvm.MethodName) prog_7_method_9_code (2 : Nat) (Option.some Jvm.ClassFile.FieldType.long) ∈ TW := tw_t 635 (by decide +kernel) rfl
theorem tw636 : Jvm.Cond.methodLink "DotRuns$Sending" (122 : Nat) ({ cls := "DotRuns$Code", name := "readUnder", desc := "(JI)J" } : Jvm.MethodName) ∈ TW := tw_t 636 (by decide +kernel) rfl
theorem tw637 : Jvm.Cond.instanceMethod ({ cls := "DotRuns$Code", name := "readUnder", desc := "(JI)J" } : Jvm.MethodName) ∈ TW := tw_t 637 (by decide +kernel) rfl
theorem tw638 : Jvm.Cond.selects "DotRuns$Code" ({ cls := "DotRuns$Code", name := "readUnder", desc := "(JI)J" } : Jvm.MethodName) ({ cls := "DotRuns$Code", name := "readUnder", desc := "(JI)J" } : Jvm.MethodName) ∈ TW := tw_t 638 (by decide +kernel) rfl
theorem tw639 : Jvm.Cond.code ({ cls := "DotRuns$Code", name := "readUnder", desc := "(JI)J" } : Jvm.MethodName) prog_2_method_8_code (6 : Nat) (Option.some Jvm.ClassFile.FieldType.long) ∈ TW := tw_t 639 (by decide +kernel) rfl
theorem tw640 : Jvm.Cond.methodLink "DotRuns$Code" (91 : Nat) ({ cls := "DotRuns$Reading", name := "pass", desc := "()Z" } : Jvm.MethodName) ∈ TW := tw_t 640 (by decide +kernel) rfl
theorem tw641 : Jvm.Cond.methodLink "DotRuns$Code" (94 : Nat) ({ cls := "DotRuns$Reading", name := "goVertical", desc := "(I)Z" } : Jvm.MethodName) ∈ TW := tw_t 641 (by decide +kernel) rfl
theorem tw642 : Jvm.Cond.methodLink "DotRuns$Code" (98 : Nat) ({ cls := "DotRuns$Reading", name := "goHorizontal", desc := "(II)Z" } : Jvm.MethodName) ∈ TW := tw_t 642 (by decide +kernel) rfl
theorem tw643 : Jvm.Cond.methodLink "DotRuns$Sending" (112 : Nat) ({ cls := "DotRuns$Sending", name := "stepBack", desc := "(LDotRuns$Page;I)I" } : Jvm.MethodName) ∈ TW := tw_t 643 (by decide +kernel) rfl
theorem tw645 : Jvm.Cond.instanceMethod ({ cls := "DotRuns$Sending", name := "stepBack", desc := "(LDotRuns$Page;I)I" } : Jvm.MethodName) ∈ TW := tw_t 645 (by decide +kernel) rfl
theorem tw646 : Jvm.Cond.code ({ cls := "DotRuns$Sending", name := "stepBack", desc := "(LDotRuns$Page;I)I" } : Jvm.MethodName) prog_7_method_7_code (4 : Nat) (Option.some Jvm.ClassFile.FieldType.int) ∈ TW := tw_t 646 (by decide +kernel) rfl
theorem tw647 : Jvm.Cond.methodLink "DotRuns" (266 : Nat) ({ cls := "DotRuns$Sending", name := "wrongDots", desc := "(LDotRuns$Page;)I" } : Jvm.MethodName) ∈ TW := tw_t 647 (by decide +kernel) rfl
theorem tw648 : Jvm.Cond.instanceMethod ({ cls := "DotRuns$Sending", name := "wrongDots", desc := "(LDotRuns$Page;)I" } : Jvm.MethodName) ∈ TW := tw_t 648 (by decide +kernel) rfl
theorem tw649 : Jvm.Cond.selects "DotRuns$Sending" ({ cls := "DotRuns$Sending", name := "wrongDots", desc := "(LDotRuns$Page;)I" } : Jvm.MethodName) ({ cls := "DotRuns$Sending", name := "wrongDots", desc := "(LDotRuns$Page;)I" } : Jvm.MethodName) ∈ TW := tw_t 649 (by decide +kernel) rfl
theorem tw650 : Jvm.Cond.code ({ cls := "DotRuns$Sending", name := "wrongDots", desc := "(LDotRuns$Page;)I" } : Jvm.MethodName) prog_7_method_13_code (4 : Nat) (Option.some Jvm.ClassFile.FieldType.int) ∈ TW := tw_t 650 (by decide +kernel) rfl
theorem tw651 : Jvm.Cond.methodLink "DotRuns$Sending" (132 : Nat) ({ cls := "DotRuns$Sending", name := "wrongDotsOf", desc := "(ILDotRuns$Page;)I" } : Jvm.MethodName) ∈ TW := tw_t 651 (by decide +kernel) rfl
theorem tw652 : Jvm.Cond.instanceMethod ({ cls := "DotRuns$Sending", name := "wrongDotsOf", desc := "(ILDotRuns$Page;)I" } : Jvm.MethodName) ∈ TW := tw_t 652 (by decide +kernel) rfl
theorem tw653 : Jvm.Cond.selects "DotRuns$Sending" ({ cls := "DotRuns$Sending", name := "wrongDotsOf", desc := "(ILDotRuns$Page;)I" } : Jvm.MethodName) ({ cls := "DotRuns$Sending", name := "wrongDotsOf", desc := "(ILDotRuns$Page;)I" } : Jvm.MethodName) ∈ TW := tw_t 653 (by decide +kernel) rfl
theorem tw654 : Jvm.Cond.code ({ cls := "DotRuns$Sending", name := "wrongDotsOf", desc := "(ILDotRuns$Page;)I" } : Jvm.MethodName) prog_7_method_12_code (3 : Nat) (Option.some Jvm.ClassFile.FieldType.int) ∈ TW := tw_t 654 (by decide +kernel) rfl
theorem tw655 : Jvm.Cond.methodLink "DotRuns$Sending" (126 : Nat) ({ cls := "java/lang/Long", name := "bitCount", desc := "(J)I" } : Jvm.MethodName) ∈ TW := tw_t 655 (by decide +kernel) rfl
theorem tw660 : Jvm.Cond.fieldLink "DotRuns" (308 : Nat) "DotRuns" "LEAST_SETTINGS" "[I" ∈ TW := tw_t 660 (by decide +kernel) rfl
theorem tw661 : Jvm.Cond.fieldLink "DotRuns" (311 : Nat) "DotRuns" "MOST_SETTINGS" "[I" ∈ TW := tw_t 661 (by decide +kernel) rfl
theorem tw674 : Jvm.Cond.methodLink "DotRuns" (118 : Nat) ({ cls := "DotRuns", name := "marks", desc := "()I" } : Jvm.MethodName) ∈ TW := tw_t 674 (by decide +kernel) rfl
theorem tw676 : Jvm.Cond.instanceMethod ({ cls := "DotRuns", name := "marks", desc := "()I" } : Jvm.MethodName) ∈ TW := tw_t 676 (by decide +kernel) rfl
theorem tw677 : Jvm.Cond.code ({ cls := "DotRuns", name := "marks", desc := "()I" } : Jvm.MethodName) prog_1_method_50_code (3 : Nat) (Option.some Jvm.ClassFile.FieldType.int) ∈ TW := tw_t 677 (by decide +kernel) rfl
theorem tw678 : Jvm.Cond.methodLink "DotRuns" (145 : Nat) ({ cls := "DotRuns", name := "isMark", desc := "(I)Z" } : Jvm.MethodName) ∈ TW := tw_t 678 (by decide +kernel) rfl
theorem tw680 : Jvm.Cond.instanceMethod ({ cls := "DotRuns", name := "isMark", desc := "(I)Z" } : Jvm.MethodName) ∈ TW := tw_t 680 (by decide +kernel) rfl
theorem tw681 : Jvm.Cond.code ({ cls := "DotRuns", name := "isMark", desc := "(I)Z" } : Jvm.MethodName) prog_1_method_51_code (2 : Nat) (Option.some Jvm.ClassFile.FieldType.boolean) ∈ TW := tw_t 681 (by decide +kernel) rfl
theorem tw682 : Jvm.Cond.methodLink "DotRuns" (360 : Nat) ({ cls := "DotRuns", name := "isEvery", desc := "(II)Z" } : Jvm.MethodName) ∈ TW := tw_t 682 (by decide +kernel) rfl
theorem tw683 : Jvm.Cond.methodLink "DotRuns" (142 : Nat) ({ cls := "DotRuns", name := "codeLine", desc := "(I)V" } : Jvm.MethodName) ∈ TW := tw_t 683 (by decide +kernel) rfl
theorem tw685 : Jvm.Cond.instanceMethod ({ cls := "DotRuns", name := "codeLine", desc := "(I)V" } : Jvm.MethodName) ∈ TW := tw_t 685 (by decide +kernel) rfl
theorem tw686 : Jvm.Cond.code ({ cls := "DotRuns", name := "codeLine", desc := "(I)V" } : Jvm.MethodName) prog_1_method_53_code (2 : Nat) (Option.none : Option Jvm.ClassFile.FieldType) ∈ TW := tw_t 686 (by decide +kernel) rfl
theorem tw687 : Jvm.Cond.methodLink "DotRuns" (131 : Nat) ({ cls := "DotRuns$Page", name := "rowAt", desc := "(I)J" } : Jvm.MethodName) ∈ TW := tw_t 687 (by decide +kernel) rfl
theorem tw688 : Jvm.Cond.methodLink "DotRuns" (363 : Nat) ({ cls := "DotRuns$Code", name := "makeFor", desc := "(JJI)V" } : Jvm.MethodName) ∈ TW := tw_t 688 (by decide +kernel) rfl
theorem tw689 : Jvm.Cond.methodLink "DotRuns" (149 : Nat) ({ cls := "DotRuns", name := "aloneBits", desc := "(JI)I" } : Jvm.MethodName) ∈ TW := tw_t 689 (by decide +kernel) rfl
theorem tw698 : Jvm.Cond.methodLink "DotRuns" (334 : Nat) ({ cls := "DotRuns$History", name := "takeBack", desc := "(LDotRuns$Page;)Z" } : Jvm.MethodName) ∈ TW := tw_t 698 (by decide +kernel) rfl
theorem tw699 : Jvm.Cond.instanceMethod ({ cls := "DotRuns$History", name := "takeBack", desc := "(LDotRuns$Page;)Z" } : Jvm.MethodName) ∈ TW := tw_t 699 (by decide +kernel) rfl
theorem tw700 : Jvm.Cond.selects "DotRuns$History" ({ cls := "DotRuns$History", name := "takeBack", desc := "(LDotRuns$Page;)Z" } : Jvm.MethodName) ({ cls := "DotRuns$History", name := "takeBack", desc := "(LDotRuns$Page;)Z" } : Jvm.MethodName) ∈ TW := tw_t 700 (by decide +kernel) rfl
theorem tw701 : Jvm.Cond.code ({ cls := "DotRuns$History", name := "takeBack", desc := "(LDotRuns$Page;)Z" } : Jvm.MethodName) prog_3_method_3_code (3 : Nat) (Option.some Jvm.ClassFile.FieldType.boolean) ∈ TW := tw_t 701 (by decide +kernel) rfl
theorem tw702 : Jvm.Cond.methodLink "DotRuns$History" (25 : Nat) ({ cls := "DotRuns$Page", name := "copyFrom", desc := "(LDotRuns$Page;)V" } : Jvm.MethodName) ∈ TW := tw_t 702 (by decide +kernel) rfl
theorem tw711 : Jvm.Cond.classLink "DotRuns" (65 : Nat) "java/lang/IllegalStateException" ∈ TW := tw_t 711 (by decide +kernel) rfl
theorem tw778 : Jvm.Cond.methodLink "DotRuns" (72 : Nat) ({ cls := "DotRuns$Tokens", name := "append", desc := "(I)V" } : Jvm.MethodName) ∈ TW := tw_t 778 (by decide +kernel) rfl
theorem tw779 : Jvm.Cond.instanceMethod ({ cls := "DotRuns$Tokens", name := "append", desc := "(I)V" } : Jvm.MethodName) ∈ TW := tw_t 779 (by decide +kernel) rfl
theorem tw780 : Jvm.Cond.selects "DotRuns$Tokens" ({ cls := "DotRuns$Tokens", name := "append", desc := "(I)V" } : Jvm.MethodName) ({ cls := "DotRuns$Tokens", name := "append", desc := "(I)V" } : Jvm.MethodName) ∈ TW := tw_t 780 (by decide +kernel) rfl
theorem tw781 : Jvm.Cond.code ({ cls := "DotRuns$Tokens", name := "append", desc := "(I)V" } : Jvm.MethodName) prog_8_method_2_code (2 : Nat) (Option.none : Option Jvm.ClassFile.FieldType) ∈ TW := tw_t 781 (by decide +kernel) rfl
theorem tw790 : Jvm.Cond.classLink "DotRuns" (76 : Nat) "java/lang/IllegalArgumentException" ∈ TW := tw_t 790 (by decide +kernel) rfl
theorem tw814 : Jvm.Cond.methodLink "DotRuns" (111 : Nat) ({ cls := "DotRuns", name := "blackDots", desc := "()I" } : Jvm.MethodName) ∈ TW := tw_t 814 (by decide +kernel) rfl
theorem tw816 : Jvm.Cond.instanceMethod ({ cls := "DotRuns", name := "blackDots", desc := "()I" } : Jvm.MethodName) ∈ TW := tw_t 816 (by decide +kernel) rfl
theorem tw817 : Jvm.Cond.code ({ cls := "DotRuns", name := "blackDots", desc := "()I" } : Jvm.MethodName) prog_1_method_47_code (3 : Nat) (Option.some Jvm.ClassFile.FieldType.int) ∈ TW := tw_t 817 (by decide +kernel) rfl
theorem tw818 : Jvm.Cond.methodLink "DotRuns" (115 : Nat) ({ cls := "DotRuns", name := "allChanges", desc := "()I" } : Jvm.MethodName) ∈ TW := tw_t 818 (by decide +kernel) rfl
theorem tw820 : Jvm.Cond.instanceMethod ({ cls := "DotRuns", name := "allChanges", desc := "()I" } : Jvm.MethodName) ∈ TW := tw_t 820 (by decide +kernel) rfl
theorem tw821 : Jvm.Cond.code ({ cls := "DotRuns", name := "allChanges", desc := "()I" } : Jvm.MethodName) prog_1_method_48_code (3 : Nat) (Option.some Jvm.ClassFile.FieldType.int) ∈ TW := tw_t 821 (by decide +kernel) rfl
theorem tw822 : Jvm.Cond.methodLink "DotRuns" (124 : Nat) ({ cls := "DotRuns", name := "linesAsAbove", desc := "()I" } : Jvm.MethodName) ∈ TW := tw_t 822 (by decide +kernel) rfl
theorem tw824 : Jvm.Cond.instanceMethod ({ cls := "DotRuns", name := "linesAsAbove", desc := "()I" } : Jvm.MethodName) ∈ TW := tw_t 824 (by decide +kernel) rfl
theorem tw825 : Jvm.Cond.code ({ cls := "DotRuns", name := "linesAsAbove", desc := "()I" } : Jvm.MethodName) prog_1_method_49_code (3 : Nat) (Option.some Jvm.ClassFile.FieldType.int) ∈ TW := tw_t 825 (by decide +kernel) rfl
theorem tw834 : Jvm.Cond.methodLink "DotRuns" (127 : Nat) ({ cls := "DotRuns", name := "needDot", desc := "(II)V" } : Jvm.MethodName) ∈ TW := tw_t 834 (by decide +kernel) rfl
theorem tw836 : Jvm.Cond.instanceMethod ({ cls := "DotRuns", name := "needDot", desc := "(II)V" } : Jvm.MethodName) ∈ TW := tw_t 836 (by decide +kernel) rfl
theorem tw837 : Jvm.Cond.code ({ cls := "DotRuns", name := "needDot", desc := "(II)V" } : Jvm.MethodName) prog_1_method_41_code (3 : Nat) (Option.none : Option Jvm.ClassFile.FieldType) ∈ TW := tw_t 837 (by decide +kernel) rfl
theorem tw838 : Jvm.Cond.methodLink "DotRuns" (343 : Nat) ({ cls := "DotRuns$Page", name := "hasLine", desc := "(I)Z" } : Jvm.MethodName) ∈ TW := tw_t 838 (by decide +kernel) rfl
theorem tw839 : Jvm.Cond.classLink "DotRuns" (222 : Nat) "java/lang/IndexOutOfBoundsException" ∈ TW := tw_t 839 (by decide +kernel) rfl
theorem tw855 : Jvm.Cond.methodLink "DotRuns" (135 : Nat) ({ cls := "DotRuns", name := "colourAt", desc := "(JI)I" } : Jvm.MethodName) ∈ TW := tw_t 855 (by decide +kernel) rfl
theorem tw856 : Jvm.Cond.static ({ cls := "DotRuns", name := "colourAt", desc := "(JI)I" } : Jvm.MethodName) ∈ TW := tw_t 856 (by decide +kernel) rfl
theorem tw857 : Jvm.Cond.code ({ cls := "DotRuns", name := "colourAt", desc := "(JI)I" } : Jvm.MethodName) prog_1_method_58_code (3 : Nat) (Option.some Jvm.ClassFile.FieldType.int) ∈ TW := tw_t 857 (by decide +kernel) rfl
theorem tw865 : Jvm.Cond.methodLink "DotRuns" (139 : Nat) ({ cls := "DotRuns", name := "needLine", desc := "(I)V" } : Jvm.MethodName) ∈ TW := tw_t 865 (by decide +kernel) rfl
theorem tw867 : Jvm.Cond.instanceMethod ({ cls := "DotRuns", name := "needLine", desc := "(I)V" } : Jvm.MethodName) ∈ TW := tw_t 867 (by decide +kernel) rfl
theorem tw868 : Jvm.Cond.code ({ cls := "DotRuns", name := "needLine", desc := "(I)V" } : Jvm.MethodName) prog_1_method_40_code (2 : Nat) (Option.none : Option Jvm.ClassFile.FieldType) ∈ TW := tw_t 868 (by decide +kernel) rfl
theorem tw870 : Jvm.Cond.methodLink "DotRuns" (168 : Nat) ({ cls := "DotRuns$Code", name := "modesOfKind", desc := "(I)I" } : Jvm.MethodName) ∈ TW := tw_t 870 (by decide +kernel) rfl
theorem tw871 : Jvm.Cond.instanceMethod ({ cls := "DotRuns$Code", name := "modesOfKind", desc := "(I)I" } : Jvm.MethodName) ∈ TW := tw_t 871 (by decide +kernel) rfl
theorem tw872 : Jvm.Cond.selects "DotRuns$Code" ({ cls := "DotRuns$Code", name := "modesOfKind", desc := "(I)I" } : Jvm.MethodName) ({ cls := "DotRuns$Code", name := "modesOfKind", desc := "(I)I" } : Jvm.MethodName) ∈ TW := tw_t 872 (by decide +kernel) rfl
theorem tw873 : Jvm.Cond.code ({ cls := "DotRuns$Code", name := "modesOfKind", desc := "(I)I" } : Jvm.MethodName) prog_2_method_6_code (4 : Nat) (Option.some Jvm.ClassFile.FieldType.int) ∈ TW := tw_t 873 (by decide +kernel) rfl
theorem tw874 : Jvm.Cond.methodLink "DotRuns" (175 : Nat) ({ cls := "DotRuns", name := "latestMark", desc := "(I)I" } : Jvm.MethodName) ∈ TW := tw_t 874 (by decide +kernel) rfl
theorem tw876 : Jvm.Cond.instanceMethod ({ cls := "DotRuns", name := "latestMark", desc := "(I)I" } : Jvm.MethodName) ∈ TW := tw_t 876 (by decide +kernel) rfl
theorem tw877 : Jvm.Cond.code ({ cls := "DotRuns", name := "latestMark", desc := "(I)I" } : Jvm.MethodName) prog_1_method_52_code (3 : Nat) (Option.some Jvm.ClassFile.FieldType.int) ∈ TW := tw_t 877 (by decide +kernel) rfl
theorem tw885 : Jvm.Cond.methodLink "DotRuns" (178 : Nat) ({ cls := "DotRuns", name := "needPlace", desc := "(II)V" } : Jvm.MethodName) ∈ TW := tw_t 885 (by decide +kernel) rfl
theorem tw887 : Jvm.Cond.instanceMethod ({ cls := "DotRuns", name := "needPlace", desc := "(II)V" } : Jvm.MethodName) ∈ TW := tw_t 887 (by decide +kernel) rfl
theorem tw888 : Jvm.Cond.code ({ cls := "DotRuns", name := "needPlace", desc := "(II)V" } : Jvm.MethodName) prog_1_method_42_code (3 : Nat) (Option.none : Option Jvm.ClassFile.FieldType) ∈ TW := tw_t 888 (by decide +kernel) rfl
theorem tw890 : Jvm.Cond.methodLink "DotRuns" (181 : Nat) ({ cls := "DotRuns", name := "runAt", desc := "(JII)I" } : Jvm.MethodName) ∈ TW := tw_t 890 (by decide +kernel) rfl
theorem tw891 : Jvm.Cond.static ({ cls := "DotRuns", name := "runAt", desc := "(JII)I" } : Jvm.MethodName) ∈ TW := tw_t 891 (by decide +kernel) rfl
theorem tw892 : Jvm.Cond.code ({ cls := "DotRuns", name := "runAt", desc := "(JII)I" } : Jvm.MethodName) prog_1_method_63_code (8 : Nat) (Option.some Jvm.ClassFile.FieldType.int) ∈ TW := tw_t 892 (by decide +kernel) rfl
theorem tw893 : Jvm.Cond.methodLink "DotRuns" (189 : Nat) ({ cls := "DotRuns", name := "changeAt", desc := "(JI)I" } : Jvm.MethodName) ∈ TW := tw_t 893 (by decide +kernel) rfl
theorem tw894 : Jvm.Cond.static ({ cls := "DotRuns", name := "changeAt", desc := "(JI)I" } : Jvm.MethodName) ∈ TW := tw_t 894 (by decide +kernel) rfl
theorem tw895 : Jvm.Cond.code ({ cls := "DotRuns", name := "changeAt", desc := "(JI)I" } : Jvm.MethodName) prog_1_method_62_code (6 : Nat) (Option.some Jvm.ClassFile.FieldType.int) ∈ TW := tw_t 895 (by decide +kernel) rfl
theorem tw903 : Jvm.Cond.methodLink "DotRuns" (185 : Nat) ({ cls := "DotRuns$Code", name := "modeNumber", desc := "(II)I" } : Jvm.MethodName) ∈ TW := tw_t 903 (by decide +kernel) rfl
theorem tw904 : Jvm.Cond.instanceMethod ({ cls := "DotRuns$Code", name := "modeNumber", desc := "(II)I" } : Jvm.MethodName) ∈ TW := tw_t 904 (by decide +kernel) rfl
theorem tw905 : Jvm.Cond.selects "DotRuns$Code" ({ cls := "DotRuns$Code", name := "modeNumber", desc := "(II)I" } : Jvm.MethodName) ({ cls := "DotRuns$Code", name := "modeNumber", desc := "(II)I" } : Jvm.MethodName) ∈ TW := tw_t 905 (by decide +kernel) rfl
theorem tw906 : Jvm.Cond.code ({ cls := "DotRuns$Code", name := "modeNumber", desc := "(II)I" } : Jvm.MethodName) prog_2_method_7_code (3 : Nat) (Option.some Jvm.ClassFile.FieldType.int) ∈ TW := tw_t 906 (by decide +kernel) rfl
theorem tw921 : Jvm.Cond.methodLink "DotRuns" (192 : Nat) ({ cls := "DotRuns", name := "needColour", desc := "(I)V" } : Jvm.MethodName) ∈ TW := tw_t 921 (by decide +kernel) rfl
theorem tw922 : Jvm.Cond.static ({ cls := "DotRuns", name := "needColour", desc := "(I)V" } : Jvm.MethodName) ∈ TW := tw_t 922 (by decide +kernel) rfl
theorem tw923 : Jvm.Cond.code ({ cls := "DotRuns", name := "needColour", desc := "(I)V" } : Jvm.MethodName) prog_1_method_45_code (1 : Nat) (Option.none : Option Jvm.ClassFile.FieldType) ∈ TW := tw_t 923 (by decide +kernel) rfl
theorem tw925 : Jvm.Cond.methodLink "DotRuns" (195 : Nat) ({ cls := "DotRuns", name := "longestRun", desc := "(JI)I" } : Jvm.MethodName) ∈ TW := tw_t 925 (by decide +kernel) rfl
theorem tw927 : Jvm.Cond.instanceMethod ({ cls := "DotRuns", name := "longestRun", desc := "(JI)I" } : Jvm.MethodName) ∈ TW := tw_t 927 (by decide +kernel) rfl
theorem tw928 : Jvm.Cond.code ({ cls := "DotRuns", name := "longestRun", desc := "(JI)I" } : Jvm.MethodName) prog_1_method_54_code (7 : Nat) (Option.some Jvm.ClassFile.FieldType.int) ∈ TW := tw_t 928 (by decide +kernel) rfl
theorem tw929 : Jvm.Cond.methodLink "DotRuns" (198 : Nat) ({ cls := "java/lang/Math", name := "max", desc := "(II)I" } : Jvm.MethodName) ∈ TW := tw_t 929 (by decide +kernel) rfl
theorem tw930 : Jvm.Cond.static ({ cls := "java/lang/Math", name := "max", desc := "(II)I" } : Jvm.MethodName) ∈ TW := tw_t 930 (by decide +kernel) rfl
theorem tw931 : Jvm.Cond.code ({ cls := "java/lang/Math", name := "max", desc := "(II)I" } : Jvm.MethodName) prog_16_method_65_code (2 : Nat) (Option.some Jvm.ClassFile.FieldType.int) ∈ TW := tw_t 931 (by decide +kernel) rfl
theorem tw940 : Jvm.Cond.methodLink "DotRuns" (205 : Nat) ({ cls := "DotRuns", name := "runsJustOf", desc := "(JII)I" } : Jvm.MethodName) ∈ TW := tw_t 940 (by decide +kernel) rfl
theorem tw942 : Jvm.Cond.instanceMethod ({ cls := "DotRuns", name := "runsJustOf", desc := "(JII)I" } : Jvm.MethodName) ∈ TW := tw_t 942 (by decide +kernel) rfl
theorem tw943 : Jvm.Cond.code ({ cls := "DotRuns", name := "runsJustOf", desc := "(JII)I" } : Jvm.MethodName) prog_1_method_55_code (8 : Nat) (Option.some Jvm.ClassFile.FieldType.int) ∈ TW := tw_t 943 (by decide +kernel) rfl
theorem tw951 : Jvm.Cond.methodLink "DotRuns" (208 : Nat) ({ cls := "DotRuns$Code", name := "readUnder", desc := "(JI)J" } : Jvm.MethodName) ∈ TW := tw_t 951 (by decide +kernel) rfl
theorem tw959 : Jvm.Cond.methodLink "DotRuns" (213 : Nat) ({ cls := "DotRuns", name := "isSetting", desc := "(II)Z" } : Jvm.MethodName) ∈ TW := tw_t 959 (by decide +kernel) rfl
theorem tw960 : Jvm.Cond.static ({ cls := "DotRuns", name := "isSetting", desc := "(II)Z" } : Jvm.MethodName) ∈ TW := tw_t 960 (by decide +kernel) rfl
theorem tw961 : Jvm.Cond.code ({ cls := "DotRuns", name := "isSetting", desc := "(II)Z" } : Jvm.MethodName) prog_1_method_67_code (2 : Nat) (Option.some Jvm.ClassFile.FieldType.boolean) ∈ TW := tw_t 961 (by decide +kernel) rfl
theorem tw963 : Jvm.Cond.methodLink "DotRuns" (219 : Nat) ({ cls := "DotRuns$History", name := "keep", desc := "(LDotRuns$Page;)V" } : Jvm.MethodName) ∈ TW := tw_t 963 (by decide +kernel) rfl
theorem tw964 : Jvm.Cond.instanceMethod ({ cls := "DotRuns$History", name := "keep", desc := "(LDotRuns$Page;)V" } : Jvm.MethodName) ∈ TW := tw_t 964 (by decide +kernel) rfl
theorem tw965 : Jvm.Cond.selects "DotRuns$History" ({ cls := "DotRuns$History", name := "keep", desc := "(LDotRuns$Page;)V" } : Jvm.MethodName) ({ cls := "DotRuns$History", name := "keep", desc := "(LDotRuns$Page;)V" } : Jvm.MethodName) ∈ TW := tw_t 965 (by decide +kernel) rfl
theorem tw966 : Jvm.Cond.code ({ cls := "DotRuns$History", name := "keep", desc := "(LDotRuns$Page;)V" } : Jvm.MethodName) prog_3_method_2_code (2 : Nat) (Option.none : Option Jvm.ClassFile.FieldType) ∈ TW := tw_t 966 (by decide +kernel) rfl
theorem tw967 : Jvm.Cond.methodLink "DotRuns$History" (24 : Nat) ({ cls := "DotRuns$Page", name := "<init>", desc := "()V" } : Jvm.MethodName) ∈ TW := tw_t 967 (by decide +kernel) rfl
theorem tw968 : Jvm.Cond.methodLink "DotRuns$History" (29 : Nat) ({ cls := "java/lang/Math", name := "min", desc := "(II)I" } : Jvm.MethodName) ∈ TW := tw_t 968 (by decide +kernel) rfl
theorem tw985 : Jvm.Cond.methodLink "DotRuns" (229 : Nat) ({ cls := "DotRuns", name := "needSpan", desc := "(II)V" } : Jvm.MethodName) ∈ TW := tw_t 985 (by decide +kernel) rfl
theorem tw987 : Jvm.Cond.instanceMethod ({ cls := "DotRuns", name := "needSpan", desc := "(II)V" } : Jvm.MethodName) ∈ TW := tw_t 987 (by decide +kernel) rfl
theorem tw988 : Jvm.Cond.code ({ cls := "DotRuns", name := "needSpan", desc := "(II)V" } : Jvm.MethodName) prog_1_method_43_code (3 : Nat) (Option.none : Option Jvm.ClassFile.FieldType) ∈ TW := tw_t 988 (by decide +kernel) rfl
theorem tw990 : Jvm.Cond.methodLink "DotRuns" (232 : Nat) ({ cls := "DotRuns", name := "needRoom", desc := "()V" } : Jvm.MethodName) ∈ TW := tw_t 990 (by decide +kernel) rfl
theorem tw992 : Jvm.Cond.instanceMethod ({ cls := "DotRuns", name := "needRoom", desc := "()V" } : Jvm.MethodName) ∈ TW := tw_t 992 (by decide +kernel) rfl
theorem tw993 : Jvm.Cond.code ({ cls := "DotRuns", name := "needRoom", desc := "()V" } : Jvm.MethodName) prog_1_method_44_code (1 : Nat) (Option.none : Option Jvm.ClassFile.FieldType) ∈ TW := tw_t 993 (by decide +kernel) rfl
theorem tw995 : Jvm.Cond.methodLink "DotRuns" (235 : Nat) ({ cls := "DotRuns", name := "span", desc := "(II)J" } : Jvm.MethodName) ∈ TW := tw_t 995 (by decide +kernel) rfl
theorem tw996 : Jvm.Cond.methodLink "DotRuns" (239 : Nat) ({ cls := "DotRuns$Page", name := "insertRow", desc := "(IJ)V" } : Jvm.MethodName) ∈ TW := tw_t 996 (by decide +kernel) rfl
theorem tw1004 : Jvm.Cond.methodLink "DotRuns" (243 : Nat) ({ cls := "DotRuns$Page", name := "putRow", desc := "(IJ)V" } : Jvm.MethodName) ∈ TW := tw_t 1004 (by decide +kernel) rfl
theorem tw1028 : Jvm.Cond.methodLink "DotRuns" (250 : Nat) ({ cls := "DotRuns$Page", name := "deleteRow", desc := "(I)V" } : Jvm.MethodName) ∈ TW := tw_t 1028 (by decide +kernel) rfl
theorem tw1029 : Jvm.Cond.instanceMethod ({ cls := "DotRuns$Page", name := "deleteRow", desc := "(I)V" } : Jvm.MethodName) ∈ TW := tw_t 1029 (by decide +kernel) rfl
theorem tw1030 : Jvm.Cond.selects "DotRuns$Page" ({ cls := "DotRuns$Page", name := "deleteRow", desc := "(I)V" } : Jvm.MethodName) ({ cls := "DotRuns$Page", name := "deleteRow", desc := "(I)V" } : Jvm.MethodName) ∈ TW := tw_t 1030 (by decide +kernel) rfl
theorem tw1031 : Jvm.Cond.code ({ cls := "DotRuns$Page", name := "deleteRow", desc := "(I)V" } : Jvm.MethodName) prog_4_method_8_code (3 : Nat) (Option.none : Option Jvm.ClassFile.FieldType) ∈ TW := tw_t 1031 (by decide +kernel) rfl
theorem tw1053 : Jvm.Cond.methodLink "DotRuns" (276 : Nat) ({ cls := "DotRuns$Sending", name := "linesOfState", desc := "(II)I" } : Jvm.MethodName) ∈ TW := tw_t 1053 (by decide +kernel) rfl
theorem tw1054 : Jvm.Cond.instanceMethod ({ cls := "DotRuns$Sending", name := "linesOfState", desc := "(II)I" } : Jvm.MethodName) ∈ TW := tw_t 1054 (by decide +kernel) rfl
theorem tw1055 : Jvm.Cond.selects "DotRuns$Sending" ({ cls := "DotRuns$Sending", name := "linesOfState", desc := "(II)I" } : Jvm.MethodName) ({ cls := "DotRuns$Sending", name := "linesOfState", desc := "(II)I" } : Jvm.MethodName) ∈ TW := tw_t 1055 (by decide +kernel) rfl
theorem tw1056 : Jvm.Cond.code ({ cls := "DotRuns$Sending", name := "linesOfState", desc := "(II)I" } : Jvm.MethodName) prog_7_method_11_code (5 : Nat) (Option.some Jvm.ClassFile.FieldType.int) ∈ TW := tw_t 1056 (by decide +kernel) rfl
theorem tw1064 : Jvm.Cond.methodLink "DotRuns" (288 : Nat) ({ cls := "DotRuns$Sending", name := "wrongDotsOf", desc := "(ILDotRuns$Page;)I" } : Jvm.MethodName) ∈ TW := tw_t 1064 (by decide +kernel) rfl
theorem tw1079 : Jvm.Cond.methodLink "DotRuns" (302 : Nat) ({ cls := "DotRuns$Sending", name := "wrongLines", desc := "(LDotRuns$Page;)I" } : Jvm.MethodName) ∈ TW := tw_t 1079 (by decide +kernel) rfl
theorem tw1080 : Jvm.Cond.instanceMethod ({ cls := "DotRuns$Sending", name := "wrongLines", desc := "(LDotRuns$Page;)I" } : Jvm.MethodName) ∈ TW := tw_t 1080 (by decide +kernel) rfl
theorem tw1081 : Jvm.Cond.selects "DotRuns$Sending" ({ cls := "DotRuns$Sending", name := "wrongLines", desc := "(LDotRuns$Page;)I" } : Jvm.MethodName) ({ cls := "DotRuns$Sending", name := "wrongLines", desc := "(LDotRuns$Page;)I" } : Jvm.MethodName) ∈ TW := tw_t 1081 (by decide +kernel) rfl
theorem tw1082 : Jvm.Cond.code ({ cls := "DotRuns$Sending", name := "wrongLines", desc := "(LDotRuns$Page;)I" } : Jvm.MethodName) prog_7_method_14_code (4 : Nat) (Option.some Jvm.ClassFile.FieldType.int) ∈ TW := tw_t 1082 (by decide +kernel) rfl
theorem tw1083 : Jvm.Cond.methodLink "DotRuns" (305 : Nat) ({ cls := "DotRuns$Sending", name := "lastWrongLine", desc := "(LDotRuns$Page;)I" } : Jvm.MethodName) ∈ TW := tw_t 1083 (by decide +kernel) rfl
theorem tw1084 : Jvm.Cond.instanceMethod ({ cls := "DotRuns$Sending", name := "lastWrongLine", desc := "(LDotRuns$Page;)I" } : Jvm.MethodName) ∈ TW := tw_t 1084 (by decide +kernel) rfl
theorem tw1085 : Jvm.Cond.selects "DotRuns$Sending" ({ cls := "DotRuns$Sending", name := "lastWrongLine", desc := "(LDotRuns$Page;)I" } : Jvm.MethodName) ({ cls := "DotRuns$Sending", name := "lastWrongLine", desc := "(LDotRuns$Page;)I" } : Jvm.MethodName) ∈ TW := tw_t 1085 (by decide +kernel) rfl
theorem tw1086 : Jvm.Cond.code ({ cls := "DotRuns$Sending", name := "lastWrongLine", desc := "(LDotRuns$Page;)I" } : Jvm.MethodName) prog_7_method_15_code (3 : Nat) (Option.some Jvm.ClassFile.FieldType.int) ∈ TW := tw_t 1086 (by decide +kernel) rfl
theorem tw1094 : Jvm.Cond.methodLink "DotRuns" (320 : Nat) ({ cls := "DotRuns", name := "writeAlone", desc := "(J)V" } : Jvm.MethodName) ∈ TW := tw_t 1094 (by decide +kernel) rfl
theorem tw1096 : Jvm.Cond.instanceMethod ({ cls := "DotRuns", name := "writeAlone", desc := "(J)V" } : Jvm.MethodName) ∈ TW := tw_t 1096 (by decide +kernel) rfl
theorem tw1097 : Jvm.Cond.code ({ cls := "DotRuns", name := "writeAlone", desc := "(J)V" } : Jvm.MethodName) prog_1_method_68_code (5 : Nat) (Option.none : Option Jvm.ClassFile.FieldType) ∈ TW := tw_t 1097 (by decide +kernel) rfl
theorem tw1099 : Jvm.Cond.methodLink "DotRuns" (378 : Nat) ({ cls := "DotRuns", name := "putWord", desc := "(Ljava/lang/String;)V" } : Jvm.MethodName) ∈ TW := tw_t 1099 (by decide +kernel) rfl
theorem tw1101 : Jvm.Cond.instanceMethod ({ cls := "DotRuns", name := "putWord", desc := "(Ljava/lang/String;)V" } : Jvm.MethodName) ∈ TW := tw_t 1101 (by decide +kernel) rfl
theorem tw1102 : Jvm.Cond.code ({ cls := "DotRuns", name := "putWord", desc := "(Ljava/lang/String;)V" } : Jvm.MethodName) prog_1_method_71_code (3 : Nat) (Option.none : Option Jvm.ClassFile.FieldType) ∈ TW := tw_t 1102 (by decide +kernel) rfl
theorem tw1103 : Jvm.Cond.methodLink "DotRuns" (386 : Nat) ({ cls := "java/lang/String", name := "length", desc := "()I" } : Jvm.MethodName) ∈ TW := tw_t 1103 (by decide +kernel) rfl
theorem tw1104 : Jvm.Cond.methodLink "DotRuns" (390 : Nat) ({ cls := "java/lang/String", name := "charAt", desc := "(I)C" } : Jvm.MethodName) ∈ TW := tw_t 1104 (by decide +kernel) rfl
theorem tw1105 : Jvm.Cond.methodLink "DotRuns" (327 : Nat) ({ cls := "DotRuns", name := "putSign", desc := "(C)V" } : Jvm.MethodName) ∈ TW := tw_t 1105 (by decide +kernel) rfl
theorem tw1107 : Jvm.Cond.instanceMethod ({ cls := "DotRuns", name := "putSign", desc := "(C)V" } : Jvm.MethodName) ∈ TW := tw_t 1107 (by decide +kernel) rfl
theorem tw1108 : Jvm.Cond.code ({ cls := "DotRuns", name := "putSign", desc := "(C)V" } : Jvm.MethodName) prog_1_method_73_code (2 : Nat) (Option.none : Option Jvm.ClassFile.FieldType) ∈ TW := tw_t 1108 (by decide +kernel) rfl
theorem tw1109 : Jvm.Cond.methodLink "DotRuns" (331 : Nat) ({ cls := "DotRuns", name := "putNumber", desc := "(I)V" } : Jvm.MethodName) ∈ TW := tw_t 1109 (by decide +kernel) rfl
theorem tw1111 : Jvm.Cond.instanceMethod ({ cls := "DotRuns", name := "putNumber", desc := "(I)V" } : Jvm.MethodName) ∈ TW := tw_t 1111 (by decide +kernel) rfl
theorem tw1112 : Jvm.Cond.code ({ cls := "DotRuns", name := "putNumber", desc := "(I)V" } : Jvm.MethodName) prog_1_method_72_code (3 : Nat) (Option.none : Option Jvm.ClassFile.FieldType) ∈ TW := tw_t 1112 (by decide +kernel) rfl
theorem tw1113 : Jvm.Cond.methodLink "DotRuns" (394 : Nat) ({ cls := "java/lang/Math", name := "abs", desc := "(I)I" } : Jvm.MethodName) ∈ TW := tw_t 1113 (by decide +kernel) rfl
theorem tw1114 : Jvm.Cond.methodLink "DotRuns" (324 : Nat) ({ cls := "DotRuns", name := "writeAbove", desc := "()V" } : Jvm.MethodName) ∈ TW := tw_t 1114 (by decide +kernel) rfl
theorem tw1116 : Jvm.Cond.instanceMethod ({ cls := "DotRuns", name := "writeAbove", desc := "()V" } : Jvm.MethodName) ∈ TW := tw_t 1116 (by decide +kernel) rfl
theorem tw1117 : Jvm.Cond.code ({ cls := "DotRuns", name := "writeAbove", desc := "()V" } : Jvm.MethodName) prog_1_method_69_code (2 : Nat) (Option.none : Option Jvm.ClassFile.FieldType) ∈ TW := tw_t 1117 (by decide +kernel) rfl
theorem tw1119 : Jvm.Cond.methodLink "DotRuns" (383 : Nat) ({ cls := "DotRuns", name := "writeMode", desc := "(I)V" } : Jvm.MethodName) ∈ TW := tw_t 1119 (by decide +kernel) rfl
theorem tw1121 : Jvm.Cond.instanceMethod ({ cls := "DotRuns", name := "writeMode", desc := "(I)V" } : Jvm.MethodName) ∈ TW := tw_t 1121 (by decide +kernel) rfl
theorem tw1122 : Jvm.Cond.code ({ cls := "DotRuns", name := "writeMode", desc := "(I)V" } : Jvm.MethodName) prog_1_method_70_code (3 : Nat) (Option.none : Option Jvm.ClassFile.FieldType) ∈ TW := tw_t 1122 (by decide +kernel) rfl
theorem tw1137 : Jvm.Cond.methodLink "DotRuns" (338 : Nat) ({ cls := "DotRuns", name := "needSlot", desc := "(I)V" } : Jvm.MethodName) ∈ TW := tw_t 1137 (by decide +kernel) rfl
theorem tw1138 : Jvm.Cond.static ({ cls := "DotRuns", name := "needSlot", desc := "(I)V" } : Jvm.MethodName) ∈ TW := tw_t 1138 (by decide +kernel) rfl
theorem tw1139 : Jvm.Cond.code ({ cls := "DotRuns", name := "needSlot", desc := "(I)V" } : Jvm.MethodName) prog_1_method_46_code (1 : Nat) (Option.none : Option Jvm.ClassFile.FieldType) ∈ TW := tw_t 1139 (by decide +kernel) rfl
theorem tw1154 : Jvm.Cond.methodLink "DotRunsModel" (1 : Nat) ({ cls := "java/lang/Object", name := "<init>", desc := "()V" } : Jvm.MethodName) ∈ TW := tw_t 1154 (by decide +kernel) rfl
theorem tw1155 : Jvm.Cond.methodLink "DotRunsModel" (82 : Nat) ({ cls := "DotRunsModel", name := "begins", desc := "(I)V" } : Jvm.MethodName) ∈ TW := tw_t 1155 (by decide +kernel) rfl
theorem tw1157 : Jvm.Cond.instanceMethod ({ cls := "DotRunsModel", name := "begins", desc := "(I)V" } : Jvm.MethodName) ∈ TW := tw_t 1157 (by decide +kernel) rfl
theorem tw1158 : Jvm.Cond.code ({ cls := "DotRunsModel", name := "begins", desc := "(I)V" } : Jvm.MethodName) prog_10_method_5_code (3 : Nat) (Option.none : Option Jvm.ClassFile.FieldType) ∈ TW := tw_t 1158 (by decide +kernel) rfl
theorem tw1159 : Jvm.Cond.methodLink "DotRunsModel" (86 : Nat) ({ cls := "DotRunsModel", name := "copies", desc := "([II[II)V" } : Jvm.MethodName) ∈ TW := tw_t 1159 (by decide +kernel) rfl
theorem tw1160 : Jvm.Cond.static ({ cls := "DotRunsModel", name := "copies", desc := "([II[II)V" } : Jvm.MethodName) ∈ TW := tw_t 1160 (by decide +kernel) rfl
theorem tw1161 : Jvm.Cond.code ({ cls := "DotRunsModel", name := "copies", desc := "([II[II)V" } : Jvm.MethodName) prog_10_method_4_code (5 : Nat) (Option.none : Option Jvm.ClassFile.FieldType) ∈ TW := tw_t 1161 (by decide +kernel) rfl
theorem tw1162 : Jvm.Cond.fieldLink "DotRunsModel" (90 : Nat) "DotRunsModel" "thrown" "I" ∈ TW := tw_t 1162 (by decide +kernel) rfl
theorem tw1163 : Jvm.Cond.fieldLink "DotRunsModel" (7 : Nat) "DotRunsModel" "now" "[I" ∈ TW := tw_t 1163 (by decide +kernel) rfl
theorem tw1164 : Jvm.Cond.fieldLink "DotRunsModel" (13 : Nat) "DotRunsModel" "fresh" "[I" ∈ TW := tw_t 1164 (by decide +kernel) rfl
theorem tw1165 : Jvm.Cond.fieldLink "DotRunsModel" (16 : Nat) "DotRunsModel" "undos" "[I" ∈ TW := tw_t 1165 (by decide +kernel) rfl
theorem tw1166 : Jvm.Cond.fieldLink "DotRunsModel" (191 : Nat) "DotRunsModel" "undoMany" "I" ∈ TW := tw_t 1166 (by decide +kernel) rfl
theorem tw1167 : Jvm.Cond.fieldLink "DotRunsModel" (19 : Nat) "DotRunsModel" "saved" "[I" ∈ TW := tw_t 1167 (by decide +kernel) rfl
theorem tw1168 : Jvm.Cond.fieldLink "DotRunsModel" (22 : Nat) "DotRunsModel" "isSaved" "[Z" ∈ TW := tw_t 1168 (by decide +kernel) rfl
theorem tw1169 : Jvm.Cond.fieldLink "DotRunsModel" (26 : Nat) "DotRunsModel" "upper" "[I" ∈ TW := tw_t 1169 (by decide +kernel) rfl
theorem tw1170 : Jvm.Cond.fieldLink "DotRunsModel" (29 : Nat) "DotRunsModel" "lower" "[I" ∈ TW := tw_t 1170 (by decide +kernel) rfl
theorem tw1171 : Jvm.Cond.fieldLink "DotRunsModel" (93 : Nat) "DotRunsModel" "wide" "I" ∈ TW := tw_t 1171 (by decide +kernel) rfl
theorem tw1172 : Jvm.Cond.fieldLink "DotRunsModel" (32 : Nat) "DotRunsModel" "kinds" "[I" ∈ TW := tw_t 1172 (by decide +kernel) rfl
theorem tw1173 : Jvm.Cond.fieldLink "DotRunsModel" (35 : Nat) "DotRunsModel" "ones" "[I" ∈ TW := tw_t 1173 (by decide +kernel) rfl
theorem tw1174 : Jvm.Cond.fieldLink "DotRunsModel" (38 : Nat) "DotRunsModel" "twos" "[I" ∈ TW := tw_t 1174 (by decide +kernel) rfl
theorem tw1175 : Jvm.Cond.fieldLink "DotRunsModel" (41 : Nat) "DotRunsModel" "places" "[I" ∈ TW := tw_t 1175 (by decide +kernel) rfl
theorem tw1176 : Jvm.Cond.fieldLink "DotRunsModel" (111 : Nat) "DotRunsModel" "modes" "I" ∈ TW := tw_t 1176 (by decide +kernel) rfl
theorem tw1177 : Jvm.Cond.fieldLink "DotRunsModel" (44 : Nat) "DotRunsModel" "result" "[I" ∈ TW := tw_t 1177 (by decide +kernel) rfl
theorem tw1178 : Jvm.Cond.fieldLink "DotRunsModel" (135 : Nat) "DotRunsModel" "here" "I" ∈ TW := tw_t 1178 (by decide +kernel) rfl
theorem tw1179 : Jvm.Cond.fieldLink "DotRunsModel" (138 : Nat) "DotRunsModel" "colour" "I" ∈ TW := tw_t 1179 (by decide +kernel) rfl
theorem tw1180 : Jvm.Cond.fieldLink "DotRunsModel" (47 : Nat) "DotRunsModel" "runs" "[I" ∈ TW := tw_t 1180 (by decide +kernel) rfl
theorem tw1181 : Jvm.Cond.fieldLink "DotRunsModel" (151 : Nat) "DotRunsModel" "runMany" "I" ∈ TW := tw_t 1181 (by decide +kernel) rfl
theorem tw1182 : Jvm.Cond.fieldLink "DotRunsModel" (50 : Nat) "DotRunsModel" "got" "[I" ∈ TW := tw_t 1182 (by decide +kernel) rfl
theorem tw1183 : Jvm.Cond.fieldLink "DotRunsModel" (53 : Nat) "DotRunsModel" "states" "[I" ∈ TW := tw_t 1183 (by decide +kernel) rfl
theorem tw1184 : Jvm.Cond.fieldLink "DotRunsModel" (56 : Nat) "DotRunsModel" "times" "[I" ∈ TW := tw_t 1184 (by decide +kernel) rfl
theorem tw1185 : Jvm.Cond.fieldLink "DotRunsModel" (59 : Nat) "DotRunsModel" "bits" "[I" ∈ TW := tw_t 1185 (by decide +kernel) rfl
theorem tw1186 : Jvm.Cond.fieldLink "DotRunsModel" (62 : Nat) "DotRunsModel" "backs" "[I" ∈ TW := tw_t 1186 (by decide +kernel) rfl
theorem tw1187 : Jvm.Cond.fieldLink "DotRunsModel" (65 : Nat) "DotRunsModel" "losses" "[I" ∈ TW := tw_t 1187 (by decide +kernel) rfl
theorem tw1188 : Jvm.Cond.fieldLink "DotRunsModel" (244 : Nat) "DotRunsModel" "allBits" "I" ∈ TW := tw_t 1188 (by decide +kernel) rfl
theorem tw1189 : Jvm.Cond.fieldLink "DotRunsModel" (247 : Nat) "DotRunsModel" "sendings" "I" ∈ TW := tw_t 1189 (by decide +kernel) rfl
theorem tw1190 : Jvm.Cond.fieldLink "DotRunsModel" (262 : Nat) "DotRunsModel" "stepped" "I" ∈ TW := tw_t 1190 (by decide +kernel) rfl
theorem tw1191 : Jvm.Cond.fieldLink "DotRunsModel" (250 : Nat) "DotRunsModel" "lostMany" "I" ∈ TW := tw_t 1191 (by decide +kernel) rfl
theorem tw1192 : Jvm.Cond.fieldLink "DotRunsModel" (256 : Nat) "DotRunsModel" "unreadMany" "I" ∈ TW := tw_t 1192 (by decide +kernel) rfl
theorem tw1193 : Jvm.Cond.fieldLink "DotRunsModel" (68 : Nat) "DotRunsModel" "text" "[B" ∈ TW := tw_t 1193 (by decide +kernel) rfl
theorem tw1194 : Jvm.Cond.fieldLink "DotRunsModel" (292 : Nat) "DotRunsModel" "length" "I" ∈ TW := tw_t 1194 (by decide +kernel) rfl
theorem tw1195 : Jvm.Cond.fieldLink "DotRunsModel" (295 : Nat) "DotRunsModel" "at" "I" ∈ TW := tw_t 1195 (by decide +kernel) rfl
theorem tw1196 : Jvm.Cond.fieldLink "DotRunsModel" (301 : Nat) "DotRunsModel" "start" "I" ∈ TW := tw_t 1196 (by decide +kernel) rfl
theorem tw1197 : Jvm.Cond.fieldLink "DotRunsModel" (307 : Nat) "DotRunsModel" "token" "I" ∈ TW := tw_t 1197 (by decide +kernel) rfl
theorem tw1198 : Jvm.Cond.fieldLink "DotRunsModel" (310 : Nat) "DotRunsModel" "number" "I" ∈ TW := tw_t 1198 (by decide +kernel) rfl
theorem tw1199 : Jvm.Cond.fieldLink "DotRunsModel" (313 : Nat) "DotRunsModel" "error" "I" ∈ TW := tw_t 1199 (by decide +kernel) rfl
theorem tw1200 : Jvm.Cond.fieldLink "DotRunsModel" (72 : Nat) "DotRunsModel" "errorAt" "I" ∈ TW := tw_t 1200 (by decide +kernel) rfl
theorem tw1201 : Jvm.Cond.fieldLink "DotRunsModel" (76 : Nat) "DotRunsModel" "words" "[B" ∈ TW := tw_t 1201 (by decide +kernel) rfl
theorem tw1202 : Jvm.Cond.fieldLink "DotRunsModel" (79 : Nat) "DotRunsModel" "out" "[B" ∈ TW := tw_t 1202 (by decide +kernel) rfl
theorem tw1203 : Jvm.Cond.fieldLink "DotRunsModel" (365 : Nat) "DotRunsModel" "outLong" "I" ∈ TW := tw_t 1203 (by decide +kernel) rfl
theorem tw1289 : Jvm.Cond.arrayClass Jvm.ClassFile.FieldType.boolean ∈ TW := tw_t 1289 (by decide +kernel) rfl
theorem tw1298 : Jvm.Cond.methodLink "DotRunsModel" (124 : Nat) ({ cls := "DotRunsModel", name := "in", desc := "(III)Z" } : Jvm.MethodName) ∈ TW := tw_t 1298 (by decide +kernel) rfl
theorem tw1299 : Jvm.Cond.static ({ cls := "DotRunsModel", name := "in", desc := "(III)Z" } : Jvm.MethodName) ∈ TW := tw_t 1299 (by decide +kernel) rfl
theorem tw1300 : Jvm.Cond.code ({ cls := "DotRunsModel", name := "in", desc := "(III)Z" } : Jvm.MethodName) prog_10_method_3_code (3 : Nat) (Option.some Jvm.ClassFile.FieldType.boolean) ∈ TW := tw_t 1300 (by decide +kernel) rfl
theorem tw1301 : Jvm.Cond.methodLink "DotRunsModel" (188 : Nat) ({ cls := "DotRunsModel", name := "sumOf", desc := "(I)I" } : Jvm.MethodName) ∈ TW := tw_t 1301 (by decide +kernel) rfl
theorem tw1303 : Jvm.Cond.instanceMethod ({ cls := "DotRunsModel", name := "sumOf", desc := "(I)I" } : Jvm.MethodName) ∈ TW := tw_t 1303 (by decide +kernel) rfl
theorem tw1304 : Jvm.Cond.code ({ cls := "DotRunsModel", name := "sumOf", desc := "(I)I" } : Jvm.MethodName) prog_10_method_32_code (4 : Nat) (Option.some Jvm.ClassFile.FieldType.int) ∈ TW := tw_t 1304 (by decide +kernel) rfl
theorem tw1305 : Jvm.Cond.methodLink "DotRunsModel" (179 : Nat) ({ cls := "DotRunsModel", name := "blacks", desc := "(I)I" } : Jvm.MethodName) ∈ TW := tw_t 1305 (by decide +kernel) rfl
theorem tw1307 : Jvm.Cond.instanceMethod ({ cls := "DotRunsModel", name := "blacks", desc := "(I)I" } : Jvm.MethodName) ∈ TW := tw_t 1307 (by decide +kernel) rfl
theorem tw1308 : Jvm.Cond.code ({ cls := "DotRunsModel", name := "blacks", desc := "(I)I" } : Jvm.MethodName) prog_10_method_28_code (4 : Nat) (Option.some Jvm.ClassFile.FieldType.int) ∈ TW := tw_t 1308 (by decide +kernel) rfl
theorem tw1309 : Jvm.Cond.methodLink "DotRunsModel" (96 : Nat) ({ cls := "DotRunsModel", name := "dotAt", desc := "(II)I" } : Jvm.MethodName) ∈ TW := tw_t 1309 (by decide +kernel) rfl
theorem tw1310 : Jvm.Cond.static ({ cls := "DotRunsModel", name := "dotAt", desc := "(II)I" } : Jvm.MethodName) ∈ TW := tw_t 1310 (by decide +kernel) rfl
theorem tw1311 : Jvm.Cond.code ({ cls := "DotRunsModel", name := "dotAt", desc := "(II)I" } : Jvm.MethodName) prog_10_method_6_code (2 : Nat) (Option.some Jvm.ClassFile.FieldType.int) ∈ TW := tw_t 1311 (by decide +kernel) rfl
theorem tw1312 : Jvm.Cond.methodLink "DotRunsModel" (182 : Nat) ({ cls := "DotRunsModel", name := "changes", desc := "(I)I" } : Jvm.MethodName) ∈ TW := tw_t 1312 (by decide +kernel) rfl
theorem tw1314 : Jvm.Cond.instanceMethod ({ cls := "DotRunsModel", name := "changes", desc := "(I)I" } : Jvm.MethodName) ∈ TW := tw_t 1314 (by decide +kernel) rfl
theorem tw1315 : Jvm.Cond.code ({ cls := "DotRunsModel", name := "changes", desc := "(I)I" } : Jvm.MethodName) prog_10_method_30_code (4 : Nat) (Option.some Jvm.ClassFile.FieldType.int) ∈ TW := tw_t 1315 (by decide +kernel) rfl
theorem tw1316 : Jvm.Cond.methodLink "DotRunsModel" (176 : Nat) ({ cls := "DotRunsModel", name := "ahead", desc := "(II)I" } : Jvm.MethodName) ∈ TW := tw_t 1316 (by decide +kernel) rfl
theorem tw1318 : Jvm.Cond.instanceMethod ({ cls := "DotRunsModel", name := "ahead", desc := "(II)I" } : Jvm.MethodName) ∈ TW := tw_t 1318 (by decide +kernel) rfl
theorem tw1319 : Jvm.Cond.code ({ cls := "DotRunsModel", name := "ahead", desc := "(II)I" } : Jvm.MethodName) prog_10_method_29_code (3 : Nat) (Option.some Jvm.ClassFile.FieldType.int) ∈ TW := tw_t 1319 (by decide +kernel) rfl
theorem tw1320 : Jvm.Cond.methodLink "DotRunsModel" (173 : Nat) ({ cls := "DotRunsModel", name := "isMark", desc := "(I)Z" } : Jvm.MethodName) ∈ TW := tw_t 1320 (by decide +kernel) rfl
theorem tw1322 : Jvm.Cond.instanceMethod ({ cls := "DotRunsModel", name := "isMark", desc := "(I)Z" } : Jvm.MethodName) ∈ TW := tw_t 1322 (by decide +kernel) rfl
theorem tw1323 : Jvm.Cond.code ({ cls := "DotRunsModel", name := "isMark", desc := "(I)Z" } : Jvm.MethodName) prog_10_method_25_code (2 : Nat) (Option.some Jvm.ClassFile.FieldType.boolean) ∈ TW := tw_t 1323 (by decide +kernel) rfl
theorem tw1324 : Jvm.Cond.methodLink "DotRunsModel" (163 : Nat) ({ cls := "DotRunsModel", name := "codesLine", desc := "(I)V" } : Jvm.MethodName) ∈ TW := tw_t 1324 (by decide +kernel) rfl
theorem tw1326 : Jvm.Cond.instanceMethod ({ cls := "DotRunsModel", name := "codesLine", desc := "(I)V" } : Jvm.MethodName) ∈ TW := tw_t 1326 (by decide +kernel) rfl
theorem tw1327 : Jvm.Cond.code ({ cls := "DotRunsModel", name := "codesLine", desc := "(I)V" } : Jvm.MethodName) prog_10_method_24_code (2 : Nat) (Option.none : Option Jvm.ClassFile.FieldType) ∈ TW := tw_t 1327 (by decide +kernel) rfl
theorem tw1328 : Jvm.Cond.methodLink "DotRunsModel" (154 : Nat) ({ cls := "DotRunsModel", name := "laysLine", desc := "(I)V" } : Jvm.MethodName) ∈ TW := tw_t 1328 (by decide +kernel) rfl
theorem tw1330 : Jvm.Cond.instanceMethod ({ cls := "DotRunsModel", name := "laysLine", desc := "(I)V" } : Jvm.MethodName) ∈ TW := tw_t 1330 (by decide +kernel) rfl
theorem tw1331 : Jvm.Cond.code ({ cls := "DotRunsModel", name := "laysLine", desc := "(I)V" } : Jvm.MethodName) prog_10_method_9_code (2 : Nat) (Option.none : Option Jvm.ClassFile.FieldType) ∈ TW := tw_t 1331 (by decide +kernel) rfl
theorem tw1332 : Jvm.Cond.methodLink "DotRunsModel" (100 : Nat) ({ cls := "DotRunsModel", name := "laysUpper", desc := "([II)V" } : Jvm.MethodName) ∈ TW := tw_t 1332 (by decide +kernel) rfl
theorem tw1334 : Jvm.Cond.instanceMethod ({ cls := "DotRunsModel", name := "laysUpper", desc := "([II)V" } : Jvm.MethodName) ∈ TW := tw_t 1334 (by decide +kernel) rfl
theorem tw1335 : Jvm.Cond.code ({ cls := "DotRunsModel", name := "laysUpper", desc := "([II)V" } : Jvm.MethodName) prog_10_method_7_code (4 : Nat) (Option.none : Option Jvm.ClassFile.FieldType) ∈ TW := tw_t 1335 (by decide +kernel) rfl
theorem tw1336 : Jvm.Cond.methodLink "DotRunsModel" (104 : Nat) ({ cls := "DotRunsModel", name := "laysLower", desc := "([II)V" } : Jvm.MethodName) ∈ TW := tw_t 1336 (by decide +kernel) rfl
theorem tw1338 : Jvm.Cond.instanceMethod ({ cls := "DotRunsModel", name := "laysLower", desc := "([II)V" } : Jvm.MethodName) ∈ TW := tw_t 1338 (by decide +kernel) rfl
theorem tw1339 : Jvm.Cond.code ({ cls := "DotRunsModel", name := "laysLower", desc := "([II)V" } : Jvm.MethodName) prog_10_method_8_code (4 : Nat) (Option.none : Option Jvm.ClassFile.FieldType) ∈ TW := tw_t 1339 (by decide +kernel) rfl
theorem tw1340 : Jvm.Cond.methodLink "DotRunsModel" (157 : Nat) ({ cls := "DotRunsModel", name := "codes", desc := "()V" } : Jvm.MethodName) ∈ TW := tw_t 1340 (by decide +kernel) rfl
theorem tw1342 : Jvm.Cond.instanceMethod ({ cls := "DotRunsModel", name := "codes", desc := "()V" } : Jvm.MethodName) ∈ TW := tw_t 1342 (by decide +kernel) rfl
theorem tw1343 : Jvm.Cond.code ({ cls := "DotRunsModel", name := "codes", desc := "()V" } : Jvm.MethodName) prog_10_method_15_code (7 : Nat) (Option.none : Option Jvm.ClassFile.FieldType) ∈ TW := tw_t 1343 (by decide +kernel) rfl
theorem tw1344 : Jvm.Cond.methodLink "DotRunsModel" (114 : Nat) ({ cls := "DotRunsModel", name := "dotBehind", desc := "(II)I" } : Jvm.MethodName) ∈ TW := tw_t 1344 (by decide +kernel) rfl
theorem tw1346 : Jvm.Cond.instanceMethod ({ cls := "DotRunsModel", name := "dotBehind", desc := "(II)I" } : Jvm.MethodName) ∈ TW := tw_t 1346 (by decide +kernel) rfl
theorem tw1347 : Jvm.Cond.code ({ cls := "DotRunsModel", name := "dotBehind", desc := "(II)I" } : Jvm.MethodName) prog_10_method_12_code (4 : Nat) (Option.some Jvm.ClassFile.FieldType.int) ∈ TW := tw_t 1347 (by decide +kernel) rfl
theorem tw1348 : Jvm.Cond.methodLink "DotRunsModel" (117 : Nat) ({ cls := "DotRunsModel", name := "changeBehind", desc := "(II)I" } : Jvm.MethodName) ∈ TW := tw_t 1348 (by decide +kernel) rfl
theorem tw1350 : Jvm.Cond.instanceMethod ({ cls := "DotRunsModel", name := "changeBehind", desc := "(II)I" } : Jvm.MethodName) ∈ TW := tw_t 1350 (by decide +kernel) rfl
theorem tw1351 : Jvm.Cond.code ({ cls := "DotRunsModel", name := "changeBehind", desc := "(II)I" } : Jvm.MethodName) prog_10_method_11_code (4 : Nat) (Option.some Jvm.ClassFile.FieldType.int) ∈ TW := tw_t 1351 (by decide +kernel) rfl
theorem tw1352 : Jvm.Cond.methodLink "DotRunsModel" (107 : Nat) ({ cls := "DotRunsModel", name := "isChange", desc := "(I)Z" } : Jvm.MethodName) ∈ TW := tw_t 1352 (by decide +kernel) rfl
theorem tw1354 : Jvm.Cond.instanceMethod ({ cls := "DotRunsModel", name := "isChange", desc := "(I)Z" } : Jvm.MethodName) ∈ TW := tw_t 1354 (by decide +kernel) rfl
theorem tw1355 : Jvm.Cond.code ({ cls := "DotRunsModel", name := "isChange", desc := "(I)Z" } : Jvm.MethodName) prog_10_method_10_code (2 : Nat) (Option.some Jvm.ClassFile.FieldType.boolean) ∈ TW := tw_t 1355 (by decide +kernel) rfl
theorem tw1356 : Jvm.Cond.methodLink "DotRunsModel" (120 : Nat) ({ cls := "DotRunsModel", name := "adds", desc := "(IIII)V" } : Jvm.MethodName) ∈ TW := tw_t 1356 (by decide +kernel) rfl
theorem tw1358 : Jvm.Cond.instanceMethod ({ cls := "DotRunsModel", name := "adds", desc := "(IIII)V" } : Jvm.MethodName) ∈ TW := tw_t 1358 (by decide +kernel) rfl
theorem tw1359 : Jvm.Cond.code ({ cls := "DotRunsModel", name := "adds", desc := "(IIII)V" } : Jvm.MethodName) prog_10_method_13_code (5 : Nat) (Option.none : Option Jvm.ClassFile.FieldType) ∈ TW := tw_t 1359 (by decide +kernel) rfl
theorem tw1360 : Jvm.Cond.methodLink "DotRunsModel" (128 : Nat) ({ cls := "DotRunsModel", name := "least0", desc := "(I)I" } : Jvm.MethodName) ∈ TW := tw_t 1360 (by decide +kernel) rfl
theorem tw1361 : Jvm.Cond.static ({ cls := "DotRunsModel", name := "least0", desc := "(I)I" } : Jvm.MethodName) ∈ TW := tw_t 1361 (by decide +kernel) rfl
theorem tw1362 : Jvm.Cond.code ({ cls := "DotRunsModel", name := "least0", desc := "(I)I" } : Jvm.MethodName) prog_10_method_14_code (1 : Nat) (Option.some Jvm.ClassFile.FieldType.int) ∈ TW := tw_t 1362 (by decide +kernel) rfl
theorem tw1363 : Jvm.Cond.methodLink "DotRunsModel" (160 : Nat) ({ cls := "DotRunsModel", name := "codesAlone", desc := "()V" } : Jvm.MethodName) ∈ TW := tw_t 1363 (by decide +kernel) rfl
theorem tw1365 : Jvm.Cond.instanceMethod ({ cls := "DotRunsModel", name := "codesAlone", desc := "()V" } : Jvm.MethodName) ∈ TW := tw_t 1365 (by decide +kernel) rfl
theorem tw1366 : Jvm.Cond.code ({ cls := "DotRunsModel", name := "codesAlone", desc := "()V" } : Jvm.MethodName) prog_10_method_22_code (4 : Nat) (Option.none : Option Jvm.ClassFile.FieldType) ∈ TW := tw_t 1366 (by decide +kernel) rfl
theorem tw1367 : Jvm.Cond.methodLink "DotRunsModel" (166 : Nat) ({ cls := "DotRunsModel", name := "aloneBits", desc := "()I" } : Jvm.MethodName) ∈ TW := tw_t 1367 (by decide +kernel) rfl
theorem tw1369 : Jvm.Cond.instanceMethod ({ cls := "DotRunsModel", name := "aloneBits", desc := "()I" } : Jvm.MethodName) ∈ TW := tw_t 1369 (by decide +kernel) rfl
theorem tw1370 : Jvm.Cond.code ({ cls := "DotRunsModel", name := "aloneBits", desc := "()I" } : Jvm.MethodName) prog_10_method_23_code (3 : Nat) (Option.some Jvm.ClassFile.FieldType.int) ∈ TW := tw_t 1370 (by decide +kernel) rfl
theorem tw1371 : Jvm.Cond.methodLink "DotRunsModel" (132 : Nat) ({ cls := "DotRunsModel", name := "numberBits", desc := "(I)I" } : Jvm.MethodName) ∈ TW := tw_t 1371 (by decide +kernel) rfl
theorem tw1372 : Jvm.Cond.static ({ cls := "DotRunsModel", name := "numberBits", desc := "(I)I" } : Jvm.MethodName) ∈ TW := tw_t 1372 (by decide +kernel) rfl
theorem tw1373 : Jvm.Cond.code ({ cls := "DotRunsModel", name := "numberBits", desc := "(I)I" } : Jvm.MethodName) prog_10_method_16_code (1 : Nat) (Option.some Jvm.ClassFile.FieldType.int) ∈ TW := tw_t 1373 (by decide +kernel) rfl
theorem tw1374 : Jvm.Cond.methodLink "DotRunsModel" (170 : Nat) ({ cls := "DotRunsModel", name := "codeBits", desc := "()I" } : Jvm.MethodName) ∈ TW := tw_t 1374 (by decide +kernel) rfl
theorem tw1376 : Jvm.Cond.instanceMethod ({ cls := "DotRunsModel", name := "codeBits", desc := "()I" } : Jvm.MethodName) ∈ TW := tw_t 1376 (by decide +kernel) rfl
theorem tw1377 : Jvm.Cond.code ({ cls := "DotRunsModel", name := "codeBits", desc := "()I" } : Jvm.MethodName) prog_10_method_17_code (4 : Nat) (Option.some Jvm.ClassFile.FieldType.int) ∈ TW := tw_t 1377 (by decide +kernel) rfl
theorem tw1378 : Jvm.Cond.methodLink "DotRunsModel" (185 : Nat) ({ cls := "DotRunsModel", name := "differs", desc := "(II)I" } : Jvm.MethodName) ∈ TW := tw_t 1378 (by decide +kernel) rfl
theorem tw1380 : Jvm.Cond.instanceMethod ({ cls := "DotRunsModel", name := "differs", desc := "(II)I" } : Jvm.MethodName) ∈ TW := tw_t 1380 (by decide +kernel) rfl
theorem tw1381 : Jvm.Cond.code ({ cls := "DotRunsModel", name := "differs", desc := "(II)I" } : Jvm.MethodName) prog_10_method_31_code (5 : Nat) (Option.some Jvm.ClassFile.FieldType.int) ∈ TW := tw_t 1381 (by decide +kernel) rfl
theorem tw1386 : Jvm.Cond.methodLink "DotRunsModel" (197 : Nat) ({ cls := "DotRunsModel", name := "isDot", desc := "(II)Z" } : Jvm.MethodName) ∈ TW := tw_t 1386 (by decide +kernel) rfl
theorem tw1388 : Jvm.Cond.instanceMethod ({ cls := "DotRunsModel", name := "isDot", desc := "(II)Z" } : Jvm.MethodName) ∈ TW := tw_t 1388 (by decide +kernel) rfl
theorem tw1389 : Jvm.Cond.code ({ cls := "DotRunsModel", name := "isDot", desc := "(II)Z" } : Jvm.MethodName) prog_10_method_35_code (3 : Nat) (Option.some Jvm.ClassFile.FieldType.boolean) ∈ TW := tw_t 1389 (by decide +kernel) rfl
theorem tw1390 : Jvm.Cond.methodLink "DotRunsModel" (194 : Nat) ({ cls := "DotRunsModel", name := "isLine", desc := "(I)Z" } : Jvm.MethodName) ∈ TW := tw_t 1390 (by decide +kernel) rfl
theorem tw1392 : Jvm.Cond.instanceMethod ({ cls := "DotRunsModel", name := "isLine", desc := "(I)Z" } : Jvm.MethodName) ∈ TW := tw_t 1392 (by decide +kernel) rfl
theorem tw1393 : Jvm.Cond.code ({ cls := "DotRunsModel", name := "isLine", desc := "(I)Z" } : Jvm.MethodName) prog_10_method_34_code (2 : Nat) (Option.some Jvm.ClassFile.FieldType.boolean) ∈ TW := tw_t 1393 (by decide +kernel) rfl
theorem tw1398 : Jvm.Cond.methodLink "DotRunsModel" (201 : Nat) ({ cls := "DotRunsModel", name := "sentBits", desc := "(I)I" } : Jvm.MethodName) ∈ TW := tw_t 1398 (by decide +kernel) rfl
theorem tw1400 : Jvm.Cond.instanceMethod ({ cls := "DotRunsModel", name := "sentBits", desc := "(I)I" } : Jvm.MethodName) ∈ TW := tw_t 1400 (by decide +kernel) rfl
theorem tw1401 : Jvm.Cond.code ({ cls := "DotRunsModel", name := "sentBits", desc := "(I)I" } : Jvm.MethodName) prog_10_method_26_code (3 : Nat) (Option.some Jvm.ClassFile.FieldType.int) ∈ TW := tw_t 1401 (by decide +kernel) rfl
theorem tw1402 : Jvm.Cond.methodLink "DotRunsModel" (204 : Nat) ({ cls := "DotRunsModel", name := "markUpTo", desc := "(I)I" } : Jvm.MethodName) ∈ TW := tw_t 1402 (by decide +kernel) rfl
theorem tw1404 : Jvm.Cond.instanceMethod ({ cls := "DotRunsModel", name := "markUpTo", desc := "(I)I" } : Jvm.MethodName) ∈ TW := tw_t 1404 (by decide +kernel) rfl
theorem tw1405 : Jvm.Cond.code ({ cls := "DotRunsModel", name := "markUpTo", desc := "(I)I" } : Jvm.MethodName) prog_10_method_27_code (3 : Nat) (Option.some Jvm.ClassFile.FieldType.int) ∈ TW := tw_t 1405 (by decide +kernel) rfl
theorem tw1406 : Jvm.Cond.methodLink "DotRunsModel" (207 : Nat) ({ cls := "DotRunsModel", name := "modesOf", desc := "(I)I" } : Jvm.MethodName) ∈ TW := tw_t 1406 (by decide +kernel) rfl
theorem tw1408 : Jvm.Cond.instanceMethod ({ cls := "DotRunsModel", name := "modesOf", desc := "(I)I" } : Jvm.MethodName) ∈ TW := tw_t 1408 (by decide +kernel) rfl
theorem tw1409 : Jvm.Cond.code ({ cls := "DotRunsModel", name := "modesOf", desc := "(I)I" } : Jvm.MethodName) prog_10_method_37_code (4 : Nat) (Option.some Jvm.ClassFile.FieldType.int) ∈ TW := tw_t 1409 (by decide +kernel) rfl
theorem tw1426 : Jvm.Cond.methodLink "DotRunsModel" (210 : Nat) ({ cls := "DotRunsModel", name := "rowFrom", desc := "(III)I" } : Jvm.MethodName) ∈ TW := tw_t 1426 (by decide +kernel) rfl
theorem tw1428 : Jvm.Cond.instanceMethod ({ cls := "DotRunsModel", name := "rowFrom", desc := "(III)I" } : Jvm.MethodName) ∈ TW := tw_t 1428 (by decide +kernel) rfl
theorem tw1429 : Jvm.Cond.code ({ cls := "DotRunsModel", name := "rowFrom", desc := "(III)I" } : Jvm.MethodName) prog_10_method_42_code (5 : Nat) (Option.some Jvm.ClassFile.FieldType.int) ∈ TW := tw_t 1429 (by decide +kernel) rfl
theorem tw1434 : Jvm.Cond.methodLink "DotRunsModel" (214 : Nat) ({ cls := "DotRunsModel", name := "beginsRow", desc := "(III)Z" } : Jvm.MethodName) ∈ TW := tw_t 1434 (by decide +kernel) rfl
theorem tw1436 : Jvm.Cond.instanceMethod ({ cls := "DotRunsModel", name := "beginsRow", desc := "(III)Z" } : Jvm.MethodName) ∈ TW := tw_t 1436 (by decide +kernel) rfl
theorem tw1437 : Jvm.Cond.code ({ cls := "DotRunsModel", name := "beginsRow", desc := "(III)Z" } : Jvm.MethodName) prog_10_method_43_code (4 : Nat) (Option.some Jvm.ClassFile.FieldType.boolean) ∈ TW := tw_t 1437 (by decide +kernel) rfl
theorem tw1442 : Jvm.Cond.methodLink "DotRunsModel" (217 : Nat) ({ cls := "DotRunsModel", name := "readsCode", desc := "()Z" } : Jvm.MethodName) ∈ TW := tw_t 1442 (by decide +kernel) rfl
theorem tw1444 : Jvm.Cond.instanceMethod ({ cls := "DotRunsModel", name := "readsCode", desc := "()Z" } : Jvm.MethodName) ∈ TW := tw_t 1444 (by decide +kernel) rfl
theorem tw1445 : Jvm.Cond.code ({ cls := "DotRunsModel", name := "readsCode", desc := "()Z" } : Jvm.MethodName) prog_10_method_21_code (3 : Nat) (Option.some Jvm.ClassFile.FieldType.boolean) ∈ TW := tw_t 1445 (by decide +kernel) rfl
theorem tw1446 : Jvm.Cond.methodLink "DotRunsModel" (145 : Nat) ({ cls := "DotRunsModel", name := "startsReading", desc := "()V" } : Jvm.MethodName) ∈ TW := tw_t 1446 (by decide +kernel) rfl
theorem tw1448 : Jvm.Cond.instanceMethod ({ cls := "DotRunsModel", name := "startsReading", desc := "()V" } : Jvm.MethodName) ∈ TW := tw_t 1448 (by decide +kernel) rfl
theorem tw1449 : Jvm.Cond.code ({ cls := "DotRunsModel", name := "startsReading", desc := "()V" } : Jvm.MethodName) prog_10_method_18_code (2 : Nat) (Option.none : Option Jvm.ClassFile.FieldType) ∈ TW := tw_t 1449 (by decide +kernel) rfl
theorem tw1450 : Jvm.Cond.methodLink "DotRunsModel" (148 : Nat) ({ cls := "DotRunsModel", name := "readsMode", desc := "(III)Z" } : Jvm.MethodName) ∈ TW := tw_t 1450 (by decide +kernel) rfl
theorem tw1452 : Jvm.Cond.instanceMethod ({ cls := "DotRunsModel", name := "readsMode", desc := "(III)Z" } : Jvm.MethodName) ∈ TW := tw_t 1452 (by decide +kernel) rfl
theorem tw1453 : Jvm.Cond.code ({ cls := "DotRunsModel", name := "readsMode", desc := "(III)Z" } : Jvm.MethodName) prog_10_method_20_code (8 : Nat) (Option.some Jvm.ClassFile.FieldType.boolean) ∈ TW := tw_t 1453 (by decide +kernel) rfl
theorem tw1454 : Jvm.Cond.methodLink "DotRunsModel" (141 : Nat) ({ cls := "DotRunsModel", name := "paints", desc := "(III)V" } : Jvm.MethodName) ∈ TW := tw_t 1454 (by decide +kernel) rfl
theorem tw1456 : Jvm.Cond.instanceMethod ({ cls := "DotRunsModel", name := "paints", desc := "(III)V" } : Jvm.MethodName) ∈ TW := tw_t 1456 (by decide +kernel) rfl
theorem tw1457 : Jvm.Cond.code ({ cls := "DotRunsModel", name := "paints", desc := "(III)V" } : Jvm.MethodName) prog_10_method_19_code (5 : Nat) (Option.none : Option Jvm.ClassFile.FieldType) ∈ TW := tw_t 1457 (by decide +kernel) rfl
theorem tw1462 : Jvm.Cond.methodLink "DotRunsModel" (224 : Nat) ({ cls := "DotRunsModel", name := "isSetting", desc := "(II)Z" } : Jvm.MethodName) ∈ TW := tw_t 1462 (by decide +kernel) rfl
theorem tw1463 : Jvm.Cond.static ({ cls := "DotRunsModel", name := "isSetting", desc := "(II)Z" } : Jvm.MethodName) ∈ TW := tw_t 1463 (by decide +kernel) rfl
theorem tw1464 : Jvm.Cond.code ({ cls := "DotRunsModel", name := "isSetting", desc := "(II)Z" } : Jvm.MethodName) prog_10_method_49_code (2 : Nat) (Option.some Jvm.ClassFile.FieldType.boolean) ∈ TW := tw_t 1464 (by decide +kernel) rfl
theorem tw1465 : Jvm.Cond.methodLink "DotRunsModel" (221 : Nat) ({ cls := "DotRunsModel", name := "highOf", desc := "(I)I" } : Jvm.MethodName) ∈ TW := tw_t 1465 (by decide +kernel) rfl
theorem tw1466 : Jvm.Cond.static ({ cls := "DotRunsModel", name := "highOf", desc := "(I)I" } : Jvm.MethodName) ∈ TW := tw_t 1466 (by decide +kernel) rfl
theorem tw1467 : Jvm.Cond.code ({ cls := "DotRunsModel", name := "highOf", desc := "(I)I" } : Jvm.MethodName) prog_10_method_48_code (1 : Nat) (Option.some Jvm.ClassFile.FieldType.int) ∈ TW := tw_t 1467 (by decide +kernel) rfl
theorem tw1468 : Jvm.Cond.methodLink "DotRunsModel" (227 : Nat) ({ cls := "DotRunsModel", name := "keeps", desc := "()V" } : Jvm.MethodName) ∈ TW := tw_t 1468 (by decide +kernel) rfl
theorem tw1470 : Jvm.Cond.instanceMethod ({ cls := "DotRunsModel", name := "keeps", desc := "()V" } : Jvm.MethodName) ∈ TW := tw_t 1470 (by decide +kernel) rfl
theorem tw1471 : Jvm.Cond.code ({ cls := "DotRunsModel", name := "keeps", desc := "()V" } : Jvm.MethodName) prog_10_method_47_code (2 : Nat) (Option.none : Option Jvm.ClassFile.FieldType) ∈ TW := tw_t 1471 (by decide +kernel) rfl
theorem tw1480 : Jvm.Cond.methodLink "DotRunsModel" (230 : Nat) ({ cls := "DotRunsModel", name := "isPart", desc := "(II)Z" } : Jvm.MethodName) ∈ TW := tw_t 1480 (by decide +kernel) rfl
theorem tw1482 : Jvm.Cond.instanceMethod ({ cls := "DotRunsModel", name := "isPart", desc := "(II)Z" } : Jvm.MethodName) ∈ TW := tw_t 1482 (by decide +kernel) rfl
theorem tw1483 : Jvm.Cond.code ({ cls := "DotRunsModel", name := "isPart", desc := "(II)Z" } : Jvm.MethodName) prog_10_method_52_code (3 : Nat) (Option.some Jvm.ClassFile.FieldType.boolean) ∈ TW := tw_t 1483 (by decide +kernel) rfl
theorem tw1484 : Jvm.Cond.methodLink "DotRunsModel" (233 : Nat) ({ cls := "DotRunsModel", name := "clearsLine", desc := "(I)V" } : Jvm.MethodName) ∈ TW := tw_t 1484 (by decide +kernel) rfl
theorem tw1486 : Jvm.Cond.instanceMethod ({ cls := "DotRunsModel", name := "clearsLine", desc := "(I)V" } : Jvm.MethodName) ∈ TW := tw_t 1486 (by decide +kernel) rfl
theorem tw1487 : Jvm.Cond.code ({ cls := "DotRunsModel", name := "clearsLine", desc := "(I)V" } : Jvm.MethodName) prog_10_method_53_code (3 : Nat) (Option.none : Option Jvm.ClassFile.FieldType) ∈ TW := tw_t 1487 (by decide +kernel) rfl
theorem tw1488 : Jvm.Cond.methodLink "DotRunsModel" (236 : Nat) ({ cls := "DotRunsModel", name := "paintsLine", desc := "(IIII)I" } : Jvm.MethodName) ∈ TW := tw_t 1488 (by decide +kernel) rfl
theorem tw1490 : Jvm.Cond.instanceMethod ({ cls := "DotRunsModel", name := "paintsLine", desc := "(IIII)I" } : Jvm.MethodName) ∈ TW := tw_t 1490 (by decide +kernel) rfl
theorem tw1491 : Jvm.Cond.code ({ cls := "DotRunsModel", name := "paintsLine", desc := "(IIII)I" } : Jvm.MethodName) prog_10_method_54_code (7 : Nat) (Option.some Jvm.ClassFile.FieldType.int) ∈ TW := tw_t 1491 (by decide +kernel) rfl
theorem tw1504 : Jvm.Cond.methodLink "DotRunsModel" (240 : Nat) ({ cls := "DotRunsModel", name := "movesLine", desc := "(II)V" } : Jvm.MethodName) ∈ TW := tw_t 1504 (by decide +kernel) rfl
theorem tw1506 : Jvm.Cond.instanceMethod ({ cls := "DotRunsModel", name := "movesLine", desc := "(II)V" } : Jvm.MethodName) ∈ TW := tw_t 1506 (by decide +kernel) rfl
theorem tw1507 : Jvm.Cond.code ({ cls := "DotRunsModel", name := "movesLine", desc := "(II)V" } : Jvm.MethodName) prog_10_method_58_code (4 : Nat) (Option.none : Option Jvm.ClassFile.FieldType) ∈ TW := tw_t 1507 (by decide +kernel) rfl
theorem tw1524 : Jvm.Cond.methodLink "DotRunsModel" (277 : Nat) ({ cls := "DotRunsModel", name := "sendsPage", desc := "()V" } : Jvm.MethodName) ∈ TW := tw_t 1524 (by decide +kernel) rfl
theorem tw1526 : Jvm.Cond.instanceMethod ({ cls := "DotRunsModel", name := "sendsPage", desc := "()V" } : Jvm.MethodName) ∈ TW := tw_t 1526 (by decide +kernel) rfl
theorem tw1527 : Jvm.Cond.code ({ cls := "DotRunsModel", name := "sendsPage", desc := "()V" } : Jvm.MethodName) prog_10_method_69_code (1 : Nat) (Option.none : Option Jvm.ClassFile.FieldType) ∈ TW := tw_t 1527 (by decide +kernel) rfl
theorem tw1528 : Jvm.Cond.methodLink "DotRunsModel" (271 : Nat) ({ cls := "DotRunsModel", name := "laysLosses", desc := "()V" } : Jvm.MethodName) ∈ TW := tw_t 1528 (by decide +kernel) rfl
theorem tw1530 : Jvm.Cond.instanceMethod ({ cls := "DotRunsModel", name := "laysLosses", desc := "()V" } : Jvm.MethodName) ∈ TW := tw_t 1530 (by decide +kernel) rfl
theorem tw1531 : Jvm.Cond.code ({ cls := "DotRunsModel", name := "laysLosses", desc := "()V" } : Jvm.MethodName) prog_10_method_63_code (2 : Nat) (Option.none : Option Jvm.ClassFile.FieldType) ∈ TW := tw_t 1531 (by decide +kernel) rfl
theorem tw1532 : Jvm.Cond.methodLink "DotRunsModel" (274 : Nat) ({ cls := "DotRunsModel", name := "sendsAll", desc := "()V" } : Jvm.MethodName) ∈ TW := tw_t 1532 (by decide +kernel) rfl
theorem tw1534 : Jvm.Cond.instanceMethod ({ cls := "DotRunsModel", name := "sendsAll", desc := "()V" } : Jvm.MethodName) ∈ TW := tw_t 1534 (by decide +kernel) rfl
theorem tw1535 : Jvm.Cond.code ({ cls := "DotRunsModel", name := "sendsAll", desc := "()V" } : Jvm.MethodName) prog_10_method_68_code (3 : Nat) (Option.none : Option Jvm.ClassFile.FieldType) ∈ TW := tw_t 1535 (by decide +kernel) rfl
theorem tw1536 : Jvm.Cond.methodLink "DotRunsModel" (265 : Nat) ({ cls := "DotRunsModel", name := "sends", desc := "(I)I" } : Jvm.MethodName) ∈ TW := tw_t 1536 (by decide +kernel) rfl
theorem tw1538 : Jvm.Cond.instanceMethod ({ cls := "DotRunsModel", name := "sends", desc := "(I)I" } : Jvm.MethodName) ∈ TW := tw_t 1538 (by decide +kernel) rfl
theorem tw1539 : Jvm.Cond.code ({ cls := "DotRunsModel", name := "sends", desc := "(I)I" } : Jvm.MethodName) prog_10_method_67_code (4 : Nat) (Option.some Jvm.ClassFile.FieldType.int) ∈ TW := tw_t 1539 (by decide +kernel) rfl
theorem tw1540 : Jvm.Cond.methodLink "DotRunsModel" (253 : Nat) ({ cls := "DotRunsModel", name := "isRead", desc := "(I)Z" } : Jvm.MethodName) ∈ TW := tw_t 1540 (by decide +kernel) rfl
theorem tw1542 : Jvm.Cond.instanceMethod ({ cls := "DotRunsModel", name := "isRead", desc := "(I)Z" } : Jvm.MethodName) ∈ TW := tw_t 1542 (by decide +kernel) rfl
theorem tw1543 : Jvm.Cond.code ({ cls := "DotRunsModel", name := "isRead", desc := "(I)Z" } : Jvm.MethodName) prog_10_method_66_code (4 : Nat) (Option.some Jvm.ClassFile.FieldType.boolean) ∈ TW := tw_t 1543 (by decide +kernel) rfl
theorem tw1544 : Jvm.Cond.methodLink "DotRunsModel" (259 : Nat) ({ cls := "DotRunsModel", name := "wrongIn", desc := "(I)I" } : Jvm.MethodName) ∈ TW := tw_t 1544 (by decide +kernel) rfl
theorem tw1546 : Jvm.Cond.instanceMethod ({ cls := "DotRunsModel", name := "wrongIn", desc := "(I)I" } : Jvm.MethodName) ∈ TW := tw_t 1546 (by decide +kernel) rfl
theorem tw1547 : Jvm.Cond.code ({ cls := "DotRunsModel", name := "wrongIn", desc := "(I)I" } : Jvm.MethodName) prog_10_method_65_code (4 : Nat) (Option.some Jvm.ClassFile.FieldType.int) ∈ TW := tw_t 1547 (by decide +kernel) rfl
theorem tw1548 : Jvm.Cond.methodLink "DotRunsModel" (268 : Nat) ({ cls := "DotRunsModel", name := "fills", desc := "(II)V" } : Jvm.MethodName) ∈ TW := tw_t 1548 (by decide +kernel) rfl
theorem tw1550 : Jvm.Cond.instanceMethod ({ cls := "DotRunsModel", name := "fills", desc := "(II)V" } : Jvm.MethodName) ∈ TW := tw_t 1550 (by decide +kernel) rfl
theorem tw1551 : Jvm.Cond.code ({ cls := "DotRunsModel", name := "fills", desc := "(II)V" } : Jvm.MethodName) prog_10_method_64_code (4 : Nat) (Option.none : Option Jvm.ClassFile.FieldType) ∈ TW := tw_t 1551 (by decide +kernel) rfl
theorem tw1552 : Jvm.Cond.methodLink "DotRunsModel" (280 : Nat) ({ cls := "DotRunsModel", name := "wrongDots", desc := "()I" } : Jvm.MethodName) ∈ TW := tw_t 1552 (by decide +kernel) rfl
theorem tw1554 : Jvm.Cond.instanceMethod ({ cls := "DotRunsModel", name := "wrongDots", desc := "()I" } : Jvm.MethodName) ∈ TW := tw_t 1554 (by decide +kernel) rfl
theorem tw1555 : Jvm.Cond.code ({ cls := "DotRunsModel", name := "wrongDots", desc := "()I" } : Jvm.MethodName) prog_10_method_70_code (3 : Nat) (Option.some Jvm.ClassFile.FieldType.int) ∈ TW := tw_t 1555 (by decide +kernel) rfl
theorem tw1556 : Jvm.Cond.methodLink "DotRunsModel" (283 : Nat) ({ cls := "DotRunsModel", name := "statesOf", desc := "(I)I" } : Jvm.MethodName) ∈ TW := tw_t 1556 (by decide +kernel) rfl
theorem tw1558 : Jvm.Cond.instanceMethod ({ cls := "DotRunsModel", name := "statesOf", desc := "(I)I" } : Jvm.MethodName) ∈ TW := tw_t 1558 (by decide +kernel) rfl
theorem tw1559 : Jvm.Cond.code ({ cls := "DotRunsModel", name := "statesOf", desc := "(I)I" } : Jvm.MethodName) prog_10_method_71_code (4 : Nat) (Option.some Jvm.ClassFile.FieldType.int) ∈ TW := tw_t 1559 (by decide +kernel) rfl
theorem tw1572 : Jvm.Cond.methodLink "DotRunsModel" (286 : Nat) ({ cls := "DotRunsModel", name := "sendsHarmed", desc := "(I)V" } : Jvm.MethodName) ∈ TW := tw_t 1572 (by decide +kernel) rfl
theorem tw1574 : Jvm.Cond.instanceMethod ({ cls := "DotRunsModel", name := "sendsHarmed", desc := "(I)V" } : Jvm.MethodName) ∈ TW := tw_t 1574 (by decide +kernel) rfl
theorem tw1575 : Jvm.Cond.code ({ cls := "DotRunsModel", name := "sendsHarmed", desc := "(I)V" } : Jvm.MethodName) prog_10_method_75_code (3 : Nat) (Option.none : Option Jvm.ClassFile.FieldType) ∈ TW := tw_t 1575 (by decide +kernel) rfl
theorem tw1576 : Jvm.Cond.methodLink "DotRunsModel" (289 : Nat) ({ cls := "DotRunsModel", name := "harmOf", desc := "(I)I" } : Jvm.MethodName) ∈ TW := tw_t 1576 (by decide +kernel) rfl
theorem tw1578 : Jvm.Cond.instanceMethod ({ cls := "DotRunsModel", name := "harmOf", desc := "(I)I" } : Jvm.MethodName) ∈ TW := tw_t 1578 (by decide +kernel) rfl
theorem tw1579 : Jvm.Cond.code ({ cls := "DotRunsModel", name := "harmOf", desc := "(I)I" } : Jvm.MethodName) prog_10_method_76_code (6 : Nat) (Option.some Jvm.ClassFile.FieldType.int) ∈ TW := tw_t 1579 (by decide +kernel) rfl
theorem tw1612 : Jvm.Cond.methodLink "DotRunsModel" (316 : Nat) ({ cls := "DotRunsModel", name := "advances", desc := "()V" } : Jvm.MethodName) ∈ TW := tw_t 1612 (by decide +kernel) rfl
theorem tw1614 : Jvm.Cond.instanceMethod ({ cls := "DotRunsModel", name := "advances", desc := "()V" } : Jvm.MethodName) ∈ TW := tw_t 1614 (by decide +kernel) rfl
theorem tw1615 : Jvm.Cond.code ({ cls := "DotRunsModel", name := "advances", desc := "()V" } : Jvm.MethodName) prog_10_method_87_code (1 : Nat) (Option.none : Option Jvm.ClassFile.FieldType) ∈ TW := tw_t 1615 (by decide +kernel) rfl
theorem tw1616 : Jvm.Cond.methodLink "DotRunsModel" (298 : Nat) ({ cls := "DotRunsModel", name := "see", desc := "()I" } : Jvm.MethodName) ∈ TW := tw_t 1616 (by decide +kernel) rfl
theorem tw1618 : Jvm.Cond.instanceMethod ({ cls := "DotRunsModel", name := "see", desc := "()I" } : Jvm.MethodName) ∈ TW := tw_t 1618 (by decide +kernel) rfl
theorem tw1619 : Jvm.Cond.code ({ cls := "DotRunsModel", name := "see", desc := "()I" } : Jvm.MethodName) prog_10_method_85_code (1 : Nat) (Option.some Jvm.ClassFile.FieldType.int) ∈ TW := tw_t 1619 (by decide +kernel) rfl
theorem tw1620 : Jvm.Cond.methodLink "DotRunsModel" (304 : Nat) ({ cls := "DotRunsModel", name := "sortOf", desc := "(I)I" } : Jvm.MethodName) ∈ TW := tw_t 1620 (by decide +kernel) rfl
theorem tw1621 : Jvm.Cond.static ({ cls := "DotRunsModel", name := "sortOf", desc := "(I)I" } : Jvm.MethodName) ∈ TW := tw_t 1621 (by decide +kernel) rfl
theorem tw1622 : Jvm.Cond.code ({ cls := "DotRunsModel", name := "sortOf", desc := "(I)I" } : Jvm.MethodName) prog_10_method_86_code (1 : Nat) (Option.some Jvm.ClassFile.FieldType.int) ∈ TW := tw_t 1622 (by decide +kernel) rfl
theorem tw1623 : Jvm.Cond.methodLink "DotRunsModel" (329 : Nat) ({ cls := "DotRunsModel", name := "wordHere", desc := "()I" } : Jvm.MethodName) ∈ TW := tw_t 1623 (by decide +kernel) rfl
theorem tw1625 : Jvm.Cond.instanceMethod ({ cls := "DotRunsModel", name := "wordHere", desc := "()I" } : Jvm.MethodName) ∈ TW := tw_t 1625 (by decide +kernel) rfl
theorem tw1626 : Jvm.Cond.code ({ cls := "DotRunsModel", name := "wordHere", desc := "()I" } : Jvm.MethodName) prog_10_method_90_code (5 : Nat) (Option.some Jvm.ClassFile.FieldType.int) ∈ TW := tw_t 1626 (by decide +kernel) rfl
theorem tw1627 : Jvm.Cond.methodLink "DotRunsModel" (326 : Nat) ({ cls := "DotRunsModel", name := "goesOn", desc := "()V" } : Jvm.MethodName) ∈ TW := tw_t 1627 (by decide +kernel) rfl
theorem tw1629 : Jvm.Cond.instanceMethod ({ cls := "DotRunsModel", name := "goesOn", desc := "()V" } : Jvm.MethodName) ∈ TW := tw_t 1629 (by decide +kernel) rfl
theorem tw1630 : Jvm.Cond.code ({ cls := "DotRunsModel", name := "goesOn", desc := "()V" } : Jvm.MethodName) prog_10_method_89_code (1 : Nat) (Option.none : Option Jvm.ClassFile.FieldType) ∈ TW := tw_t 1630 (by decide +kernel) rfl
theorem tw1631 : Jvm.Cond.methodLink "DotRunsModel" (332 : Nat) ({ cls := "DotRunsModel", name := "reads", desc := "(II)I" } : Jvm.MethodName) ∈ TW := tw_t 1631 (by decide +kernel) rfl
theorem tw1633 : Jvm.Cond.instanceMethod ({ cls := "DotRunsModel", name := "reads", desc := "(II)I" } : Jvm.MethodName) ∈ TW := tw_t 1633 (by decide +kernel) rfl
theorem tw1634 : Jvm.Cond.code ({ cls := "DotRunsModel", name := "reads", desc := "(II)I" } : Jvm.MethodName) prog_10_method_92_code (4 : Nat) (Option.some Jvm.ClassFile.FieldType.int) ∈ TW := tw_t 1634 (by decide +kernel) rfl
theorem tw1635 : Jvm.Cond.methodLink "DotRunsModel" (323 : Nat) ({ cls := "DotRunsModel", name := "looks", desc := "(II)I" } : Jvm.MethodName) ∈ TW := tw_t 1635 (by decide +kernel) rfl
theorem tw1637 : Jvm.Cond.instanceMethod ({ cls := "DotRunsModel", name := "looks", desc := "(II)I" } : Jvm.MethodName) ∈ TW := tw_t 1637 (by decide +kernel) rfl
theorem tw1638 : Jvm.Cond.code ({ cls := "DotRunsModel", name := "looks", desc := "(II)I" } : Jvm.MethodName) prog_10_method_91_code (3 : Nat) (Option.some Jvm.ClassFile.FieldType.int) ∈ TW := tw_t 1638 (by decide +kernel) rfl
theorem tw1639 : Jvm.Cond.methodLink "DotRunsModel" (319 : Nat) ({ cls := "DotRunsModel", name := "must", desc := "(ZI)V" } : Jvm.MethodName) ∈ TW := tw_t 1639 (by decide +kernel) rfl
theorem tw1641 : Jvm.Cond.instanceMethod ({ cls := "DotRunsModel", name := "must", desc := "(ZI)V" } : Jvm.MethodName) ∈ TW := tw_t 1641 (by decide +kernel) rfl
theorem tw1642 : Jvm.Cond.code ({ cls := "DotRunsModel", name := "must", desc := "(ZI)V" } : Jvm.MethodName) prog_10_method_88_code (3 : Nat) (Option.none : Option Jvm.ClassFile.FieldType) ∈ TW := tw_t 1642 (by decide +kernel) rfl
theorem tw1643 : Jvm.Cond.methodLink "DotRunsModel" (362 : Nat) ({ cls := "DotRunsModel", name := "readsStatement", desc := "()V" } : Jvm.MethodName) ∈ TW := tw_t 1643 (by decide +kernel) rfl
theorem tw1645 : Jvm.Cond.instanceMethod ({ cls := "DotRunsModel", name := "readsStatement", desc := "()V" } : Jvm.MethodName) ∈ TW := tw_t 1645 (by decide +kernel) rfl
theorem tw1646 : Jvm.Cond.code ({ cls := "DotRunsModel", name := "readsStatement", desc := "()V" } : Jvm.MethodName) prog_10_method_102_code (2 : Nat) (Option.none : Option Jvm.ClassFile.FieldType) ∈ TW := tw_t 1646 (by decide +kernel) rfl
theorem tw1647 : Jvm.Cond.methodLink "DotRunsModel" (353 : Nat) ({ cls := "DotRunsModel", name := "readsLine", desc := "(I)V" } : Jvm.MethodName) ∈ TW := tw_t 1647 (by decide +kernel) rfl
theorem tw1649 : Jvm.Cond.instanceMethod ({ cls := "DotRunsModel", name := "readsLine", desc := "(I)V" } : Jvm.MethodName) ∈ TW := tw_t 1649 (by decide +kernel) rfl
theorem tw1650 : Jvm.Cond.code ({ cls := "DotRunsModel", name := "readsLine", desc := "(I)V" } : Jvm.MethodName) prog_10_method_101_code (2 : Nat) (Option.none : Option Jvm.ClassFile.FieldType) ∈ TW := tw_t 1650 (by decide +kernel) rfl
theorem tw1651 : Jvm.Cond.methodLink "DotRunsModel" (338 : Nat) ({ cls := "DotRunsModel", name := "laysTold", desc := "()V" } : Jvm.MethodName) ∈ TW := tw_t 1651 (by decide +kernel) rfl
theorem tw1653 : Jvm.Cond.instanceMethod ({ cls := "DotRunsModel", name := "laysTold", desc := "()V" } : Jvm.MethodName) ∈ TW := tw_t 1653 (by decide +kernel) rfl
theorem tw1654 : Jvm.Cond.code ({ cls := "DotRunsModel", name := "laysTold", desc := "()V" } : Jvm.MethodName) prog_10_method_93_code (1 : Nat) (Option.none : Option Jvm.ClassFile.FieldType) ∈ TW := tw_t 1654 (by decide +kernel) rfl
theorem tw1655 : Jvm.Cond.methodLink "DotRunsModel" (341 : Nat) ({ cls := "DotRunsModel", name := "readsRow", desc := "()V" } : Jvm.MethodName) ∈ TW := tw_t 1655 (by decide +kernel) rfl
theorem tw1657 : Jvm.Cond.instanceMethod ({ cls := "DotRunsModel", name := "readsRow", desc := "()V" } : Jvm.MethodName) ∈ TW := tw_t 1657 (by decide +kernel) rfl
theorem tw1658 : Jvm.Cond.code ({ cls := "DotRunsModel", name := "readsRow", desc := "()V" } : Jvm.MethodName) prog_10_method_95_code (2 : Nat) (Option.none : Option Jvm.ClassFile.FieldType) ∈ TW := tw_t 1658 (by decide +kernel) rfl
theorem tw1659 : Jvm.Cond.methodLink "DotRunsModel" (344 : Nat) ({ cls := "DotRunsModel", name := "readsAlone", desc := "()V" } : Jvm.MethodName) ∈ TW := tw_t 1659 (by decide +kernel) rfl
theorem tw1661 : Jvm.Cond.instanceMethod ({ cls := "DotRunsModel", name := "readsAlone", desc := "()V" } : Jvm.MethodName) ∈ TW := tw_t 1661 (by decide +kernel) rfl
theorem tw1662 : Jvm.Cond.code ({ cls := "DotRunsModel", name := "readsAlone", desc := "()V" } : Jvm.MethodName) prog_10_method_96_code (5 : Nat) (Option.none : Option Jvm.ClassFile.FieldType) ∈ TW := tw_t 1662 (by decide +kernel) rfl
theorem tw1663 : Jvm.Cond.methodLink "DotRunsModel" (347 : Nat) ({ cls := "DotRunsModel", name := "readsAbove", desc := "()V" } : Jvm.MethodName) ∈ TW := tw_t 1663 (by decide +kernel) rfl
theorem tw1665 : Jvm.Cond.instanceMethod ({ cls := "DotRunsModel", name := "readsAbove", desc := "()V" } : Jvm.MethodName) ∈ TW := tw_t 1665 (by decide +kernel) rfl
theorem tw1666 : Jvm.Cond.code ({ cls := "DotRunsModel", name := "readsAbove", desc := "()V" } : Jvm.MethodName) prog_10_method_98_code (1 : Nat) (Option.none : Option Jvm.ClassFile.FieldType) ∈ TW := tw_t 1666 (by decide +kernel) rfl
theorem tw1667 : Jvm.Cond.methodLink "DotRunsModel" (335 : Nat) ({ cls := "DotRunsModel", name := "readsOne", desc := "()V" } : Jvm.MethodName) ∈ TW := tw_t 1667 (by decide +kernel) rfl
theorem tw1669 : Jvm.Cond.instanceMethod ({ cls := "DotRunsModel", name := "readsOne", desc := "()V" } : Jvm.MethodName) ∈ TW := tw_t 1669 (by decide +kernel) rfl
theorem tw1670 : Jvm.Cond.code ({ cls := "DotRunsModel", name := "readsOne", desc := "()V" } : Jvm.MethodName) prog_10_method_97_code (6 : Nat) (Option.none : Option Jvm.ClassFile.FieldType) ∈ TW := tw_t 1670 (by decide +kernel) rfl
theorem tw1671 : Jvm.Cond.methodLink "DotRunsModel" (350 : Nat) ({ cls := "DotRunsModel", name := "addsTold", desc := "()V" } : Jvm.MethodName) ∈ TW := tw_t 1671 (by decide +kernel) rfl
theorem tw1673 : Jvm.Cond.instanceMethod ({ cls := "DotRunsModel", name := "addsTold", desc := "()V" } : Jvm.MethodName) ∈ TW := tw_t 1673 (by decide +kernel) rfl
theorem tw1674 : Jvm.Cond.code ({ cls := "DotRunsModel", name := "addsTold", desc := "()V" } : Jvm.MethodName) prog_10_method_94_code (2 : Nat) (Option.none : Option Jvm.ClassFile.FieldType) ∈ TW := tw_t 1674 (by decide +kernel) rfl
theorem tw1675 : Jvm.Cond.methodLink "DotRunsModel" (356 : Nat) ({ cls := "DotRunsModel", name := "readsSetting", desc := "()V" } : Jvm.MethodName) ∈ TW := tw_t 1675 (by decide +kernel) rfl
theorem tw1677 : Jvm.Cond.instanceMethod ({ cls := "DotRunsModel", name := "readsSetting", desc := "()V" } : Jvm.MethodName) ∈ TW := tw_t 1677 (by decide +kernel) rfl
theorem tw1678 : Jvm.Cond.code ({ cls := "DotRunsModel", name := "readsSetting", desc := "()V" } : Jvm.MethodName) prog_10_method_99_code (3 : Nat) (Option.none : Option Jvm.ClassFile.FieldType) ∈ TW := tw_t 1678 (by decide +kernel) rfl
theorem tw1679 : Jvm.Cond.methodLink "DotRunsModel" (359 : Nat) ({ cls := "DotRunsModel", name := "readsLoss", desc := "()V" } : Jvm.MethodName) ∈ TW := tw_t 1679 (by decide +kernel) rfl
theorem tw1681 : Jvm.Cond.instanceMethod ({ cls := "DotRunsModel", name := "readsLoss", desc := "()V" } : Jvm.MethodName) ∈ TW := tw_t 1681 (by decide +kernel) rfl
theorem tw1682 : Jvm.Cond.code ({ cls := "DotRunsModel", name := "readsLoss", desc := "()V" } : Jvm.MethodName) prog_10_method_100_code (3 : Nat) (Option.none : Option Jvm.ClassFile.FieldType) ∈ TW := tw_t 1682 (by decide +kernel) rfl
theorem tw1695 : Jvm.Cond.methodLink "DotRunsModel" (374 : Nat) ({ cls := "DotRunsModel", name := "printsWord", desc := "(I)V" } : Jvm.MethodName) ∈ TW := tw_t 1695 (by decide +kernel) rfl
theorem tw1697 : Jvm.Cond.instanceMethod ({ cls := "DotRunsModel", name := "printsWord", desc := "(I)V" } : Jvm.MethodName) ∈ TW := tw_t 1697 (by decide +kernel) rfl
theorem tw1698 : Jvm.Cond.code ({ cls := "DotRunsModel", name := "printsWord", desc := "(I)V" } : Jvm.MethodName) prog_10_method_107_code (4 : Nat) (Option.none : Option Jvm.ClassFile.FieldType) ∈ TW := tw_t 1698 (by decide +kernel) rfl
theorem tw1699 : Jvm.Cond.methodLink "DotRunsModel" (368 : Nat) ({ cls := "DotRunsModel", name := "prints", desc := "(I)V" } : Jvm.MethodName) ∈ TW := tw_t 1699 (by decide +kernel) rfl
theorem tw1701 : Jvm.Cond.instanceMethod ({ cls := "DotRunsModel", name := "prints", desc := "(I)V" } : Jvm.MethodName) ∈ TW := tw_t 1701 (by decide +kernel) rfl
theorem tw1702 : Jvm.Cond.code ({ cls := "DotRunsModel", name := "prints", desc := "(I)V" } : Jvm.MethodName) prog_10_method_106_code (2 : Nat) (Option.none : Option Jvm.ClassFile.FieldType) ∈ TW := tw_t 1702 (by decide +kernel) rfl
theorem tw1703 : Jvm.Cond.methodLink "DotRunsModel" (371 : Nat) ({ cls := "DotRunsModel", name := "printsNumber", desc := "(I)V" } : Jvm.MethodName) ∈ TW := tw_t 1703 (by decide +kernel) rfl
theorem tw1705 : Jvm.Cond.instanceMethod ({ cls := "DotRunsModel", name := "printsNumber", desc := "(I)V" } : Jvm.MethodName) ∈ TW := tw_t 1705 (by decide +kernel) rfl
theorem tw1706 : Jvm.Cond.code ({ cls := "DotRunsModel", name := "printsNumber", desc := "(I)V" } : Jvm.MethodName) prog_10_method_108_code (3 : Nat) (Option.none : Option Jvm.ClassFile.FieldType) ∈ TW := tw_t 1706 (by decide +kernel) rfl
theorem tw1707 : Jvm.Cond.methodLink "DotRunsModel" (377 : Nat) ({ cls := "DotRunsModel", name := "printsMode", desc := "(I)V" } : Jvm.MethodName) ∈ TW := tw_t 1707 (by decide +kernel) rfl
theorem tw1709 : Jvm.Cond.instanceMethod ({ cls := "DotRunsModel", name := "printsMode", desc := "(I)V" } : Jvm.MethodName) ∈ TW := tw_t 1709 (by decide +kernel) rfl
theorem tw1710 : Jvm.Cond.code ({ cls := "DotRunsModel", name := "printsMode", desc := "(I)V" } : Jvm.MethodName) prog_10_method_109_code (2 : Nat) (Option.none : Option Jvm.ClassFile.FieldType) ∈ TW := tw_t 1710 (by decide +kernel) rfl
theorem tw1732 : Jvm.Cond.fieldLink "java/lang/String" (9 : Nat) "java/lang/String" "value" "[B" ∈ TW := tw_t 1732 (by decide +kernel) rfl
theorem tw1733 : Jvm.Cond.fieldLink "java/lang/String" (15 : Nat) "java/lang/String" "coder" "B" ∈ TW := tw_t 1733 (by decide +kernel) rfl
