/-! words of the law; a pool in another order -/
theorem tw37 : Jvm.Cond.classLink "DotRunsLaw" (94 : Nat) "DotRuns" ∈ TW := tw_t 37 (by decide +kernel) rfl
theorem tw38 : Jvm.Cond.instantiable "DotRuns" (8 : Nat) ∈ TW := tw_t 38 (by decide +kernel) rfl
theorem tw39 : Jvm.Cond.methodLink "DotRunsLaw" (256 : Nat) ({ cls := "DotRuns", name := "<init>", desc := "()V" } : Jvm.MethodName) ∈ TW := tw_t 39 (by decide +kernel) rfl
theorem tw40 : Jvm.Cond.instanceMethod ({ cls := "DotRuns", name := "<init>", desc := "()V" } : Jvm.MethodName) ∈ TW := tw_t 40 (by decide +kernel) rfl
theorem tw41 : Jvm.Cond.code ({ cls := "DotRuns", name := "<init>", desc := "()V" } : Jvm.MethodName) prog_1_method_1_code (1 : Nat) (Option.none : Option Jvm.ClassFile.FieldType) ∈ TW := tw_t 41 (by decide +kernel) rfl
theorem tw320 : Jvm.Cond.methodLink "DotRunsLaw" (289 : Nat) ({ cls := "DotRuns", name := "load", desc := "()I" } : Jvm.MethodName) ∈ TW := tw_t 320 (by decide +kernel) rfl
theorem tw321 : Jvm.Cond.instanceMethod ({ cls := "DotRuns", name := "load", desc := "()I" } : Jvm.MethodName) ∈ TW := tw_t 321 (by decide +kernel) rfl
theorem tw322 : Jvm.Cond.selects "DotRuns" ({ cls := "DotRuns", name := "load", desc := "()I" } : Jvm.MethodName) ({ cls := "DotRuns", name := "load", desc := "()I" } : Jvm.MethodName) ∈ TW := tw_t 322 (by decide +kernel) rfl
theorem tw323 : Jvm.Cond.code ({ cls := "DotRuns", name := "load", desc := "()I" } : Jvm.MethodName) prog_1_method_4_code (2 : Nat) (Option.some Jvm.ClassFile.FieldType.int) ∈ TW := tw_t 323 (by decide +kernel) rfl
theorem tw565 : Jvm.Cond.methodLink "DotRunsLaw" (292 : Nat) ({ cls := "DotRuns", name := "errorCode", desc := "()I" } : Jvm.MethodName) ∈ TW := tw_t 565 (by decide +kernel) rfl
theorem tw566 : Jvm.Cond.instanceMethod ({ cls := "DotRuns", name := "errorCode", desc := "()I" } : Jvm.MethodName) ∈ TW := tw_t 566 (by decide +kernel) rfl
theorem tw567 : Jvm.Cond.selects "DotRuns" ({ cls := "DotRuns", name := "errorCode", desc := "()I" } : Jvm.MethodName) ({ cls := "DotRuns", name := "errorCode", desc := "()I" } : Jvm.MethodName) ∈ TW := tw_t 567 (by decide +kernel) rfl
theorem tw568 : Jvm.Cond.code ({ cls := "DotRuns", name := "errorCode", desc := "()I" } : Jvm.MethodName) prog_1_method_5_code (1 : Nat) (Option.some Jvm.ClassFile.FieldType.int) ∈ TW := tw_t 568 (by decide +kernel) rfl
theorem tw569 : Jvm.Cond.methodLink "DotRunsLaw" (312 : Nat) ({ cls := "DotRuns", name := "paint", desc := "(IIII)I" } : Jvm.MethodName) ∈ TW := tw_t 569 (by decide +kernel) rfl
theorem tw570 : Jvm.Cond.instanceMethod ({ cls := "DotRuns", name := "paint", desc := "(IIII)I" } : Jvm.MethodName) ∈ TW := tw_t 570 (by decide +kernel) rfl
theorem tw571 : Jvm.Cond.selects "DotRuns" ({ cls := "DotRuns", name := "paint", desc := "(IIII)I" } : Jvm.MethodName) ({ cls := "DotRuns", name := "paint", desc := "(IIII)I" } : Jvm.MethodName) ∈ TW := tw_t 571 (by decide +kernel) rfl
theorem tw572 : Jvm.Cond.code ({ cls := "DotRuns", name := "paint", desc := "(IIII)I" } : Jvm.MethodName) prog_1_method_19_code (9 : Nat) (Option.some Jvm.ClassFile.FieldType.int) ∈ TW := tw_t 572 (by decide +kernel) rfl
theorem tw679 : Jvm.Cond.methodLink "DotRunsLaw" (306 : Nat) ({ cls := "DotRuns", name := "shift", desc := "(II)I" } : Jvm.MethodName) ∈ TW := tw_t 679 (by decide +kernel) rfl
theorem tw680 : Jvm.Cond.instanceMethod ({ cls := "DotRuns", name := "shift", desc := "(II)I" } : Jvm.MethodName) ∈ TW := tw_t 680 (by decide +kernel) rfl
theorem tw681 : Jvm.Cond.selects "DotRuns" ({ cls := "DotRuns", name := "shift", desc := "(II)I" } : Jvm.MethodName) ({ cls := "DotRuns", name := "shift", desc := "(II)I" } : Jvm.MethodName) ∈ TW := tw_t 681 (by decide +kernel) rfl
theorem tw682 : Jvm.Cond.code ({ cls := "DotRuns", name := "shift", desc := "(II)I" } : Jvm.MethodName) prog_1_method_20_code (5 : Nat) (Option.some Jvm.ClassFile.FieldType.int) ∈ TW := tw_t 682 (by decide +kernel) rfl
theorem tw684 : Jvm.Cond.methodLink "DotRunsLaw" (322 : Nat) ({ cls := "DotRuns", name := "copyLine", desc := "(II)I" } : Jvm.MethodName) ∈ TW := tw_t 684 (by decide +kernel) rfl
theorem tw685 : Jvm.Cond.instanceMethod ({ cls := "DotRuns", name := "copyLine", desc := "(II)I" } : Jvm.MethodName) ∈ TW := tw_t 685 (by decide +kernel) rfl
theorem tw686 : Jvm.Cond.selects "DotRuns" ({ cls := "DotRuns", name := "copyLine", desc := "(II)I" } : Jvm.MethodName) ({ cls := "DotRuns", name := "copyLine", desc := "(II)I" } : Jvm.MethodName) ∈ TW := tw_t 686 (by decide +kernel) rfl
theorem tw687 : Jvm.Cond.code ({ cls := "DotRuns", name := "copyLine", desc := "(II)I" } : Jvm.MethodName) prog_1_method_21_code (3 : Nat) (Option.some Jvm.ClassFile.FieldType.int) ∈ TW := tw_t 687 (by decide +kernel) rfl
theorem tw710 : Jvm.Cond.methodLink "DotRunsLaw" (328 : Nat) ({ cls := "DotRuns", name := "removeLine", desc := "(I)I" } : Jvm.MethodName) ∈ TW := tw_t 710 (by decide +kernel) rfl
theorem tw711 : Jvm.Cond.instanceMethod ({ cls := "DotRuns", name := "removeLine", desc := "(I)I" } : Jvm.MethodName) ∈ TW := tw_t 711 (by decide +kernel) rfl
theorem tw712 : Jvm.Cond.selects "DotRuns" ({ cls := "DotRuns", name := "removeLine", desc := "(I)I" } : Jvm.MethodName) ({ cls := "DotRuns", name := "removeLine", desc := "(I)I" } : Jvm.MethodName) ∈ TW := tw_t 712 (by decide +kernel) rfl
theorem tw713 : Jvm.Cond.code ({ cls := "DotRuns", name := "removeLine", desc := "(I)I" } : Jvm.MethodName) prog_1_method_22_code (2 : Nat) (Option.some Jvm.ClassFile.FieldType.int) ∈ TW := tw_t 713 (by decide +kernel) rfl
theorem tw718 : Jvm.Cond.methodLink "DotRunsLaw" (331 : Nat) ({ cls := "DotRuns", name := "invert", desc := "(I)I" } : Jvm.MethodName) ∈ TW := tw_t 718 (by decide +kernel) rfl
theorem tw719 : Jvm.Cond.instanceMethod ({ cls := "DotRuns", name := "invert", desc := "(I)I" } : Jvm.MethodName) ∈ TW := tw_t 719 (by decide +kernel) rfl
theorem tw720 : Jvm.Cond.selects "DotRuns" ({ cls := "DotRuns", name := "invert", desc := "(I)I" } : Jvm.MethodName) ({ cls := "DotRuns", name := "invert", desc := "(I)I" } : Jvm.MethodName) ∈ TW := tw_t 720 (by decide +kernel) rfl
theorem tw721 : Jvm.Cond.code ({ cls := "DotRuns", name := "invert", desc := "(I)I" } : Jvm.MethodName) prog_1_method_23_code (2 : Nat) (Option.some Jvm.ClassFile.FieldType.int) ∈ TW := tw_t 721 (by decide +kernel) rfl
theorem tw722 : Jvm.Cond.methodLink "DotRunsLaw" (334 : Nat) ({ cls := "DotRuns", name := "swap", desc := "(II)I" } : Jvm.MethodName) ∈ TW := tw_t 722 (by decide +kernel) rfl
theorem tw723 : Jvm.Cond.instanceMethod ({ cls := "DotRuns", name := "swap", desc := "(II)I" } : Jvm.MethodName) ∈ TW := tw_t 723 (by decide +kernel) rfl
theorem tw724 : Jvm.Cond.selects "DotRuns" ({ cls := "DotRuns", name := "swap", desc := "(II)I" } : Jvm.MethodName) ({ cls := "DotRuns", name := "swap", desc := "(II)I" } : Jvm.MethodName) ∈ TW := tw_t 724 (by decide +kernel) rfl
theorem tw725 : Jvm.Cond.code ({ cls := "DotRuns", name := "swap", desc := "(II)I" } : Jvm.MethodName) prog_1_method_24_code (7 : Nat) (Option.some Jvm.ClassFile.FieldType.int) ∈ TW := tw_t 725 (by decide +kernel) rfl
theorem tw726 : Jvm.Cond.methodLink "DotRunsLaw" (337 : Nat) ({ cls := "DotRuns", name := "undo", desc := "()I" } : Jvm.MethodName) ∈ TW := tw_t 726 (by decide +kernel) rfl
theorem tw727 : Jvm.Cond.instanceMethod ({ cls := "DotRuns", name := "undo", desc := "()I" } : Jvm.MethodName) ∈ TW := tw_t 727 (by decide +kernel) rfl
theorem tw728 : Jvm.Cond.selects "DotRuns" ({ cls := "DotRuns", name := "undo", desc := "()I" } : Jvm.MethodName) ({ cls := "DotRuns", name := "undo", desc := "()I" } : Jvm.MethodName) ∈ TW := tw_t 728 (by decide +kernel) rfl
theorem tw729 : Jvm.Cond.code ({ cls := "DotRuns", name := "undo", desc := "()I" } : Jvm.MethodName) prog_1_method_37_code (1 : Nat) (Option.some Jvm.ClassFile.FieldType.int) ∈ TW := tw_t 729 (by decide +kernel) rfl
theorem tw734 : Jvm.Cond.classLink "DotRunsLaw" (85 : Nat) "DotRunsLaw$Page" ∈ TW := tw_t 734 (by decide +kernel) rfl
theorem tw951 : Jvm.Cond.classLink "DotRunsLaw" (212 : Nat) "DotRunsLaw$Told" ∈ TW := tw_t 951 (by decide +kernel) rfl
theorem tw952 : Jvm.Cond.instantiable "DotRunsLaw$Told" (2 : Nat) ∈ TW := tw_t 952 (by decide +kernel) rfl
theorem tw953 : Jvm.Cond.methodLink "DotRunsLaw" (253 : Nat) ({ cls := "DotRunsLaw$Told", name := "<init>", desc := "([I)V" } : Jvm.MethodName) ∈ TW := tw_t 953 (by decide +kernel) rfl
theorem tw954 : Jvm.Cond.instanceMethod ({ cls := "DotRunsLaw$Told", name := "<init>", desc := "([I)V" } : Jvm.MethodName) ∈ TW := tw_t 954 (by decide +kernel) rfl
theorem tw955 : Jvm.Cond.code ({ cls := "DotRunsLaw$Told", name := "<init>", desc := "([I)V" } : Jvm.MethodName) prog_12_method_1_code (2 : Nat) (Option.none : Option Jvm.ClassFile.FieldType) ∈ TW := tw_t 955 (by decide +kernel) rfl
theorem tw972 : Jvm.Cond.methodLink "DotRunsLaw" (295 : Nat) ({ cls := "DotRunsLaw", name := "isLike", desc := "(LDotRuns;LDotRunsLaw$Page;)Z" } : Jvm.MethodName) ∈ TW := tw_t 972 (by decide +kernel) rfl
theorem tw973 : Jvm.Cond.static ({ cls := "DotRunsLaw", name := "isLike", desc := "(LDotRuns;LDotRunsLaw$Page;)Z" } : Jvm.MethodName) ∈ TW := tw_t 973 (by decide +kernel) rfl
theorem tw974 : Jvm.Cond.code ({ cls := "DotRunsLaw", name := "isLike", desc := "(LDotRuns;LDotRunsLaw$Page;)Z" } : Jvm.MethodName) method_12_code (8 : Nat) (Option.some Jvm.ClassFile.FieldType.boolean) ∈ TW := tw_t 974 (by decide +kernel) rfl
theorem tw1231 : Jvm.Cond.methodLink "DotRunsLaw" (299 : Nat) ({ cls := "DotRunsLaw", name := "isSent", desc := "(LDotRuns;LDotRunsLaw$Page;)Z" } : Jvm.MethodName) ∈ TW := tw_t 1231 (by decide +kernel) rfl
theorem tw1232 : Jvm.Cond.static ({ cls := "DotRunsLaw", name := "isSent", desc := "(LDotRuns;LDotRunsLaw$Page;)Z" } : Jvm.MethodName) ∈ TW := tw_t 1232 (by decide +kernel) rfl
theorem tw1233 : Jvm.Cond.code ({ cls := "DotRunsLaw", name := "isSent", desc := "(LDotRuns;LDotRunsLaw$Page;)Z" } : Jvm.MethodName) method_13_code (8 : Nat) (Option.some Jvm.ClassFile.FieldType.boolean) ∈ TW := tw_t 1233 (by decide +kernel) rfl
theorem tw1323 : Jvm.Cond.methodLink "DotRunsLaw" (302 : Nat) ({ cls := "DotRunsLaw", name := "isTold", desc := "(LDotRuns;LDotRunsLaw$Page;LDotRunsLaw$Told;)Z" } : Jvm.MethodName) ∈ TW := tw_t 1323 (by decide +kernel) rfl
theorem tw1324 : Jvm.Cond.static ({ cls := "DotRunsLaw", name := "isTold", desc := "(LDotRuns;LDotRunsLaw$Page;LDotRunsLaw$Told;)Z" } : Jvm.MethodName) ∈ TW := tw_t 1324 (by decide +kernel) rfl
theorem tw1325 : Jvm.Cond.code ({ cls := "DotRunsLaw", name := "isTold", desc := "(LDotRuns;LDotRunsLaw$Page;LDotRunsLaw$Told;)Z" } : Jvm.MethodName) method_14_code (14 : Nat) (Option.some Jvm.ClassFile.FieldType.boolean) ∈ TW := tw_t 1325 (by decide +kernel) rfl
theorem tw1356 : Jvm.Cond.methodLink "DotRunsLaw" (277 : Nat) ({ cls := "DotRunsLaw", name := "told", desc := "([Z)Ljava/lang/String;" } : Jvm.MethodName) ∈ TW := tw_t 1356 (by decide +kernel) rfl
theorem tw1357 : Jvm.Cond.static ({ cls := "DotRunsLaw", name := "told", desc := "([Z)Ljava/lang/String;" } : Jvm.MethodName) ∈ TW := tw_t 1357 (by decide +kernel) rfl
theorem tw1358 : Jvm.Cond.code ({ cls := "DotRunsLaw", name := "told", desc := "([Z)Ljava/lang/String;" } : Jvm.MethodName) method_15_code (6 : Nat) (Option.some (Jvm.ClassFile.FieldType.object "java/lang/String")) ∈ TW := tw_t 1358 (by decide +kernel) rfl
theorem tw1504 : Jvm.Cond.methodLink "DotRunsLaw" (285 : Nat) ({ cls := "DotRunsLaw", name := "feed", desc := "(LDotRuns;Ljava/lang/String;)V" } : Jvm.MethodName) ∈ TW := tw_t 1504 (by decide +kernel) rfl
theorem tw1505 : Jvm.Cond.static ({ cls := "DotRunsLaw", name := "feed", desc := "(LDotRuns;Ljava/lang/String;)V" } : Jvm.MethodName) ∈ TW := tw_t 1505 (by decide +kernel) rfl
theorem tw1506 : Jvm.Cond.code ({ cls := "DotRunsLaw", name := "feed", desc := "(LDotRuns;Ljava/lang/String;)V" } : Jvm.MethodName) method_16_code (6 : Nat) (Option.none : Option Jvm.ClassFile.FieldType) ∈ TW := tw_t 1506 (by decide +kernel) rfl
theorem tw1523 : Jvm.Cond.methodLink "DotRunsLaw" (271 : Nat) ({ cls := "DotRunsLaw", name := "drawnRow", desc := "(LDotRunsLaw$Told;[Z)[Z" } : Jvm.MethodName) ∈ TW := tw_t 1523 (by decide +kernel) rfl
theorem tw1524 : Jvm.Cond.static ({ cls := "DotRunsLaw", name := "drawnRow", desc := "(LDotRunsLaw$Told;[Z)[Z" } : Jvm.MethodName) ∈ TW := tw_t 1524 (by decide +kernel) rfl
theorem tw1525 : Jvm.Cond.code ({ cls := "DotRunsLaw", name := "drawnRow", desc := "(LDotRunsLaw$Told;[Z)[Z" } : Jvm.MethodName) method_17_code (8 : Nat) (Option.some (Jvm.ClassFile.FieldType.array Jvm.ClassFile.FieldType.boolean)) ∈ TW := tw_t 1525 (by decide +kernel) rfl
theorem tw1527 : Jvm.Cond.methodLink "DotRunsLaw" (268 : Nat) ({ cls := "java/lang/StringBuilder", name := "<init>", desc := "(Ljava/lang/String;)V" } : Jvm.MethodName) ∈ TW := tw_t 1527 (by decide +kernel) rfl
theorem tw1528 : Jvm.Cond.instanceMethod ({ cls := "java/lang/StringBuilder", name := "<init>", desc := "(Ljava/lang/String;)V" } : Jvm.MethodName) ∈ TW := tw_t 1528 (by decide +kernel) rfl
theorem tw1529 : Jvm.Cond.code ({ cls := "java/lang/StringBuilder", name := "<init>", desc := "(Ljava/lang/String;)V" } : Jvm.MethodName) prog_32_method_3_code (2 : Nat) (Option.none : Option Jvm.ClassFile.FieldType) ∈ TW := tw_t 1529 (by decide +kernel) rfl
theorem tw1578 : Jvm.Cond.methodLink "DotRunsLaw" (260 : Nat) ({ cls := "java/lang/StringBuilder", name := "append", desc := "(Ljava/lang/String;)Ljava/lang/StringBuilder;" } : Jvm.MethodName) ∈ TW := tw_t 1578 (by decide +kernel) rfl
theorem tw1579 : Jvm.Cond.methodLink "DotRunsLaw" (263 : Nat) ({ cls := "java/lang/StringBuilder", name := "append", desc := "(I)Ljava/lang/StringBuilder;" } : Jvm.MethodName) ∈ TW := tw_t 1579 (by decide +kernel) rfl
theorem tw1580 : Jvm.Cond.instanceMethod ({ cls := "java/lang/StringBuilder", name := "append", desc := "(I)Ljava/lang/StringBuilder;" } : Jvm.MethodName) ∈ TW := tw_t 1580 (by decide +kernel) rfl
theorem tw1581 : Jvm.Cond.selects "java/lang/StringBuilder" ({ cls := "java/lang/StringBuilder", name := "append", desc := "(I)Ljava/lang/StringBuilder;" } : Jvm.MethodName) ({ cls := "java/lang/StringBuilder", name := "append", desc := "(I)Ljava/lang/StringBuilder;" } : Jvm.MethodName) ∈ TW := tw_t 1581 (by decide +kernel) rfl
theorem tw1582 : Jvm.Cond.code ({ cls := "java/lang/StringBuilder", name := "append", desc := "(I)Ljava/lang/StringBuilder;" } : Jvm.MethodName) prog_32_method_15_code (2 : Nat) (Option.some (Jvm.ClassFile.FieldType.object "java/lang/StringBuilder")) ∈ TW := tw_t 1582 (by decide +kernel) rfl
theorem tw1604 : Jvm.Cond.methodLink "DotRunsLaw" (309 : Nat) ({ cls := "java/util/ArrayList", name := "set", desc := "(ILjava/lang/Object;)Ljava/lang/Object;" } : Jvm.MethodName) ∈ TW := tw_t 1604 (by decide +kernel) rfl
theorem tw1605 : Jvm.Cond.methodLink "DotRunsLaw" (319 : Nat) ({ cls := "java/util/ArrayList", name := "add", desc := "(ILjava/lang/Object;)V" } : Jvm.MethodName) ∈ TW := tw_t 1605 (by decide +kernel) rfl
theorem tw1606 : Jvm.Cond.instanceMethod ({ cls := "java/util/ArrayList", name := "add", desc := "(ILjava/lang/Object;)V" } : Jvm.MethodName) ∈ TW := tw_t 1606 (by decide +kernel) rfl
theorem tw1607 : Jvm.Cond.selects "java/util/ArrayList" ({ cls := "java/util/ArrayList", name := "add", desc := "(ILjava/lang/Object;)V" } : Jvm.MethodName) ({ cls := "java/util/ArrayList", name := "add", desc := "(ILjava/lang/Object;)V" } : Jvm.MethodName) ∈ TW := tw_t 1607 (by decide +kernel) rfl
theorem tw1608 : Jvm.Cond.code ({ cls := "java/util/ArrayList", name := "add", desc := "(ILjava/lang/Object;)V" } : Jvm.MethodName) prog_41_method_26_code (5 : Nat) (Option.none : Option Jvm.ClassFile.FieldType) ∈ TW := tw_t 1608 (by decide +kernel) rfl
theorem tw1614 : Jvm.Cond.methodLink "DotRunsLaw" (325 : Nat) ({ cls := "java/util/ArrayList", name := "remove", desc := "(I)Ljava/lang/Object;" } : Jvm.MethodName) ∈ TW := tw_t 1614 (by decide +kernel) rfl
theorem tw1615 : Jvm.Cond.instanceMethod ({ cls := "java/util/ArrayList", name := "remove", desc := "(I)Ljava/lang/Object;" } : Jvm.MethodName) ∈ TW := tw_t 1615 (by decide +kernel) rfl
theorem tw1616 : Jvm.Cond.selects "java/util/ArrayList" ({ cls := "java/util/ArrayList", name := "remove", desc := "(I)Ljava/lang/Object;" } : Jvm.MethodName) ({ cls := "java/util/ArrayList", name := "remove", desc := "(I)Ljava/lang/Object;" } : Jvm.MethodName) ∈ TW := tw_t 1616 (by decide +kernel) rfl
theorem tw1617 : Jvm.Cond.code ({ cls := "java/util/ArrayList", name := "remove", desc := "(I)Ljava/lang/Object;" } : Jvm.MethodName) prog_41_method_29_code (4 : Nat) (Option.some (Jvm.ClassFile.FieldType.object "java/lang/Object")) ∈ TW := tw_t 1617 (by decide +kernel) rfl
theorem tw1622 : Jvm.Cond.methodLink "DotRunsLaw" (316 : Nat) ({ cls := "[Z", name := "clone", desc := "()Ljava/lang/Object;" } : Jvm.MethodName) ∈ TW := tw_t 1622 (by decide +kernel) rfl
/-! the first object comes behind the class's: handle 0 becomes 38, 1 to 38 become 0 to 37 -/
def ren (h : Nat) : Nat := if h = 0 then 38 else if h < 39 then h - 1 else h
def pinv (h : Nat) : Nat := if h = 38 then 0 else if h < 38 then h + 1 else h
theorem pinv_ren (h : Nat) : pinv (ren h) = h := by
  unfold pinv ren
  by_cases h0 : h = 0
  · subst h0; rfl
  · rw [if_neg h0]
    by_cases h1 : h < 39
    · rw [if_pos h1, if_neg (by omega), if_pos (by omega)]; omega
    · rw [if_neg h1, if_neg (by omega), if_neg (by omega)]
theorem pinv_lt {h : Nat} (q : h < 39) : pinv h < 39 := by
  unfold pinv
  by_cases h0 : h = 38
  · rw [if_pos h0]; omega
  · rw [if_neg h0, if_pos (by omega)]; omega
theorem ren_lt {h : Nat} (q : h < 39) : ren h < 39 := by
  unfold ren
  by_cases h0 : h = 0
  · rw [if_pos h0]; omega
  · rw [if_neg h0, if_pos q]; omega
theorem pinv_ge {h : Nat} (q : 39 ≤ h) : pinv h = h := by unfold pinv; rw [if_neg (by omega), if_neg (by omega)]
theorem ren_ge {h : Nat} (q : 39 ≤ h) : ren h = h := by unfold ren; rw [if_neg (by omega), if_neg (by omega)]
theorem pinv_inj {a b : Nat} (ha : a < 39) (hb : b < 39) (q : pinv a = pinv b) : a = b := by
  unfold pinv at q
  by_cases h0 : a = 38
  · rw [if_pos h0] at q
    by_cases h1 : b = 38
    · omega
    · rw [if_neg h1, if_pos (by omega)] at q; omega
  · rw [if_neg h0, if_pos (by omega)] at q
    by_cases h1 : b = 38
    · rw [if_pos h1] at q; omega
    · rw [if_neg h1, if_pos (by omega)] at q; omega
def perm (M : Mm) : Mm := ((Mn M, (fun h => Mk M (pinv h)), (fun h => Ml M (pinv h)), Mx M), (fun h => Mi M (pinv h)), (fun h => Mj M (pinv h)), fun h k => (Mr M (pinv h) k).map ren)
def prm {α : Type} (F : Mm → Option (α × Mm × Nat × Nat)) : Mm → Option (α × Mm × Nat × Nat) := fun M => if Mn M = 39 then F (perm M) else none
theorem okH_perm {M : Mm} (h39 : Mn M = 39) {κ h : Nat} (o : okH M κ h) : okH (perm M) κ (ren h) := by
  have e1 : EB = SB + 500 := rfl
  have e2 : IB = SB + 1000 := rfl
  have hs : SB = 1000000000 := rfl
  have hn : Mn (perm M) = 39 := h39
  have hk : ∀ x, Mk (perm M) (ren x) = Mk M x := fun x => by show Mk M (pinv (ren x)) = _; rw [pinv_ren]
  rcases o with ⟨a, b, c⟩ | ⟨a, ⟨b, c⟩ | b⟩ | ⟨a, ⟨b, c⟩ | b⟩ | ⟨a, b, c⟩ | ⟨a, b, c⟩ | ⟨a, b, c⟩ | ⟨a, b, c⟩
  · exact Or.inl ⟨a, by rw [hn]; exact ren_lt (by omega), by rw [hk]; exact c⟩
  · exact Or.inr (Or.inl ⟨a, Or.inl ⟨by rw [hn]; exact ren_lt (by omega), by rw [hk]; exact c⟩⟩)
  · rw [ren_ge (by omega)]; exact Or.inr (Or.inl ⟨a, Or.inr b⟩)
  · exact Or.inr (Or.inr (Or.inl ⟨a, Or.inl ⟨by rw [hn]; exact ren_lt (by omega), by rw [hk]; exact c⟩⟩))
  · rw [ren_ge (by omega)]; exact Or.inr (Or.inr (Or.inl ⟨a, Or.inr b⟩))
  · rw [ren_ge (by omega)]; exact Or.inr (Or.inr (Or.inr (Or.inl ⟨a, b, c⟩)))
  · rw [ren_ge (by omega)]; exact Or.inr (Or.inr (Or.inr (Or.inr (Or.inl ⟨a, b, c⟩))))
  · rw [ren_ge (by omega)]; exact Or.inr (Or.inr (Or.inr (Or.inr (Or.inr (Or.inl ⟨a, b, c⟩)))))
  · rw [ren_ge (by omega)]; exact Or.inr (Or.inr (Or.inr (Or.inr (Or.inr (Or.inr ⟨a, b, c⟩)))))
theorem ce_perm (g : Nat → ClassId) (ad : Nat → Nat) (M : Mm) (h : Nat) : ce g (fun x => ad (pinv x)) (perm M) h = ce g ad M (pinv h) := by
  have e0 : ∀ k, (Mr (perm M) h k).map (fun x => ad (pinv x)) = (Mr M (pinv h) k).map ad := by
    intro k
    show ((Mr M (pinv h) k).map ren).map (fun x => ad (pinv x)) = _
    cases Mr M (pinv h) k with
    | none => rfl
    | some r => show some (ad (pinv (ren r))) = some (ad r); rw [pinv_ren]
  have ek : Mk (perm M) h = Mk M (pinv h) := rfl
  have el : Ml (perm M) h = Ml M (pinv h) := rfl
  have ei : Mi (perm M) h = Mi M (pinv h) := rfl
  have ej : Mj (perm M) h = Mj M (pinv h) := rfl
  have e1 : fl (fun x => ad (pinv x)) (perm M) h = fl ad M (pinv h) := by
    unfold fl
    rw [ek]
    apply List.map_congr_left
    intro k _
    unfold sv
    rw [ek, ei, ej, e0]
  unfold ce
  rw [ek, e1, el, ei, ej]
  simp only [e0]
theorem N_perm {α : Type} {κ : Cx} {fin : α → Mm → Prop} {F : Mm → Option (α × Mm × Nat × Nat)} {h1 h2 : Nat} {l' l : List (Option TV)} (h0 : Mn κ.2.2.1 = 0) (hl' : l' = [none, some ((55, .ref 38) : TV), some ((7, .ref 0) : TV), none, none, none, none, none, none, none, none, none, none, none, none]) (hl : l = [none, some ((55, .ref h1) : TV), some ((7, .ref h2) : TV), none, none, none, none, none, none, none, none, none, none, none, none]) (kk : Jw κ (wM κ) 15 fin 17 l' [] F) : Jw κ (wM κ) 15 fin 17 l [] (wgrd ((h1 == 0) && (h2 == 1)) <| prm F) := by
  subst hl' hl
  obtain ⟨⟨p, l9, e, R, s, m, args, below, meth, c⟩, ⟨D, g, A, Q⟩, M0, ad0⟩ := κ
  intro M ad H locs ls a M' kc ks cs ss hF hfin hcc hss hW hl hst
  obtain ⟨hh, hG⟩ := wgrd_some hF
  rw [Bool.and_eq_true] at hh
  have e1 : h1 = 0 := eq_of_beq hh.1
  have e2 : h2 = 1 := eq_of_beq hh.2
  subst e1 e2
  unfold prm at hG
  split at hG
  case isFalse => cases hG
  case isTrue h39 =>
  obtain ⟨hP, hD, hS, hM, hn, hC, hex, hea⟩ := id hW
  have hs : SB = 1000000000 := rfl
  have hadS : ∀ x, SB ≤ x → ad (pinv x) = ad x := fun x hx => by rw [pinv_ge (by omega)]
  have hget : ∀ (k : Nat) (q : Nat × va_E), (wl g (fun x => ad (pinv x)) (perm M))[k]? = some q → k < 39 ∧ (wl g ad M)[pinv k]? = some q := by
    intro k q hq
    have hk : k < 39 := by
      have : k < (wl g (fun x => ad (pinv x)) (perm M)).length := (List.getElem?_eq_some_iff.mp hq).1
      have e9 : (wl g (fun x => ad (pinv x)) (perm M)).length = 39 := by
        unfold wl
        rw [List.length_map, List.length_range]
        exact h39
      omega
    refine ⟨hk, ?_⟩
    have q1 := wl_get g (fun x => ad (pinv x)) (M := perm M) (h := k) (show k < Mn (perm M) from by show k < Mn M; omega)
    rw [hq] at q1
    rw [wl_get g ad (M := M) (h := pinv k) (by have := pinv_lt hk; omega), q1, ce_perm]
  refine kk (perm M) (fun x => ad (pinv x)) H locs ls a M' kc ks cs ss hG hfin hcc hss ⟨fun k q hq => hP _ _ (hget k q hq).2, ⟨fun i j p9 q hi hj e => ?_, fun k q hq => hD.2 _ _ (hget k q hq).2⟩, hS, ⟨fun h k r hh hr => ?_, ?_⟩, hn, hC.go (State.WarmedH.refl s) (fun _ _ _ => rfl) (fun _ z => z) hadS, ⟨by rw [show Mn M0 = 0 from h0]; exact Nat.zero_le _, fun h hh => by rw [show Mn M0 = 0 from h0] at hh; exact absurd hh (Nat.not_lt_zero _), hex.2.2⟩, fun h hh => ?_⟩ ⟨hl.1, fun i v hi => ?_⟩ (fun q hq => by cases hq)
  · obtain ⟨i1, i2⟩ := hget i _ hi
    obtain ⟨j1, j2⟩ := hget j _ hj
    exact pinv_inj i1 j1 (hD.1 _ _ _ _ i2 j2 e)
  · have hr2 : (Mr M (pinv h) k).map ren = some r := hr
    cases hq : Mr M (pinv h) k with
    | none => rw [hq] at hr2; cases hr2
    | some r0 =>
      rw [hq] at hr2
      cases hr2
      have hlt : pinv h < Mn M := by rw [h39]; exact pinv_lt (by have : h < Mn M := hh; omega)
      exact okH_perm h39 (hM.1 (pinv h) k r0 hlt hq)
  · show Ml M (pinv EB) = 0
    rw [pinv_ge (show 39 ≤ EB from by unfold EB; omega)]
    exact hM.2
  · rcases hh with hh | hh
    · rw [show Mn M0 = 0 from h0] at hh; exact absurd hh (Nat.not_lt_zero _)
    · exact (hadS h hh).trans (hea h (Or.inr hh))
  · have g1 := hl.2 1 (55, .ref 0) rfl
    have g2 := hl.2 2 (7, .ref 1) rfl
    have i3 : i = 1 ∨ i = 2 := by
      match i, hi with
      | 0, hi => cases hi
      | 1, _ => exact Or.inl rfl
      | 2, _ => exact Or.inr rfl
      | 3, hi => cases hi
      | 4, hi => cases hi
      | 5, hi => cases hi
      | 6, hi => cases hi
      | 7, hi => cases hi
      | 8, hi => cases hi
      | 9, hi => cases hi
      | 10, hi => cases hi
      | 11, hi => cases hi
      | 12, hi => cases hi
      | 13, hi => cases hi
      | 14, hi => cases hi
      | n + 15, hi => cases hi
    rcases i3 with rfl | rfl
    · cases hi
      refine ⟨g1.1, fun z hz => ?_⟩
      cases hz
      exact okH_perm h39 (g1.2 _ rfl)
    · cases hi
      refine ⟨g2.1, fun z hz => ?_⟩
      cases hz
      exact okH_perm h39 (g2.2 _ rfl)
