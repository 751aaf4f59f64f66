theorem twp21 : Cond.selects "java/util/ArrayList" ⟨"java/util/ArrayList", "add", "(Ljava/lang/Object;[Ljava/lang/Object;I)V"⟩ ⟨"java/util/ArrayList", "add", "(Ljava/lang/Object;[Ljava/lang/Object;I)V"⟩ ∈ TW := tw_p 21 (by decide +kernel) rfl
theorem twp22 : Cond.selects "java/util/ArrayList" ⟨"java/util/ArrayList", "grow", "()[Ljava/lang/Object;"⟩ ⟨"java/util/ArrayList", "grow", "()[Ljava/lang/Object;"⟩ ∈ TW := tw_p 22 (by decide +kernel) rfl
theorem twp23 : Cond.selects "java/util/ArrayList" ⟨"java/util/ArrayList", "grow", "(I)[Ljava/lang/Object;"⟩ ⟨"java/util/ArrayList", "grow", "(I)[Ljava/lang/Object;"⟩ ∈ TW := tw_p 23 (by decide +kernel) rfl
theorem twp41 : Cond.selects "java/util/ArrayList" ⟨"java/util/ArrayList", "rangeCheckForAdd", "(I)V"⟩ ⟨"java/util/ArrayList", "rangeCheckForAdd", "(I)V"⟩ ∈ TW := tw_p 41 (by decide +kernel) rfl
theorem twp42 : Cond.selects "java/util/ArrayList" ⟨"java/util/ArrayList", "fastRemove", "([Ljava/lang/Object;I)V"⟩ ⟨"java/util/ArrayList", "fastRemove", "([Ljava/lang/Object;I)V"⟩ ∈ TW := tw_p 42 (by decide +kernel) rfl
theorem tw0 : Jvm.Cond.initialized "DotRunsLaw" ∈ TW := tw_t 0 (by decide +kernel) rfl
theorem tw1 : Jvm.Cond.initialized "DotRunsLaw$Told" ∈ TW := tw_t 1 (by decide +kernel) rfl
theorem tw10 : Jvm.Cond.initialized "DotRunsLaw$Page" ∈ TW := tw_t 10 (by decide +kernel) rfl
theorem tw11 : Jvm.Cond.initialized "java/util/AbstractCollection" ∈ TW := tw_t 11 (by decide +kernel) rfl
theorem tw12 : Jvm.Cond.initialized "java/util/AbstractList" ∈ TW := tw_t 12 (by decide +kernel) rfl
theorem tw13 : Jvm.Cond.initialized "java/util/ArrayList" ∈ TW := tw_t 13 (by decide +kernel) rfl
theorem tw14 : Jvm.Cond.initialized "java/lang/AbstractStringBuilder" ∈ TW := tw_t 14 (by decide +kernel) rfl
theorem tw15 : Jvm.Cond.initialized "java/lang/StringBuilder" ∈ TW := tw_t 15 (by decide +kernel) rfl
theorem tw18 : Jvm.Cond.initialized "jdk/internal/util/ArraysSupport" ∈ TW := tw_t 18 (by decide +kernel) rfl
theorem tw20 : Jvm.Cond.initialized "java/util/Arrays" ∈ TW := tw_t 20 (by decide +kernel) rfl
theorem tw21 : Jvm.Cond.initialized "java/lang/System" ∈ TW := tw_t 21 (by decide +kernel) rfl
theorem tw25 : Jvm.Cond.initialized "java/lang/Integer" ∈ TW := tw_t 25 (by decide +kernel) rfl
theorem tw33 : Jvm.Cond.initialized "java/util/Objects" ∈ TW := tw_t 33 (by decide +kernel) rfl
theorem tw35 : Jvm.Cond.initialized "java/util/ArrayList$Itr" ∈ TW := tw_t 35 (by decide +kernel) rfl
theorem tw36 : Jvm.Cond.initialized "DotRunsLaw$Mode" ∈ TW := tw_t 36 (by decide +kernel) rfl
theorem tw735 : Jvm.Cond.instantiable "DotRunsLaw$Page" (13 : Nat) ∈ TW := tw_t 735 (by decide +kernel) rfl
theorem tw737 : Jvm.Cond.instanceMethod ({ cls := "DotRunsLaw$Page", name := "<init>", desc := "()V" } : Jvm.MethodName) ∈ TW := tw_t 737 (by decide +kernel) rfl
theorem tw738 : Jvm.Cond.code ({ cls := "DotRunsLaw$Page", name := "<init>", desc := "()V" } : Jvm.MethodName) prog_11_method_1_code (1 : Nat) (Option.none : Option Jvm.ClassFile.FieldType) ∈ TW := tw_t 738 (by decide +kernel) rfl
theorem tw739 : Jvm.Cond.methodLink "DotRunsLaw$Page" (1 : Nat) ({ cls := "java/lang/Object", name := "<init>", desc := "()V" } : Jvm.MethodName) ∈ TW := tw_t 739 (by decide +kernel) rfl
theorem tw740 : Jvm.Cond.classLink "DotRunsLaw$Page" (16 : Nat) "java/util/ArrayList" ∈ TW := tw_t 740 (by decide +kernel) rfl
theorem tw741 : Jvm.Cond.instantiable "java/util/ArrayList" (3 : Nat) ∈ TW := tw_t 741 (by decide +kernel) rfl
theorem tw742 : Jvm.Cond.methodLink "DotRunsLaw$Page" (18 : Nat) ({ cls := "java/util/ArrayList", name := "<init>", desc := "()V" } : Jvm.MethodName) ∈ TW := tw_t 742 (by decide +kernel) rfl
theorem tw743 : Jvm.Cond.instanceMethod ({ cls := "java/util/ArrayList", name := "<init>", desc := "()V" } : Jvm.MethodName) ∈ TW := tw_t 743 (by decide +kernel) rfl
theorem tw744 : Jvm.Cond.code ({ cls := "java/util/ArrayList", name := "<init>", desc := "()V" } : Jvm.MethodName) prog_41_method_2_code (1 : Nat) (Option.none : Option Jvm.ClassFile.FieldType) ∈ TW := tw_t 744 (by decide +kernel) rfl
theorem tw745 : Jvm.Cond.methodLink "java/util/ArrayList" (1 : Nat) ({ cls := "java/util/AbstractList", name := "<init>", desc := "()V" } : Jvm.MethodName) ∈ TW := tw_t 745 (by decide +kernel) rfl
theorem tw746 : Jvm.Cond.instanceMethod ({ cls := "java/util/AbstractList", name := "<init>", desc := "()V" } : Jvm.MethodName) ∈ TW := tw_t 746 (by decide +kernel) rfl
theorem tw747 : Jvm.Cond.code ({ cls := "java/util/AbstractList", name := "<init>", desc := "()V" } : Jvm.MethodName) prog_40_method_1_code (1 : Nat) (Option.none : Option Jvm.ClassFile.FieldType) ∈ TW := tw_t 747 (by decide +kernel) rfl
theorem tw748 : Jvm.Cond.methodLink "java/util/AbstractList" (1 : Nat) ({ cls := "java/util/AbstractCollection", name := "<init>", desc := "()V" } : Jvm.MethodName) ∈ TW := tw_t 748 (by decide +kernel) rfl
theorem tw749 : Jvm.Cond.instanceMethod ({ cls := "java/util/AbstractCollection", name := "<init>", desc := "()V" } : Jvm.MethodName) ∈ TW := tw_t 749 (by decide +kernel) rfl
theorem tw750 : Jvm.Cond.code ({ cls := "java/util/AbstractCollection", name := "<init>", desc := "()V" } : Jvm.MethodName) prog_39_method_1_code (1 : Nat) (Option.none : Option Jvm.ClassFile.FieldType) ∈ TW := tw_t 750 (by decide +kernel) rfl
theorem tw751 : Jvm.Cond.methodLink "java/util/AbstractCollection" (1 : Nat) ({ cls := "java/lang/Object", name := "<init>", desc := "()V" } : Jvm.MethodName) ∈ TW := tw_t 751 (by decide +kernel) rfl
theorem tw752 : Jvm.Cond.fieldLink "java/util/ArrayList" (39 : Nat) "java/util/ArrayList" "DEFAULTCAPACITY_EMPTY_ELEMENTDATA" "[Ljava/lang/Object;" ∈ TW := tw_t 752 (by decide +kernel) rfl
theorem tw754 : Jvm.Cond.fieldLink "java/util/ArrayList" (9 : Nat) "java/util/ArrayList" "elementData" "[Ljava/lang/Object;" ∈ TW := tw_t 754 (by decide +kernel) rfl
theorem tw755 : Jvm.Cond.fieldLink "java/util/ArrayList$Itr" (37 : Nat) "java/util/ArrayList" "elementData" "[Ljava/lang/Object;" ∈ TW := tw_t 755 (by decide +kernel) rfl
theorem tw757 : Jvm.Cond.fieldLink "java/util/ArrayList" (48 : Nat) "java/util/ArrayList" "size" "I" ∈ TW := tw_t 757 (by decide +kernel) rfl
theorem tw758 : Jvm.Cond.fieldLink "java/util/AbstractList" (7 : Nat) "java/util/AbstractList" "modCount" "I" ∈ TW := tw_t 758 (by decide +kernel) rfl
theorem tw759 : Jvm.Cond.fieldLink "java/util/ArrayList$Itr" (17 : Nat) "java/util/ArrayList" "modCount" "I" ∈ TW := tw_t 759 (by decide +kernel) rfl
theorem tw760 : Jvm.Cond.sameField "java/util/ArrayList" "java/util/AbstractList" "modCount" "I" ∈ TW := tw_t 760 (by decide +kernel) rfl
theorem tw761 : Jvm.Cond.fieldLink "java/util/ArrayList" (63 : Nat) "java/util/ArrayList" "modCount" "I" ∈ TW := tw_t 761 (by decide +kernel) rfl
theorem tw769 : Jvm.Cond.fieldLink "DotRunsLaw$Page" (24 : Nat) "DotRunsLaw$Page" "wide" "I" ∈ TW := tw_t 769 (by decide +kernel) rfl
theorem tw771 : Jvm.Cond.fieldLink "DotRunsLaw$Page" (7 : Nat) "DotRunsLaw$Page" "set" "[I" ∈ TW := tw_t 771 (by decide +kernel) rfl
theorem tw773 : Jvm.Cond.fieldLink "DotRunsLaw$Page" (13 : Nat) "DotRunsLaw$Page" "loss" "[I" ∈ TW := tw_t 773 (by decide +kernel) rfl
theorem tw775 : Jvm.Cond.fieldLink "DotRunsLaw$Page" (19 : Nat) "DotRunsLaw$Page" "rows" "Ljava/util/ArrayList;" ∈ TW := tw_t 775 (by decide +kernel) rfl
theorem tw777 : Jvm.Cond.fieldLink "DotRunsLaw$Page" (86 : Nat) "DotRunsLaw$Page" "got" "Ljava/util/ArrayList;" ∈ TW := tw_t 777 (by decide +kernel) rfl
theorem tw779 : Jvm.Cond.fieldLink "DotRunsLaw$Page" (97 : Nat) "DotRunsLaw$Page" "states" "[I" ∈ TW := tw_t 779 (by decide +kernel) rfl
theorem tw781 : Jvm.Cond.fieldLink "DotRunsLaw$Page" (100 : Nat) "DotRunsLaw$Page" "times" "[I" ∈ TW := tw_t 781 (by decide +kernel) rfl
theorem tw783 : Jvm.Cond.fieldLink "DotRunsLaw$Page" (103 : Nat) "DotRunsLaw$Page" "cost" "[I" ∈ TW := tw_t 783 (by decide +kernel) rfl
theorem tw785 : Jvm.Cond.fieldLink "DotRunsLaw$Page" (106 : Nat) "DotRunsLaw$Page" "backs" "[I" ∈ TW := tw_t 785 (by decide +kernel) rfl
theorem tw787 : Jvm.Cond.fieldLink "DotRunsLaw$Page" (109 : Nat) "DotRunsLaw$Page" "bits" "I" ∈ TW := tw_t 787 (by decide +kernel) rfl
theorem tw789 : Jvm.Cond.fieldLink "DotRunsLaw$Page" (111 : Nat) "DotRunsLaw$Page" "stepped" "I" ∈ TW := tw_t 789 (by decide +kernel) rfl
theorem tw791 : Jvm.Cond.fieldLink "DotRunsLaw$Page" (114 : Nat) "DotRunsLaw$Page" "lost" "I" ∈ TW := tw_t 791 (by decide +kernel) rfl
theorem tw793 : Jvm.Cond.fieldLink "DotRunsLaw$Page" (117 : Nat) "DotRunsLaw$Page" "unread" "I" ∈ TW := tw_t 793 (by decide +kernel) rfl
theorem tw822 : Jvm.Cond.methodLink "DotRunsLaw" (204 : Nat) ({ cls := "DotRunsLaw$Page", name := "copy", desc := "()LDotRunsLaw$Page;" } : Jvm.MethodName) ∈ TW := tw_t 822 (by decide +kernel) rfl
theorem tw823 : Jvm.Cond.instanceMethod ({ cls := "DotRunsLaw$Page", name := "copy", desc := "()LDotRunsLaw$Page;" } : Jvm.MethodName) ∈ TW := tw_t 823 (by decide +kernel) rfl
theorem tw824 : Jvm.Cond.selects "DotRunsLaw$Page" ({ cls := "DotRunsLaw$Page", name := "copy", desc := "()LDotRunsLaw$Page;" } : Jvm.MethodName) ({ cls := "DotRunsLaw$Page", name := "copy", desc := "()LDotRunsLaw$Page;" } : Jvm.MethodName) ∈ TW := tw_t 824 (by decide +kernel) rfl
theorem tw825 : Jvm.Cond.code ({ cls := "DotRunsLaw$Page", name := "copy", desc := "()LDotRunsLaw$Page;" } : Jvm.MethodName) prog_11_method_2_code (4 : Nat) (Option.some (Jvm.ClassFile.FieldType.object "DotRunsLaw$Page")) ∈ TW := tw_t 825 (by decide +kernel) rfl
theorem tw826 : Jvm.Cond.classLink "DotRunsLaw$Page" (8 : Nat) "DotRunsLaw$Page" ∈ TW := tw_t 826 (by decide +kernel) rfl
theorem tw827 : Jvm.Cond.methodLink "DotRunsLaw$Page" (23 : Nat) ({ cls := "DotRunsLaw$Page", name := "<init>", desc := "()V" } : Jvm.MethodName) ∈ TW := tw_t 827 (by decide +kernel) rfl
theorem tw828 : Jvm.Cond.methodLink "DotRunsLaw$Page" (28 : Nat) ({ cls := "[I", name := "clone", desc := "()Ljava/lang/Object;" } : Jvm.MethodName) ∈ TW := tw_t 828 (by decide +kernel) rfl
theorem tw829 : Jvm.Cond.sameMethod "[I" "java/lang/Object" "clone" "()Ljava/lang/Object;" ∈ TW := tw_t 829 (by decide +kernel) rfl
theorem tw830 : Jvm.Cond.native ({ cls := "java/lang/Object", name := "clone", desc := "()Ljava/lang/Object;" } : Jvm.MethodName) ∈ TW := tw_t 830 (by decide +kernel) rfl
theorem tw831 : Jvm.Cond.instanceMethod ({ cls := "java/lang/Object", name := "clone", desc := "()Ljava/lang/Object;" } : Jvm.MethodName) ∈ TW := tw_t 831 (by decide +kernel) rfl
theorem tw832 : Jvm.Cond.selects "[I" ({ cls := "[I", name := "clone", desc := "()Ljava/lang/Object;" } : Jvm.MethodName) ({ cls := "java/lang/Object", name := "clone", desc := "()Ljava/lang/Object;" } : Jvm.MethodName) ∈ TW := tw_t 832 (by decide +kernel) rfl
theorem tw834 : Jvm.Cond.classLink "DotRunsLaw$Page" (29 : Nat) "[I" ∈ TW := tw_t 834 (by decide +kernel) rfl
theorem tw835 : Jvm.Cond.methodLink "DotRunsLaw$Page" (33 : Nat) ({ cls := "java/util/ArrayList", name := "iterator", desc := "()Ljava/util/Iterator;" } : Jvm.MethodName) ∈ TW := tw_t 835 (by decide +kernel) rfl
theorem tw836 : Jvm.Cond.instanceMethod ({ cls := "java/util/ArrayList", name := "iterator", desc := "()Ljava/util/Iterator;" } : Jvm.MethodName) ∈ TW := tw_t 836 (by decide +kernel) rfl
theorem tw837 : Jvm.Cond.selects "java/util/ArrayList" ({ cls := "java/util/ArrayList", name := "iterator", desc := "()Ljava/util/Iterator;" } : Jvm.MethodName) ({ cls := "java/util/ArrayList", name := "iterator", desc := "()Ljava/util/Iterator;" } : Jvm.MethodName) ∈ TW := tw_t 837 (by decide +kernel) rfl
theorem tw838 : Jvm.Cond.code ({ cls := "java/util/ArrayList", name := "iterator", desc := "()Ljava/util/Iterator;" } : Jvm.MethodName) prog_41_method_55_code (1 : Nat) (Option.some (Jvm.ClassFile.FieldType.object "java/util/Iterator")) ∈ TW := tw_t 838 (by decide +kernel) rfl
theorem tw839 : Jvm.Cond.classLink "java/util/ArrayList" (267 : Nat) "java/util/ArrayList$Itr" ∈ TW := tw_t 839 (by decide +kernel) rfl
theorem tw840 : Jvm.Cond.instantiable "java/util/ArrayList$Itr" (4 : Nat) ∈ TW := tw_t 840 (by decide +kernel) rfl
theorem tw841 : Jvm.Cond.methodLink "java/util/ArrayList" (269 : Nat) ({ cls := "java/util/ArrayList$Itr", name := "<init>", desc := "(Ljava/util/ArrayList;)V" } : Jvm.MethodName) ∈ TW := tw_t 841 (by decide +kernel) rfl
theorem tw842 : Jvm.Cond.instanceMethod ({ cls := "java/util/ArrayList$Itr", name := "<init>", desc := "(Ljava/util/ArrayList;)V" } : Jvm.MethodName) ∈ TW := tw_t 842 (by decide +kernel) rfl
theorem tw843 : Jvm.Cond.code ({ cls := "java/util/ArrayList$Itr", name := "<init>", desc := "(Ljava/util/ArrayList;)V" } : Jvm.MethodName) prog_42_method_1_code (2 : Nat) (Option.none : Option Jvm.ClassFile.FieldType) ∈ TW := tw_t 843 (by decide +kernel) rfl
theorem tw844 : Jvm.Cond.methodLink "java/util/ArrayList$Itr" (7 : Nat) ({ cls := "java/lang/Object", name := "<init>", desc := "()V" } : Jvm.MethodName) ∈ TW := tw_t 844 (by decide +kernel) rfl
theorem tw845 : Jvm.Cond.fieldLink "java/util/ArrayList$Itr" (25 : Nat) "java/util/ArrayList$Itr" "cursor" "I" ∈ TW := tw_t 845 (by decide +kernel) rfl
theorem tw846 : Jvm.Cond.fieldLink "java/util/ArrayList$Itr" (13 : Nat) "java/util/ArrayList$Itr" "lastRet" "I" ∈ TW := tw_t 846 (by decide +kernel) rfl
theorem tw847 : Jvm.Cond.fieldLink "java/util/ArrayList$Itr" (22 : Nat) "java/util/ArrayList$Itr" "expectedModCount" "I" ∈ TW := tw_t 847 (by decide +kernel) rfl
theorem tw848 : Jvm.Cond.fieldLink "java/util/ArrayList$Itr" (1 : Nat) "java/util/ArrayList$Itr" "this$0" "Ljava/util/ArrayList;" ∈ TW := tw_t 848 (by decide +kernel) rfl
theorem tw859 : Jvm.Cond.methodLink "DotRunsLaw$Page" (37 : Nat) ({ cls := "java/util/Iterator", name := "hasNext", desc := "()Z" } : Jvm.MethodName) ∈ TW := tw_t 859 (by decide +kernel) rfl
theorem tw863 : Jvm.Cond.selects "java/util/ArrayList$Itr" ({ cls := "java/util/Iterator", name := "hasNext", desc := "()Z" } : Jvm.MethodName) ({ cls := "java/util/ArrayList$Itr", name := "hasNext", desc := "()Z" } : Jvm.MethodName) ∈ TW := tw_t 863 (by decide +kernel) rfl
theorem tw865 : Jvm.Cond.instanceMethod ({ cls := "java/util/ArrayList$Itr", name := "hasNext", desc := "()Z" } : Jvm.MethodName) ∈ TW := tw_t 865 (by decide +kernel) rfl
theorem tw867 : Jvm.Cond.code ({ cls := "java/util/ArrayList$Itr", name := "hasNext", desc := "()Z" } : Jvm.MethodName) prog_42_method_2_code (1 : Nat) (Option.some Jvm.ClassFile.FieldType.boolean) ∈ TW := tw_t 867 (by decide +kernel) rfl
theorem tw869 : Jvm.Cond.methodLink "DotRunsLaw$Page" (43 : Nat) ({ cls := "java/util/Iterator", name := "next", desc := "()Ljava/lang/Object;" } : Jvm.MethodName) ∈ TW := tw_t 869 (by decide +kernel) rfl
theorem tw872 : Jvm.Cond.selects "java/util/ArrayList$Itr" ({ cls := "java/util/Iterator", name := "next", desc := "()Ljava/lang/Object;" } : Jvm.MethodName) ({ cls := "java/util/ArrayList$Itr", name := "next", desc := "()Ljava/lang/Object;" } : Jvm.MethodName) ∈ TW := tw_t 872 (by decide +kernel) rfl
theorem tw874 : Jvm.Cond.instanceMethod ({ cls := "java/util/ArrayList$Itr", name := "next", desc := "()Ljava/lang/Object;" } : Jvm.MethodName) ∈ TW := tw_t 874 (by decide +kernel) rfl
theorem tw876 : Jvm.Cond.code ({ cls := "java/util/ArrayList$Itr", name := "next", desc := "()Ljava/lang/Object;" } : Jvm.MethodName) prog_42_method_3_code (3 : Nat) (Option.some (Jvm.ClassFile.FieldType.object "java/lang/Object")) ∈ TW := tw_t 876 (by decide +kernel) rfl
theorem tw877 : Jvm.Cond.methodLink "java/util/ArrayList$Itr" (31 : Nat) ({ cls := "java/util/ArrayList$Itr", name := "checkForComodification", desc := "()V" } : Jvm.MethodName) ∈ TW := tw_t 877 (by decide +kernel) rfl
theorem tw878 : Jvm.Cond.instanceMethod ({ cls := "java/util/ArrayList$Itr", name := "checkForComodification", desc := "()V" } : Jvm.MethodName) ∈ TW := tw_t 878 (by decide +kernel) rfl
theorem tw879 : Jvm.Cond.selects "java/util/ArrayList$Itr" ({ cls := "java/util/ArrayList$Itr", name := "checkForComodification", desc := "()V" } : Jvm.MethodName) ({ cls := "java/util/ArrayList$Itr", name := "checkForComodification", desc := "()V" } : Jvm.MethodName) ∈ TW := tw_t 879 (by decide +kernel) rfl
theorem tw880 : Jvm.Cond.code ({ cls := "java/util/ArrayList$Itr", name := "checkForComodification", desc := "()V" } : Jvm.MethodName) prog_42_method_6_code (1 : Nat) (Option.none : Option Jvm.ClassFile.FieldType) ∈ TW := tw_t 880 (by decide +kernel) rfl
theorem tw881 : Jvm.Cond.classLink "DotRunsLaw$Page" (46 : Nat) "[Z" ∈ TW := tw_t 881 (by decide +kernel) rfl
theorem tw882 : Jvm.Cond.methodLink "DotRunsLaw$Page" (48 : Nat) ({ cls := "[Z", name := "clone", desc := "()Ljava/lang/Object;" } : Jvm.MethodName) ∈ TW := tw_t 882 (by decide +kernel) rfl
theorem tw883 : Jvm.Cond.sameMethod "[Z" "java/lang/Object" "clone" "()Ljava/lang/Object;" ∈ TW := tw_t 883 (by decide +kernel) rfl
theorem tw884 : Jvm.Cond.selects "[Z" ({ cls := "[Z", name := "clone", desc := "()Ljava/lang/Object;" } : Jvm.MethodName) ({ cls := "java/lang/Object", name := "clone", desc := "()Ljava/lang/Object;" } : Jvm.MethodName) ∈ TW := tw_t 884 (by decide +kernel) rfl
theorem tw886 : Jvm.Cond.methodLink "DotRunsLaw$Page" (49 : Nat) ({ cls := "java/util/ArrayList", name := "add", desc := "(Ljava/lang/Object;)Z" } : Jvm.MethodName) ∈ TW := tw_t 886 (by decide +kernel) rfl
theorem tw887 : Jvm.Cond.instanceMethod ({ cls := "java/util/ArrayList", name := "add", desc := "(Ljava/lang/Object;)Z" } : Jvm.MethodName) ∈ TW := tw_t 887 (by decide +kernel) rfl
theorem tw888 : Jvm.Cond.selects "java/util/ArrayList" ({ cls := "java/util/ArrayList", name := "add", desc := "(Ljava/lang/Object;)Z" } : Jvm.MethodName) ({ cls := "java/util/ArrayList", name := "add", desc := "(Ljava/lang/Object;)Z" } : Jvm.MethodName) ∈ TW := tw_t 888 (by decide +kernel) rfl
theorem tw889 : Jvm.Cond.code ({ cls := "java/util/ArrayList", name := "add", desc := "(Ljava/lang/Object;)Z" } : Jvm.MethodName) prog_41_method_25_code (2 : Nat) (Option.some Jvm.ClassFile.FieldType.boolean) ∈ TW := tw_t 889 (by decide +kernel) rfl
theorem tw890 : Jvm.Cond.methodLink "java/util/ArrayList" (131 : Nat) ({ cls := "java/util/ArrayList", name := "add", desc := "(Ljava/lang/Object;[Ljava/lang/Object;I)V" } : Jvm.MethodName) ∈ TW := tw_t 890 (by decide +kernel) rfl
theorem tw892 : Jvm.Cond.instanceMethod ({ cls := "java/util/ArrayList", name := "add", desc := "(Ljava/lang/Object;[Ljava/lang/Object;I)V" } : Jvm.MethodName) ∈ TW := tw_t 892 (by decide +kernel) rfl
theorem tw893 : Jvm.Cond.code ({ cls := "java/util/ArrayList", name := "add", desc := "(Ljava/lang/Object;[Ljava/lang/Object;I)V" } : Jvm.MethodName) prog_41_method_24_code (4 : Nat) (Option.none : Option Jvm.ClassFile.FieldType) ∈ TW := tw_t 893 (by decide +kernel) rfl
theorem tw894 : Jvm.Cond.methodLink "java/util/ArrayList" (129 : Nat) ({ cls := "java/util/ArrayList", name := "grow", desc := "()[Ljava/lang/Object;" } : Jvm.MethodName) ∈ TW := tw_t 894 (by decide +kernel) rfl
theorem tw896 : Jvm.Cond.instanceMethod ({ cls := "java/util/ArrayList", name := "grow", desc := "()[Ljava/lang/Object;" } : Jvm.MethodName) ∈ TW := tw_t 896 (by decide +kernel) rfl
theorem tw897 : Jvm.Cond.code ({ cls := "java/util/ArrayList", name := "grow", desc := "()[Ljava/lang/Object;" } : Jvm.MethodName) prog_41_method_7_code (1 : Nat) (Option.some (Jvm.ClassFile.FieldType.array (Jvm.ClassFile.FieldType.object "java/lang/Object"))) ∈ TW := tw_t 897 (by decide +kernel) rfl
theorem tw898 : Jvm.Cond.methodLink "java/util/ArrayList" (69 : Nat) ({ cls := "java/util/ArrayList", name := "grow", desc := "(I)[Ljava/lang/Object;" } : Jvm.MethodName) ∈ TW := tw_t 898 (by decide +kernel) rfl
theorem tw900 : Jvm.Cond.instanceMethod ({ cls := "java/util/ArrayList", name := "grow", desc := "(I)[Ljava/lang/Object;" } : Jvm.MethodName) ∈ TW := tw_t 900 (by decide +kernel) rfl
theorem tw901 : Jvm.Cond.code ({ cls := "java/util/ArrayList", name := "grow", desc := "(I)[Ljava/lang/Object;" } : Jvm.MethodName) prog_41_method_6_code (4 : Nat) (Option.some (Jvm.ClassFile.FieldType.array (Jvm.ClassFile.FieldType.object "java/lang/Object"))) ∈ TW := tw_t 901 (by decide +kernel) rfl
theorem tw902 : Jvm.Cond.methodLink "java/util/ArrayList" (73 : Nat) ({ cls := "jdk/internal/util/ArraysSupport", name := "newLength", desc := "(III)I" } : Jvm.MethodName) ∈ TW := tw_t 902 (by decide +kernel) rfl
theorem tw903 : Jvm.Cond.static ({ cls := "jdk/internal/util/ArraysSupport", name := "newLength", desc := "(III)I" } : Jvm.MethodName) ∈ TW := tw_t 903 (by decide +kernel) rfl
theorem tw904 : Jvm.Cond.code ({ cls := "jdk/internal/util/ArraysSupport", name := "newLength", desc := "(III)I" } : Jvm.MethodName) prog_50_method_27_code (4 : Nat) (Option.some Jvm.ClassFile.FieldType.int) ∈ TW := tw_t 904 (by decide +kernel) rfl
theorem tw905 : Jvm.Cond.methodLink "jdk/internal/util/ArraysSupport" (194 : Nat) ({ cls := "java/lang/Math", name := "max", desc := "(II)I" } : Jvm.MethodName) ∈ TW := tw_t 905 (by decide +kernel) rfl
theorem tw906 : Jvm.Cond.static ({ cls := "java/lang/Math", name := "max", desc := "(II)I" } : Jvm.MethodName) ∈ TW := tw_t 906 (by decide +kernel) rfl
theorem tw907 : Jvm.Cond.code ({ cls := "java/lang/Math", name := "max", desc := "(II)I" } : Jvm.MethodName) prog_28_method_65_code (2 : Nat) (Option.some Jvm.ClassFile.FieldType.int) ∈ TW := tw_t 907 (by decide +kernel) rfl
theorem tw908 : Jvm.Cond.constant "jdk/internal/util/ArraysSupport" (200 : Nat) (2147483639 : Int32) ∈ TW := tw_t 908 (by decide +kernel) rfl
theorem tw912 : Jvm.Cond.methodLink "java/util/ArrayList" (66 : Nat) ({ cls := "java/util/Arrays", name := "copyOf", desc := "([Ljava/lang/Object;I)[Ljava/lang/Object;" } : Jvm.MethodName) ∈ TW := tw_t 912 (by decide +kernel) rfl
theorem tw913 : Jvm.Cond.static ({ cls := "java/util/Arrays", name := "copyOf", desc := "([Ljava/lang/Object;I)[Ljava/lang/Object;" } : Jvm.MethodName) ∈ TW := tw_t 913 (by decide +kernel) rfl
theorem tw914 : Jvm.Cond.code ({ cls := "java/util/Arrays", name := "copyOf", desc := "([Ljava/lang/Object;I)[Ljava/lang/Object;" } : Jvm.MethodName) prog_43_method_119_code (2 : Nat) (Option.some (Jvm.ClassFile.FieldType.array (Jvm.ClassFile.FieldType.object "java/lang/Object"))) ∈ TW := tw_t 914 (by decide +kernel) rfl
theorem tw915 : Jvm.Cond.methodLink "java/util/Arrays" (86 : Nat) ({ cls := "java/lang/Object", name := "getClass", desc := "()Ljava/lang/Class;" } : Jvm.MethodName) ∈ TW := tw_t 915 (by decide +kernel) rfl
theorem tw916 : Jvm.Cond.instanceMethod ({ cls := "java/lang/Object", name := "getClass", desc := "()Ljava/lang/Class;" } : Jvm.MethodName) ∈ TW := tw_t 916 (by decide +kernel) rfl
theorem tw937 : Jvm.Cond.native ({ cls := "java/lang/Object", name := "getClass", desc := "()Ljava/lang/Class;" } : Jvm.MethodName) ∈ TW := tw_t 937 (by decide +kernel) rfl
theorem tw938 : Jvm.Cond.methodLink "java/util/Arrays" (300 : Nat) ({ cls := "java/util/Arrays", name := "copyOf", desc := "([Ljava/lang/Object;ILjava/lang/Class;)[Ljava/lang/Object;" } : Jvm.MethodName) ∈ TW := tw_t 938 (by decide +kernel) rfl
theorem tw939 : Jvm.Cond.static ({ cls := "java/util/Arrays", name := "copyOf", desc := "([Ljava/lang/Object;ILjava/lang/Class;)[Ljava/lang/Object;" } : Jvm.MethodName) ∈ TW := tw_t 939 (by decide +kernel) rfl
theorem tw940 : Jvm.Cond.code ({ cls := "java/util/Arrays", name := "copyOf", desc := "([Ljava/lang/Object;ILjava/lang/Class;)[Ljava/lang/Object;" } : Jvm.MethodName) prog_43_method_120_code (4 : Nat) (Option.some (Jvm.ClassFile.FieldType.array (Jvm.ClassFile.FieldType.object "java/lang/Object"))) ∈ TW := tw_t 940 (by decide +kernel) rfl
theorem tw941 : Jvm.Cond.classLink "java/util/Arrays" (110 : Nat) "[Ljava/lang/Object;" ∈ TW := tw_t 941 (by decide +kernel) rfl
theorem tw943 : Jvm.Cond.classLink "java/util/Arrays" (2 : Nat) "java/lang/Object" ∈ TW := tw_t 943 (by decide +kernel) rfl
theorem tw944 : Jvm.Cond.methodLink "java/util/Arrays" (304 : Nat) ({ cls := "java/lang/Math", name := "min", desc := "(II)I" } : Jvm.MethodName) ∈ TW := tw_t 944 (by decide +kernel) rfl
theorem tw945 : Jvm.Cond.methodLink "java/util/Arrays" (150 : Nat) ({ cls := "java/lang/System", name := "arraycopy", desc := "(Ljava/lang/Object;ILjava/lang/Object;II)V" } : Jvm.MethodName) ∈ TW := tw_t 945 (by decide +kernel) rfl
theorem tw946 : Jvm.Cond.static ({ cls := "java/lang/System", name := "arraycopy", desc := "(Ljava/lang/Object;ILjava/lang/Object;II)V" } : Jvm.MethodName) ∈ TW := tw_t 946 (by decide +kernel) rfl
theorem tw947 : Jvm.Cond.native ({ cls := "java/lang/System", name := "arraycopy", desc := "(Ljava/lang/Object;ILjava/lang/Object;II)V" } : Jvm.MethodName) ∈ TW := tw_t 947 (by decide +kernel) rfl
theorem tw948 : Jvm.Cond.methodLink "java/util/ArrayList" (79 : Nat) ({ cls := "java/lang/Math", name := "max", desc := "(II)I" } : Jvm.MethodName) ∈ TW := tw_t 948 (by decide +kernel) rfl
theorem tw949 : Jvm.Cond.classLink "java/util/ArrayList" (7 : Nat) "java/lang/Object" ∈ TW := tw_t 949 (by decide +kernel) rfl
theorem tw950 : Jvm.Cond.arrayClass Jvm.ClassFile.FieldType.boolean ∈ TW := tw_t 950 (by decide +kernel) rfl
theorem tw956 : Jvm.Cond.methodLink "DotRunsLaw$Told" (1 : Nat) ({ cls := "java/lang/Object", name := "<init>", desc := "()V" } : Jvm.MethodName) ∈ TW := tw_t 956 (by decide +kernel) rfl
theorem tw957 : Jvm.Cond.fieldLink "DotRunsLaw$Told" (7 : Nat) "DotRunsLaw$Told" "s" "[I" ∈ TW := tw_t 957 (by decide +kernel) rfl
theorem tw958 : Jvm.Cond.fieldLink "DotRunsLaw$Told" (13 : Nat) "DotRunsLaw$Told" "at" "I" ∈ TW := tw_t 958 (by decide +kernel) rfl
theorem tw964 : Jvm.Cond.methodLink "DotRunsLaw" (211 : Nat) ({ cls := "DotRunsLaw$Told", name := "next", desc := "(I)I" } : Jvm.MethodName) ∈ TW := tw_t 964 (by decide +kernel) rfl
theorem tw965 : Jvm.Cond.instanceMethod ({ cls := "DotRunsLaw$Told", name := "next", desc := "(I)I" } : Jvm.MethodName) ∈ TW := tw_t 965 (by decide +kernel) rfl
theorem tw966 : Jvm.Cond.selects "DotRunsLaw$Told" ({ cls := "DotRunsLaw$Told", name := "next", desc := "(I)I" } : Jvm.MethodName) ({ cls := "DotRunsLaw$Told", name := "next", desc := "(I)I" } : Jvm.MethodName) ∈ TW := tw_t 966 (by decide +kernel) rfl
theorem tw967 : Jvm.Cond.code ({ cls := "DotRunsLaw$Told", name := "next", desc := "(I)I" } : Jvm.MethodName) prog_12_method_2_code (2 : Nat) (Option.some Jvm.ClassFile.FieldType.int) ∈ TW := tw_t 967 (by decide +kernel) rfl
theorem tw969 : Jvm.Cond.static ({ cls := "DotRunsLaw", name := "pick", desc := "([II)I" } : Jvm.MethodName) ∈ TW := tw_t 969 (by decide +kernel) rfl
theorem tw970 : Jvm.Cond.code ({ cls := "DotRunsLaw", name := "pick", desc := "([II)I" } : Jvm.MethodName) method_2_code (2 : Nat) (Option.some Jvm.ClassFile.FieldType.int) ∈ TW := tw_t 970 (by decide +kernel) rfl
theorem tw971 : Jvm.Cond.constant "DotRunsLaw" (7 : Nat) (2147483647 : Int32) ∈ TW := tw_t 971 (by decide +kernel) rfl
theorem tw975 : Jvm.Cond.methodLink "DotRunsLaw" (90 : Nat) ({ cls := "java/util/ArrayList", name := "size", desc := "()I" } : Jvm.MethodName) ∈ TW := tw_t 975 (by decide +kernel) rfl
theorem tw976 : Jvm.Cond.instanceMethod ({ cls := "java/util/ArrayList", name := "size", desc := "()I" } : Jvm.MethodName) ∈ TW := tw_t 976 (by decide +kernel) rfl
theorem tw977 : Jvm.Cond.selects "java/util/ArrayList" ({ cls := "java/util/ArrayList", name := "size", desc := "()I" } : Jvm.MethodName) ({ cls := "java/util/ArrayList", name := "size", desc := "()I" } : Jvm.MethodName) ∈ TW := tw_t 977 (by decide +kernel) rfl
theorem tw978 : Jvm.Cond.code ({ cls := "java/util/ArrayList", name := "size", desc := "()I" } : Jvm.MethodName) prog_41_method_8_code (1 : Nat) (Option.some Jvm.ClassFile.FieldType.int) ∈ TW := tw_t 978 (by decide +kernel) rfl
theorem tw979 : Jvm.Cond.methodLink "DotRunsLaw" (93 : Nat) ({ cls := "DotRuns", name := "count", desc := "(I)I" } : Jvm.MethodName) ∈ TW := tw_t 979 (by decide +kernel) rfl
theorem tw980 : Jvm.Cond.instanceMethod ({ cls := "DotRuns", name := "count", desc := "(I)I" } : Jvm.MethodName) ∈ TW := tw_t 980 (by decide +kernel) rfl
theorem tw981 : Jvm.Cond.selects "DotRuns" ({ cls := "DotRuns", name := "count", desc := "(I)I" } : Jvm.MethodName) ({ cls := "DotRuns", name := "count", desc := "(I)I" } : Jvm.MethodName) ∈ TW := tw_t 981 (by decide +kernel) rfl
theorem tw982 : Jvm.Cond.code ({ cls := "DotRuns", name := "count", desc := "(I)I" } : Jvm.MethodName) prog_1_method_7_code (2 : Nat) (Option.some Jvm.ClassFile.FieldType.int) ∈ TW := tw_t 982 (by decide +kernel) rfl
theorem tw1046 : Jvm.Cond.methodLink "DotRunsLaw" (105 : Nat) ({ cls := "DotRuns", name := "dot", desc := "(II)I" } : Jvm.MethodName) ∈ TW := tw_t 1046 (by decide +kernel) rfl
theorem tw1047 : Jvm.Cond.instanceMethod ({ cls := "DotRuns", name := "dot", desc := "(II)I" } : Jvm.MethodName) ∈ TW := tw_t 1047 (by decide +kernel) rfl
theorem tw1048 : Jvm.Cond.selects "DotRuns" ({ cls := "DotRuns", name := "dot", desc := "(II)I" } : Jvm.MethodName) ({ cls := "DotRuns", name := "dot", desc := "(II)I" } : Jvm.MethodName) ∈ TW := tw_t 1048 (by decide +kernel) rfl
theorem tw1049 : Jvm.Cond.code ({ cls := "DotRuns", name := "dot", desc := "(II)I" } : Jvm.MethodName) prog_1_method_8_code (3 : Nat) (Option.some Jvm.ClassFile.FieldType.int) ∈ TW := tw_t 1049 (by decide +kernel) rfl
theorem tw1058 : Jvm.Cond.methodLink "DotRunsLaw" (108 : Nat) ({ cls := "java/util/ArrayList", name := "get", desc := "(I)Ljava/lang/Object;" } : Jvm.MethodName) ∈ TW := tw_t 1058 (by decide +kernel) rfl
theorem tw1059 : Jvm.Cond.instanceMethod ({ cls := "java/util/ArrayList", name := "get", desc := "(I)Ljava/lang/Object;" } : Jvm.MethodName) ∈ TW := tw_t 1059 (by decide +kernel) rfl
theorem tw1060 : Jvm.Cond.selects "java/util/ArrayList" ({ cls := "java/util/ArrayList", name := "get", desc := "(I)Ljava/lang/Object;" } : Jvm.MethodName) ({ cls := "java/util/ArrayList", name := "get", desc := "(I)Ljava/lang/Object;" } : Jvm.MethodName) ∈ TW := tw_t 1060 (by decide +kernel) rfl
theorem tw1061 : Jvm.Cond.code ({ cls := "java/util/ArrayList", name := "get", desc := "(I)Ljava/lang/Object;" } : Jvm.MethodName) prog_41_method_20_code (2 : Nat) (Option.some (Jvm.ClassFile.FieldType.object "java/lang/Object")) ∈ TW := tw_t 1061 (by decide +kernel) rfl
theorem tw1062 : Jvm.Cond.methodLink "java/util/ArrayList" (118 : Nat) ({ cls := "java/util/Objects", name := "checkIndex", desc := "(II)I" } : Jvm.MethodName) ∈ TW := tw_t 1062 (by decide +kernel) rfl
theorem tw1063 : Jvm.Cond.static ({ cls := "java/util/Objects", name := "checkIndex", desc := "(II)I" } : Jvm.MethodName) ∈ TW := tw_t 1063 (by decide +kernel) rfl
theorem tw1064 : Jvm.Cond.code ({ cls := "java/util/Objects", name := "checkIndex", desc := "(II)I" } : Jvm.MethodName) prog_47_method_17_code (2 : Nat) (Option.some Jvm.ClassFile.FieldType.int) ∈ TW := tw_t 1064 (by decide +kernel) rfl
theorem tw1065 : Jvm.Cond.methodLink "java/util/Objects" (105 : Nat) ({ cls := "jdk/internal/util/Preconditions", name := "checkIndex", desc := "(IILjava/util/function/BiFunction;)I" } : Jvm.MethodName) ∈ TW := tw_t 1065 (by decide +kernel) rfl
theorem tw1066 : Jvm.Cond.methodLink "java/util/ArrayList" (123 : Nat) ({ cls := "java/util/ArrayList", name := "elementData", desc := "(I)Ljava/lang/Object;" } : Jvm.MethodName) ∈ TW := tw_t 1066 (by decide +kernel) rfl
theorem tw1067 : Jvm.Cond.instanceMethod ({ cls := "java/util/ArrayList", name := "elementData", desc := "(I)Ljava/lang/Object;" } : Jvm.MethodName) ∈ TW := tw_t 1067 (by decide +kernel) rfl
theorem tw1068 : Jvm.Cond.selects "java/util/ArrayList" ({ cls := "java/util/ArrayList", name := "elementData", desc := "(I)Ljava/lang/Object;" } : Jvm.MethodName) ({ cls := "java/util/ArrayList", name := "elementData", desc := "(I)Ljava/lang/Object;" } : Jvm.MethodName) ∈ TW := tw_t 1068 (by decide +kernel) rfl
theorem tw1069 : Jvm.Cond.code ({ cls := "java/util/ArrayList", name := "elementData", desc := "(I)Ljava/lang/Object;" } : Jvm.MethodName) prog_41_method_18_code (2 : Nat) (Option.some (Jvm.ClassFile.FieldType.object "java/lang/Object")) ∈ TW := tw_t 1069 (by decide +kernel) rfl
theorem tw1070 : Jvm.Cond.classLink "DotRunsLaw" (112 : Nat) "[Z" ∈ TW := tw_t 1070 (by decide +kernel) rfl
theorem tw1071 : Jvm.Cond.methodLink "DotRunsLaw" (114 : Nat) ({ cls := "DotRunsLaw$Page", name := "codeOf", desc := "(I)Ljava/util/ArrayList;" } : Jvm.MethodName) ∈ TW := tw_t 1071 (by decide +kernel) rfl
theorem tw1072 : Jvm.Cond.instanceMethod ({ cls := "DotRunsLaw$Page", name := "codeOf", desc := "(I)Ljava/util/ArrayList;" } : Jvm.MethodName) ∈ TW := tw_t 1072 (by decide +kernel) rfl
theorem tw1073 : Jvm.Cond.selects "DotRunsLaw$Page" ({ cls := "DotRunsLaw$Page", name := "codeOf", desc := "(I)Ljava/util/ArrayList;" } : Jvm.MethodName) ({ cls := "DotRunsLaw$Page", name := "codeOf", desc := "(I)Ljava/util/ArrayList;" } : Jvm.MethodName) ∈ TW := tw_t 1073 (by decide +kernel) rfl
theorem tw1074 : Jvm.Cond.code ({ cls := "DotRunsLaw$Page", name := "codeOf", desc := "(I)Ljava/util/ArrayList;" } : Jvm.MethodName) prog_11_method_4_code (2 : Nat) (Option.some (Jvm.ClassFile.FieldType.object "java/util/ArrayList")) ∈ TW := tw_t 1074 (by decide +kernel) rfl
theorem tw1075 : Jvm.Cond.methodLink "DotRunsLaw$Page" (57 : Nat) ({ cls := "DotRunsLaw$Page", name := "above", desc := "(Ljava/util/ArrayList;I)[Z" } : Jvm.MethodName) ∈ TW := tw_t 1075 (by decide +kernel) rfl
theorem tw1076 : Jvm.Cond.instanceMethod ({ cls := "DotRunsLaw$Page", name := "above", desc := "(Ljava/util/ArrayList;I)[Z" } : Jvm.MethodName) ∈ TW := tw_t 1076 (by decide +kernel) rfl
theorem tw1077 : Jvm.Cond.selects "DotRunsLaw$Page" ({ cls := "DotRunsLaw$Page", name := "above", desc := "(Ljava/util/ArrayList;I)[Z" } : Jvm.MethodName) ({ cls := "DotRunsLaw$Page", name := "above", desc := "(Ljava/util/ArrayList;I)[Z" } : Jvm.MethodName) ∈ TW := tw_t 1077 (by decide +kernel) rfl
theorem tw1078 : Jvm.Cond.code ({ cls := "DotRunsLaw$Page", name := "above", desc := "(Ljava/util/ArrayList;I)[Z" } : Jvm.MethodName) prog_11_method_3_code (3 : Nat) (Option.some (Jvm.ClassFile.FieldType.array Jvm.ClassFile.FieldType.boolean)) ∈ TW := tw_t 1078 (by decide +kernel) rfl
theorem tw1079 : Jvm.Cond.methodLink "DotRunsLaw$Page" (53 : Nat) ({ cls := "java/util/ArrayList", name := "get", desc := "(I)Ljava/lang/Object;" } : Jvm.MethodName) ∈ TW := tw_t 1079 (by decide +kernel) rfl
theorem tw1081 : Jvm.Cond.static ({ cls := "DotRunsLaw", name := "code", desc := "([Z[Z)Ljava/util/ArrayList;" } : Jvm.MethodName) ∈ TW := tw_t 1081 (by decide +kernel) rfl
theorem tw1082 : Jvm.Cond.code ({ cls := "DotRunsLaw", name := "code", desc := "([Z[Z)Ljava/util/ArrayList;" } : Jvm.MethodName) method_7_code (8 : Nat) (Option.some (Jvm.ClassFile.FieldType.object "java/util/ArrayList")) ∈ TW := tw_t 1082 (by decide +kernel) rfl
theorem tw1083 : Jvm.Cond.classLink "DotRunsLaw" (8 : Nat) "java/util/ArrayList" ∈ TW := tw_t 1083 (by decide +kernel) rfl
theorem tw1084 : Jvm.Cond.methodLink "DotRunsLaw" (10 : Nat) ({ cls := "java/util/ArrayList", name := "<init>", desc := "()V" } : Jvm.MethodName) ∈ TW := tw_t 1084 (by decide +kernel) rfl
theorem tw1085 : Jvm.Cond.methodLink "DotRunsLaw" (45 : Nat) ({ cls := "DotRunsLaw", name := "find", desc := "([ZIZ)I" } : Jvm.MethodName) ∈ TW := tw_t 1085 (by decide +kernel) rfl
theorem tw1086 : Jvm.Cond.static ({ cls := "DotRunsLaw", name := "find", desc := "([ZIZ)I" } : Jvm.MethodName) ∈ TW := tw_t 1086 (by decide +kernel) rfl
theorem tw1087 : Jvm.Cond.code ({ cls := "DotRunsLaw", name := "find", desc := "([ZIZ)I" } : Jvm.MethodName) method_6_code (4 : Nat) (Option.some Jvm.ClassFile.FieldType.int) ∈ TW := tw_t 1087 (by decide +kernel) rfl
theorem tw1088 : Jvm.Cond.methodLink "DotRunsLaw" (49 : Nat) ({ cls := "DotRunsLaw", name := "marksBehind", desc := "([ZIZ)[I" } : Jvm.MethodName) ∈ TW := tw_t 1088 (by decide +kernel) rfl
theorem tw1089 : Jvm.Cond.static ({ cls := "DotRunsLaw", name := "marksBehind", desc := "([ZIZ)[I" } : Jvm.MethodName) ∈ TW := tw_t 1089 (by decide +kernel) rfl
theorem tw1090 : Jvm.Cond.code ({ cls := "DotRunsLaw", name := "marksBehind", desc := "([ZIZ)[I" } : Jvm.MethodName) method_5_code (6 : Nat) (Option.some (Jvm.ClassFile.FieldType.array Jvm.ClassFile.FieldType.int)) ∈ TW := tw_t 1090 (by decide +kernel) rfl
theorem tw1091 : Jvm.Cond.methodLink "DotRunsLaw" (21 : Nat) ({ cls := "DotRunsLaw", name := "changes", desc := "([Z)Ljava/util/ArrayList;" } : Jvm.MethodName) ∈ TW := tw_t 1091 (by decide +kernel) rfl
theorem tw1092 : Jvm.Cond.static ({ cls := "DotRunsLaw", name := "changes", desc := "([Z)Ljava/util/ArrayList;" } : Jvm.MethodName) ∈ TW := tw_t 1092 (by decide +kernel) rfl
theorem tw1093 : Jvm.Cond.code ({ cls := "DotRunsLaw", name := "changes", desc := "([Z)Ljava/util/ArrayList;" } : Jvm.MethodName) method_4_code (4 : Nat) (Option.some (Jvm.ClassFile.FieldType.object "java/util/ArrayList")) ∈ TW := tw_t 1093 (by decide +kernel) rfl
theorem tw1094 : Jvm.Cond.methodLink "DotRunsLaw" (11 : Nat) ({ cls := "java/lang/Integer", name := "valueOf", desc := "(I)Ljava/lang/Integer;" } : Jvm.MethodName) ∈ TW := tw_t 1094 (by decide +kernel) rfl
theorem tw1095 : Jvm.Cond.static ({ cls := "java/lang/Integer", name := "valueOf", desc := "(I)Ljava/lang/Integer;" } : Jvm.MethodName) ∈ TW := tw_t 1095 (by decide +kernel) rfl
theorem tw1096 : Jvm.Cond.code ({ cls := "java/lang/Integer", name := "valueOf", desc := "(I)Ljava/lang/Integer;" } : Jvm.MethodName) prog_24_method_22_code (1 : Nat) (Option.some (Jvm.ClassFile.FieldType.object "java/lang/Integer")) ∈ TW := tw_t 1096 (by decide +kernel) rfl
theorem tw1097 : Jvm.Cond.fieldLink "java/lang/Integer" (191 : Nat) "java/lang/Integer$IntegerCache" "high" "I" ∈ TW := tw_t 1097 (by decide +kernel) rfl
theorem tw1099 : Jvm.Cond.fieldLink "java/lang/Integer" (195 : Nat) "java/lang/Integer$IntegerCache" "cache" "[Ljava/lang/Integer;" ∈ TW := tw_t 1099 (by decide +kernel) rfl
theorem tw1102 : Jvm.Cond.instantiable "java/lang/Integer" (1 : Nat) ∈ TW := tw_t 1102 (by decide +kernel) rfl
theorem tw1110 : Jvm.Cond.fieldLink "java/lang/Integer" (205 : Nat) "java/lang/Integer" "value" "I" ∈ TW := tw_t 1110 (by decide +kernel) rfl
theorem tw1114 : Jvm.Cond.methodLink "DotRunsLaw" (17 : Nat) ({ cls := "java/util/ArrayList", name := "add", desc := "(Ljava/lang/Object;)Z" } : Jvm.MethodName) ∈ TW := tw_t 1114 (by decide +kernel) rfl
theorem tw1115 : Jvm.Cond.methodLink "DotRunsLaw" (27 : Nat) ({ cls := "java/util/ArrayList", name := "iterator", desc := "()Ljava/util/Iterator;" } : Jvm.MethodName) ∈ TW := tw_t 1115 (by decide +kernel) rfl
theorem tw1117 : Jvm.Cond.methodLink "DotRunsLaw" (31 : Nat) ({ cls := "java/util/Iterator", name := "hasNext", desc := "()Z" } : Jvm.MethodName) ∈ TW := tw_t 1117 (by decide +kernel) rfl
theorem tw1119 : Jvm.Cond.methodLink "DotRunsLaw" (37 : Nat) ({ cls := "java/util/Iterator", name := "next", desc := "()Ljava/lang/Object;" } : Jvm.MethodName) ∈ TW := tw_t 1119 (by decide +kernel) rfl
theorem tw1120 : Jvm.Cond.classLink "DotRunsLaw" (12 : Nat) "java/lang/Integer" ∈ TW := tw_t 1120 (by decide +kernel) rfl
theorem tw1121 : Jvm.Cond.methodLink "DotRunsLaw" (41 : Nat) ({ cls := "java/lang/Integer", name := "intValue", desc := "()I" } : Jvm.MethodName) ∈ TW := tw_t 1121 (by decide +kernel) rfl
theorem tw1122 : Jvm.Cond.instanceMethod ({ cls := "java/lang/Integer", name := "intValue", desc := "()I" } : Jvm.MethodName) ∈ TW := tw_t 1122 (by decide +kernel) rfl
theorem tw1123 : Jvm.Cond.selects "java/lang/Integer" ({ cls := "java/lang/Integer", name := "intValue", desc := "()I" } : Jvm.MethodName) ({ cls := "java/lang/Integer", name := "intValue", desc := "()I" } : Jvm.MethodName) ∈ TW := tw_t 1123 (by decide +kernel) rfl
theorem tw1124 : Jvm.Cond.code ({ cls := "java/lang/Integer", name := "intValue", desc := "()I" } : Jvm.MethodName) prog_24_method_27_code (1 : Nat) (Option.some Jvm.ClassFile.FieldType.int) ∈ TW := tw_t 1124 (by decide +kernel) rfl
theorem tw1125 : Jvm.Cond.classLink "DotRunsLaw" (53 : Nat) "DotRunsLaw$Mode" ∈ TW := tw_t 1125 (by decide +kernel) rfl
theorem tw1126 : Jvm.Cond.instantiable "DotRunsLaw$Mode" (4 : Nat) ∈ TW := tw_t 1126 (by decide +kernel) rfl
theorem tw1127 : Jvm.Cond.methodLink "DotRunsLaw" (55 : Nat) ({ cls := "DotRunsLaw$Mode", name := "<init>", desc := "(IIII)V" } : Jvm.MethodName) ∈ TW := tw_t 1127 (by decide +kernel) rfl
theorem tw1128 : Jvm.Cond.instanceMethod ({ cls := "DotRunsLaw$Mode", name := "<init>", desc := "(IIII)V" } : Jvm.MethodName) ∈ TW := tw_t 1128 (by decide +kernel) rfl
theorem tw1129 : Jvm.Cond.code ({ cls := "DotRunsLaw$Mode", name := "<init>", desc := "(IIII)V" } : Jvm.MethodName) prog_10_method_1_code (5 : Nat) (Option.none : Option Jvm.ClassFile.FieldType) ∈ TW := tw_t 1129 (by decide +kernel) rfl
theorem tw1130 : Jvm.Cond.methodLink "DotRunsLaw$Mode" (1 : Nat) ({ cls := "java/lang/Object", name := "<init>", desc := "()V" } : Jvm.MethodName) ∈ TW := tw_t 1130 (by decide +kernel) rfl
theorem tw1131 : Jvm.Cond.fieldLink "DotRunsLaw$Mode" (7 : Nat) "DotRunsLaw$Mode" "kind" "I" ∈ TW := tw_t 1131 (by decide +kernel) rfl
theorem tw1133 : Jvm.Cond.fieldLink "DotRunsLaw$Mode" (13 : Nat) "DotRunsLaw$Mode" "one" "I" ∈ TW := tw_t 1133 (by decide +kernel) rfl
theorem tw1135 : Jvm.Cond.fieldLink "DotRunsLaw$Mode" (16 : Nat) "DotRunsLaw$Mode" "two" "I" ∈ TW := tw_t 1135 (by decide +kernel) rfl
theorem tw1137 : Jvm.Cond.fieldLink "DotRunsLaw$Mode" (19 : Nat) "DotRunsLaw$Mode" "place" "I" ∈ TW := tw_t 1137 (by decide +kernel) rfl
theorem tw1148 : Jvm.Cond.methodLink "DotRunsLaw" (58 : Nat) ({ cls := "java/lang/Math", name := "abs", desc := "(I)I" } : Jvm.MethodName) ∈ TW := tw_t 1148 (by decide +kernel) rfl
theorem tw1149 : Jvm.Cond.methodLink "DotRunsLaw" (64 : Nat) ({ cls := "java/lang/Math", name := "max", desc := "(II)I" } : Jvm.MethodName) ∈ TW := tw_t 1149 (by decide +kernel) rfl
theorem tw1150 : Jvm.Cond.methodLink "DotRunsLaw" (118 : Nat) ({ cls := "DotRunsLaw", name := "alone", desc := "([Z)Ljava/util/ArrayList;" } : Jvm.MethodName) ∈ TW := tw_t 1150 (by decide +kernel) rfl
theorem tw1151 : Jvm.Cond.static ({ cls := "DotRunsLaw", name := "alone", desc := "([Z)Ljava/util/ArrayList;" } : Jvm.MethodName) ∈ TW := tw_t 1151 (by decide +kernel) rfl
theorem tw1152 : Jvm.Cond.code ({ cls := "DotRunsLaw", name := "alone", desc := "([Z)Ljava/util/ArrayList;" } : Jvm.MethodName) method_9_code (5 : Nat) (Option.some (Jvm.ClassFile.FieldType.object "java/util/ArrayList")) ∈ TW := tw_t 1152 (by decide +kernel) rfl
theorem tw1153 : Jvm.Cond.methodLink "DotRunsLaw" (121 : Nat) ({ cls := "DotRuns", name := "line", desc := "(II)I" } : Jvm.MethodName) ∈ TW := tw_t 1153 (by decide +kernel) rfl
theorem tw1154 : Jvm.Cond.instanceMethod ({ cls := "DotRuns", name := "line", desc := "(II)I" } : Jvm.MethodName) ∈ TW := tw_t 1154 (by decide +kernel) rfl
theorem tw1155 : Jvm.Cond.selects "DotRuns" ({ cls := "DotRuns", name := "line", desc := "(II)I" } : Jvm.MethodName) ({ cls := "DotRuns", name := "line", desc := "(II)I" } : Jvm.MethodName) ∈ TW := tw_t 1155 (by decide +kernel) rfl
theorem tw1156 : Jvm.Cond.code ({ cls := "DotRuns", name := "line", desc := "(II)I" } : Jvm.MethodName) prog_1_method_9_code (3 : Nat) (Option.some Jvm.ClassFile.FieldType.int) ∈ TW := tw_t 1156 (by decide +kernel) rfl
theorem tw1165 : Jvm.Cond.methodLink "DotRunsLaw" (124 : Nat) ({ cls := "DotRunsLaw$Page", name := "isMark", desc := "(I)Z" } : Jvm.MethodName) ∈ TW := tw_t 1165 (by decide +kernel) rfl
theorem tw1166 : Jvm.Cond.instanceMethod ({ cls := "DotRunsLaw$Page", name := "isMark", desc := "(I)Z" } : Jvm.MethodName) ∈ TW := tw_t 1166 (by decide +kernel) rfl
theorem tw1167 : Jvm.Cond.selects "DotRunsLaw$Page" ({ cls := "DotRunsLaw$Page", name := "isMark", desc := "(I)Z" } : Jvm.MethodName) ({ cls := "DotRunsLaw$Page", name := "isMark", desc := "(I)Z" } : Jvm.MethodName) ∈ TW := tw_t 1167 (by decide +kernel) rfl
theorem tw1168 : Jvm.Cond.code ({ cls := "DotRunsLaw$Page", name := "isMark", desc := "(I)Z" } : Jvm.MethodName) prog_11_method_5_code (2 : Nat) (Option.some Jvm.ClassFile.FieldType.boolean) ∈ TW := tw_t 1168 (by decide +kernel) rfl
theorem tw1171 : Jvm.Cond.static ({ cls := "DotRunsLaw", name := "bits", desc := "(Ljava/util/ArrayList;)I" } : Jvm.MethodName) ∈ TW := tw_t 1171 (by decide +kernel) rfl
theorem tw1172 : Jvm.Cond.code ({ cls := "DotRunsLaw", name := "bits", desc := "(Ljava/util/ArrayList;)I" } : Jvm.MethodName) method_10_code (4 : Nat) (Option.some Jvm.ClassFile.FieldType.int) ∈ TW := tw_t 1172 (by decide +kernel) rfl
theorem tw1173 : Jvm.Cond.methodLink "DotRunsLaw" (78 : Nat) ({ cls := "DotRunsLaw", name := "bitsOf", desc := "(I)I" } : Jvm.MethodName) ∈ TW := tw_t 1173 (by decide +kernel) rfl
theorem tw1174 : Jvm.Cond.static ({ cls := "DotRunsLaw", name := "bitsOf", desc := "(I)I" } : Jvm.MethodName) ∈ TW := tw_t 1174 (by decide +kernel) rfl
theorem tw1175 : Jvm.Cond.code ({ cls := "DotRunsLaw", name := "bitsOf", desc := "(I)I" } : Jvm.MethodName) method_3_code (1 : Nat) (Option.some Jvm.ClassFile.FieldType.int) ∈ TW := tw_t 1175 (by decide +kernel) rfl
theorem tw1176 : Jvm.Cond.methodLink "DotRunsLaw$Page" (75 : Nat) ({ cls := "DotRunsLaw$Page", name := "codeOf", desc := "(I)Ljava/util/ArrayList;" } : Jvm.MethodName) ∈ TW := tw_t 1176 (by decide +kernel) rfl
theorem tw1178 : Jvm.Cond.static ({ cls := "DotRunsLaw", name := "modeBits", desc := "(Ljava/util/ArrayList;)I" } : Jvm.MethodName) ∈ TW := tw_t 1178 (by decide +kernel) rfl
theorem tw1179 : Jvm.Cond.code ({ cls := "DotRunsLaw", name := "modeBits", desc := "(Ljava/util/ArrayList;)I" } : Jvm.MethodName) method_11_code (4 : Nat) (Option.some Jvm.ClassFile.FieldType.int) ∈ TW := tw_t 1179 (by decide +kernel) rfl
theorem tw1180 : Jvm.Cond.methodLink "DotRunsLaw" (81 : Nat) ({ cls := "DotRunsLaw$Mode", name := "bits", desc := "()I" } : Jvm.MethodName) ∈ TW := tw_t 1180 (by decide +kernel) rfl
theorem tw1181 : Jvm.Cond.instanceMethod ({ cls := "DotRunsLaw$Mode", name := "bits", desc := "()I" } : Jvm.MethodName) ∈ TW := tw_t 1181 (by decide +kernel) rfl
theorem tw1182 : Jvm.Cond.selects "DotRunsLaw$Mode" ({ cls := "DotRunsLaw$Mode", name := "bits", desc := "()I" } : Jvm.MethodName) ({ cls := "DotRunsLaw$Mode", name := "bits", desc := "()I" } : Jvm.MethodName) ∈ TW := tw_t 1182 (by decide +kernel) rfl
theorem tw1183 : Jvm.Cond.code ({ cls := "DotRunsLaw$Mode", name := "bits", desc := "()I" } : Jvm.MethodName) prog_10_method_2_code (1 : Nat) (Option.some Jvm.ClassFile.FieldType.int) ∈ TW := tw_t 1183 (by decide +kernel) rfl
theorem tw1185 : Jvm.Cond.methodLink "DotRunsLaw$Mode" (28 : Nat) ({ cls := "java/lang/Math", name := "abs", desc := "(I)I" } : Jvm.MethodName) ∈ TW := tw_t 1185 (by decide +kernel) rfl
theorem tw1186 : Jvm.Cond.methodLink "DotRunsLaw" (128 : Nat) ({ cls := "DotRunsLaw", name := "bits", desc := "(Ljava/util/ArrayList;)I" } : Jvm.MethodName) ∈ TW := tw_t 1186 (by decide +kernel) rfl
theorem tw1187 : Jvm.Cond.methodLink "DotRunsLaw" (131 : Nat) ({ cls := "DotRunsLaw", name := "modeBits", desc := "(Ljava/util/ArrayList;)I" } : Jvm.MethodName) ∈ TW := tw_t 1187 (by decide +kernel) rfl
theorem tw1188 : Jvm.Cond.methodLink "DotRunsLaw" (134 : Nat) ({ cls := "DotRunsLaw$Page", name := "bitsOf", desc := "(I)I" } : Jvm.MethodName) ∈ TW := tw_t 1188 (by decide +kernel) rfl
theorem tw1189 : Jvm.Cond.instanceMethod ({ cls := "DotRunsLaw$Page", name := "bitsOf", desc := "(I)I" } : Jvm.MethodName) ∈ TW := tw_t 1189 (by decide +kernel) rfl
theorem tw1190 : Jvm.Cond.selects "DotRunsLaw$Page" ({ cls := "DotRunsLaw$Page", name := "bitsOf", desc := "(I)I" } : Jvm.MethodName) ({ cls := "DotRunsLaw$Page", name := "bitsOf", desc := "(I)I" } : Jvm.MethodName) ∈ TW := tw_t 1190 (by decide +kernel) rfl
theorem tw1191 : Jvm.Cond.code ({ cls := "DotRunsLaw$Page", name := "bitsOf", desc := "(I)I" } : Jvm.MethodName) prog_11_method_6_code (2 : Nat) (Option.some Jvm.ClassFile.FieldType.int) ∈ TW := tw_t 1191 (by decide +kernel) rfl
theorem tw1192 : Jvm.Cond.methodLink "DotRunsLaw$Page" (82 : Nat) ({ cls := "DotRunsLaw$Page", name := "isMark", desc := "(I)Z" } : Jvm.MethodName) ∈ TW := tw_t 1192 (by decide +kernel) rfl
theorem tw1193 : Jvm.Cond.methodLink "DotRunsLaw" (138 : Nat) ({ cls := "DotRuns", name := "run", desc := "(II)I" } : Jvm.MethodName) ∈ TW := tw_t 1193 (by decide +kernel) rfl
theorem tw1194 : Jvm.Cond.instanceMethod ({ cls := "DotRuns", name := "run", desc := "(II)I" } : Jvm.MethodName) ∈ TW := tw_t 1194 (by decide +kernel) rfl
theorem tw1195 : Jvm.Cond.selects "DotRuns" ({ cls := "DotRuns", name := "run", desc := "(II)I" } : Jvm.MethodName) ({ cls := "DotRuns", name := "run", desc := "(II)I" } : Jvm.MethodName) ∈ TW := tw_t 1195 (by decide +kernel) rfl
theorem tw1196 : Jvm.Cond.code ({ cls := "DotRuns", name := "run", desc := "(II)I" } : Jvm.MethodName) prog_1_method_10_code (3 : Nat) (Option.some Jvm.ClassFile.FieldType.int) ∈ TW := tw_t 1196 (by decide +kernel) rfl
theorem tw1208 : Jvm.Cond.methodLink "DotRunsLaw" (141 : Nat) ({ cls := "DotRuns", name := "mode", desc := "(III)I" } : Jvm.MethodName) ∈ TW := tw_t 1208 (by decide +kernel) rfl
theorem tw1209 : Jvm.Cond.instanceMethod ({ cls := "DotRuns", name := "mode", desc := "(III)I" } : Jvm.MethodName) ∈ TW := tw_t 1209 (by decide +kernel) rfl
theorem tw1210 : Jvm.Cond.selects "DotRuns" ({ cls := "DotRuns", name := "mode", desc := "(III)I" } : Jvm.MethodName) ({ cls := "DotRuns", name := "mode", desc := "(III)I" } : Jvm.MethodName) ∈ TW := tw_t 1210 (by decide +kernel) rfl
theorem tw1211 : Jvm.Cond.code ({ cls := "DotRuns", name := "mode", desc := "(III)I" } : Jvm.MethodName) prog_1_method_11_code (4 : Nat) (Option.some Jvm.ClassFile.FieldType.int) ∈ TW := tw_t 1211 (by decide +kernel) rfl
theorem tw1216 : Jvm.Cond.methodLink "DotRunsLaw" (148 : Nat) ({ cls := "DotRunsLaw$Page", name := "above", desc := "(Ljava/util/ArrayList;I)[Z" } : Jvm.MethodName) ∈ TW := tw_t 1216 (by decide +kernel) rfl
theorem tw1217 : Jvm.Cond.methodLink "DotRunsLaw" (152 : Nat) ({ cls := "DotRunsLaw", name := "read", desc := "(Ljava/util/ArrayList;[Z)[Z" } : Jvm.MethodName) ∈ TW := tw_t 1217 (by decide +kernel) rfl
theorem tw1218 : Jvm.Cond.static ({ cls := "DotRunsLaw", name := "read", desc := "(Ljava/util/ArrayList;[Z)[Z" } : Jvm.MethodName) ∈ TW := tw_t 1218 (by decide +kernel) rfl
theorem tw1219 : Jvm.Cond.code ({ cls := "DotRunsLaw", name := "read", desc := "(Ljava/util/ArrayList;[Z)[Z" } : Jvm.MethodName) method_8_code (12 : Nat) (Option.some (Jvm.ClassFile.FieldType.array Jvm.ClassFile.FieldType.boolean)) ∈ TW := tw_t 1219 (by decide +kernel) rfl
theorem tw1220 : Jvm.Cond.methodLink "DotRunsLaw" (156 : Nat) ({ cls := "DotRuns", name := "readBelow", desc := "(II)I" } : Jvm.MethodName) ∈ TW := tw_t 1220 (by decide +kernel) rfl
theorem tw1221 : Jvm.Cond.instanceMethod ({ cls := "DotRuns", name := "readBelow", desc := "(II)I" } : Jvm.MethodName) ∈ TW := tw_t 1221 (by decide +kernel) rfl
theorem tw1222 : Jvm.Cond.selects "DotRuns" ({ cls := "DotRuns", name := "readBelow", desc := "(II)I" } : Jvm.MethodName) ({ cls := "DotRuns", name := "readBelow", desc := "(II)I" } : Jvm.MethodName) ∈ TW := tw_t 1222 (by decide +kernel) rfl
theorem tw1223 : Jvm.Cond.code ({ cls := "DotRuns", name := "readBelow", desc := "(II)I" } : Jvm.MethodName) prog_1_method_15_code (5 : Nat) (Option.some Jvm.ClassFile.FieldType.int) ∈ TW := tw_t 1223 (by decide +kernel) rfl
theorem tw1234 : Jvm.Cond.methodLink "DotRunsLaw" (159 : Nat) ({ cls := "DotRunsLaw$Page", name := "send", desc := "()V" } : Jvm.MethodName) ∈ TW := tw_t 1234 (by decide +kernel) rfl
theorem tw1235 : Jvm.Cond.instanceMethod ({ cls := "DotRunsLaw$Page", name := "send", desc := "()V" } : Jvm.MethodName) ∈ TW := tw_t 1235 (by decide +kernel) rfl
theorem tw1236 : Jvm.Cond.selects "DotRunsLaw$Page" ({ cls := "DotRunsLaw$Page", name := "send", desc := "()V" } : Jvm.MethodName) ({ cls := "DotRunsLaw$Page", name := "send", desc := "()V" } : Jvm.MethodName) ∈ TW := tw_t 1236 (by decide +kernel) rfl
theorem tw1237 : Jvm.Cond.code ({ cls := "DotRunsLaw$Page", name := "send", desc := "()V" } : Jvm.MethodName) prog_11_method_9_code (6 : Nat) (Option.none : Option Jvm.ClassFile.FieldType) ∈ TW := tw_t 1237 (by decide +kernel) rfl
theorem tw1238 : Jvm.Cond.methodLink "DotRunsLaw$Page" (89 : Nat) ({ cls := "java/util/ArrayList", name := "size", desc := "()I" } : Jvm.MethodName) ∈ TW := tw_t 1238 (by decide +kernel) rfl
theorem tw1239 : Jvm.Cond.methodLink "DotRunsLaw$Page" (120 : Nat) ({ cls := "DotRunsLaw$Page", name := "bitsOf", desc := "(I)I" } : Jvm.MethodName) ∈ TW := tw_t 1239 (by decide +kernel) rfl
theorem tw1241 : Jvm.Cond.methodLink "DotRunsLaw$Page" (127 : Nat) ({ cls := "java/util/ArrayList", name := "set", desc := "(ILjava/lang/Object;)Ljava/lang/Object;" } : Jvm.MethodName) ∈ TW := tw_t 1241 (by decide +kernel) rfl
theorem tw1242 : Jvm.Cond.instanceMethod ({ cls := "java/util/ArrayList", name := "set", desc := "(ILjava/lang/Object;)Ljava/lang/Object;" } : Jvm.MethodName) ∈ TW := tw_t 1242 (by decide +kernel) rfl
theorem tw1243 : Jvm.Cond.selects "java/util/ArrayList" ({ cls := "java/util/ArrayList", name := "set", desc := "(ILjava/lang/Object;)Ljava/lang/Object;" } : Jvm.MethodName) ({ cls := "java/util/ArrayList", name := "set", desc := "(ILjava/lang/Object;)Ljava/lang/Object;" } : Jvm.MethodName) ∈ TW := tw_t 1243 (by decide +kernel) rfl
theorem tw1244 : Jvm.Cond.code ({ cls := "java/util/ArrayList", name := "set", desc := "(ILjava/lang/Object;)Ljava/lang/Object;" } : Jvm.MethodName) prog_41_method_23_code (4 : Nat) (Option.some (Jvm.ClassFile.FieldType.object "java/lang/Object")) ∈ TW := tw_t 1244 (by decide +kernel) rfl
theorem tw1245 : Jvm.Cond.methodLink "DotRunsLaw$Page" (93 : Nat) ({ cls := "DotRunsLaw$Page", name := "wrong", desc := "(I)I" } : Jvm.MethodName) ∈ TW := tw_t 1245 (by decide +kernel) rfl
theorem tw1246 : Jvm.Cond.instanceMethod ({ cls := "DotRunsLaw$Page", name := "wrong", desc := "(I)I" } : Jvm.MethodName) ∈ TW := tw_t 1246 (by decide +kernel) rfl
theorem tw1247 : Jvm.Cond.selects "DotRunsLaw$Page" ({ cls := "DotRunsLaw$Page", name := "wrong", desc := "(I)I" } : Jvm.MethodName) ({ cls := "DotRunsLaw$Page", name := "wrong", desc := "(I)I" } : Jvm.MethodName) ∈ TW := tw_t 1247 (by decide +kernel) rfl
theorem tw1248 : Jvm.Cond.code ({ cls := "DotRunsLaw$Page", name := "wrong", desc := "(I)I" } : Jvm.MethodName) prog_11_method_7_code (4 : Nat) (Option.some Jvm.ClassFile.FieldType.int) ∈ TW := tw_t 1248 (by decide +kernel) rfl
theorem tw1249 : Jvm.Cond.methodLink "DotRunsLaw" (165 : Nat) ({ cls := "DotRuns", name := "sent", desc := "(I)I" } : Jvm.MethodName) ∈ TW := tw_t 1249 (by decide +kernel) rfl
theorem tw1250 : Jvm.Cond.instanceMethod ({ cls := "DotRuns", name := "sent", desc := "(I)I" } : Jvm.MethodName) ∈ TW := tw_t 1250 (by decide +kernel) rfl
theorem tw1251 : Jvm.Cond.selects "DotRuns" ({ cls := "DotRuns", name := "sent", desc := "(I)I" } : Jvm.MethodName) ({ cls := "DotRuns", name := "sent", desc := "(I)I" } : Jvm.MethodName) ∈ TW := tw_t 1251 (by decide +kernel) rfl
theorem tw1252 : Jvm.Cond.code ({ cls := "DotRuns", name := "sent", desc := "(I)I" } : Jvm.MethodName) prog_1_method_25_code (2 : Nat) (Option.some Jvm.ClassFile.FieldType.int) ∈ TW := tw_t 1252 (by decide +kernel) rfl
theorem tw1305 : Jvm.Cond.methodLink "DotRunsLaw" (173 : Nat) ({ cls := "DotRunsLaw$Page", name := "allWrong", desc := "()I" } : Jvm.MethodName) ∈ TW := tw_t 1305 (by decide +kernel) rfl
theorem tw1306 : Jvm.Cond.instanceMethod ({ cls := "DotRunsLaw$Page", name := "allWrong", desc := "()I" } : Jvm.MethodName) ∈ TW := tw_t 1306 (by decide +kernel) rfl
theorem tw1307 : Jvm.Cond.selects "DotRunsLaw$Page" ({ cls := "DotRunsLaw$Page", name := "allWrong", desc := "()I" } : Jvm.MethodName) ({ cls := "DotRunsLaw$Page", name := "allWrong", desc := "()I" } : Jvm.MethodName) ∈ TW := tw_t 1307 (by decide +kernel) rfl
theorem tw1308 : Jvm.Cond.code ({ cls := "DotRunsLaw$Page", name := "allWrong", desc := "()I" } : Jvm.MethodName) prog_11_method_8_code (3 : Nat) (Option.some Jvm.ClassFile.FieldType.int) ∈ TW := tw_t 1308 (by decide +kernel) rfl
theorem tw1309 : Jvm.Cond.methodLink "DotRunsLaw" (182 : Nat) ({ cls := "DotRunsLaw$Page", name := "count", desc := "(I)I" } : Jvm.MethodName) ∈ TW := tw_t 1309 (by decide +kernel) rfl
theorem tw1310 : Jvm.Cond.instanceMethod ({ cls := "DotRunsLaw$Page", name := "count", desc := "(I)I" } : Jvm.MethodName) ∈ TW := tw_t 1310 (by decide +kernel) rfl
theorem tw1311 : Jvm.Cond.selects "DotRunsLaw$Page" ({ cls := "DotRunsLaw$Page", name := "count", desc := "(I)I" } : Jvm.MethodName) ({ cls := "DotRunsLaw$Page", name := "count", desc := "(I)I" } : Jvm.MethodName) ∈ TW := tw_t 1311 (by decide +kernel) rfl
theorem tw1312 : Jvm.Cond.code ({ cls := "DotRunsLaw$Page", name := "count", desc := "(I)I" } : Jvm.MethodName) prog_11_method_10_code (7 : Nat) (Option.some Jvm.ClassFile.FieldType.int) ∈ TW := tw_t 1312 (by decide +kernel) rfl
theorem tw1313 : Jvm.Cond.methodLink "DotRunsLaw" (183 : Nat) ({ cls := "DotRuns", name := "sentLine", desc := "(II)I" } : Jvm.MethodName) ∈ TW := tw_t 1313 (by decide +kernel) rfl
theorem tw1314 : Jvm.Cond.instanceMethod ({ cls := "DotRuns", name := "sentLine", desc := "(II)I" } : Jvm.MethodName) ∈ TW := tw_t 1314 (by decide +kernel) rfl
theorem tw1315 : Jvm.Cond.selects "DotRuns" ({ cls := "DotRuns", name := "sentLine", desc := "(II)I" } : Jvm.MethodName) ({ cls := "DotRuns", name := "sentLine", desc := "(II)I" } : Jvm.MethodName) ∈ TW := tw_t 1315 (by decide +kernel) rfl
theorem tw1316 : Jvm.Cond.code ({ cls := "DotRuns", name := "sentLine", desc := "(II)I" } : Jvm.MethodName) prog_1_method_26_code (3 : Nat) (Option.some Jvm.ClassFile.FieldType.int) ∈ TW := tw_t 1316 (by decide +kernel) rfl
theorem tw1318 : Jvm.Cond.methodLink "DotRunsLaw" (192 : Nat) ({ cls := "DotRunsLaw$Page", name := "wrong", desc := "(I)I" } : Jvm.MethodName) ∈ TW := tw_t 1318 (by decide +kernel) rfl
theorem tw1319 : Jvm.Cond.methodLink "DotRunsLaw" (198 : Nat) ({ cls := "DotRuns", name := "received", desc := "(II)I" } : Jvm.MethodName) ∈ TW := tw_t 1319 (by decide +kernel) rfl
theorem tw1320 : Jvm.Cond.instanceMethod ({ cls := "DotRuns", name := "received", desc := "(II)I" } : Jvm.MethodName) ∈ TW := tw_t 1320 (by decide +kernel) rfl
theorem tw1321 : Jvm.Cond.selects "DotRuns" ({ cls := "DotRuns", name := "received", desc := "(II)I" } : Jvm.MethodName) ({ cls := "DotRuns", name := "received", desc := "(II)I" } : Jvm.MethodName) ∈ TW := tw_t 1321 (by decide +kernel) rfl
theorem tw1322 : Jvm.Cond.code ({ cls := "DotRuns", name := "received", desc := "(II)I" } : Jvm.MethodName) prog_1_method_27_code (3 : Nat) (Option.some Jvm.ClassFile.FieldType.int) ∈ TW := tw_t 1322 (by decide +kernel) rfl
theorem tw1326 : Jvm.Cond.methodLink "DotRunsLaw" (208 : Nat) ({ cls := "DotRuns", name := "harm", desc := "(II)I" } : Jvm.MethodName) ∈ TW := tw_t 1326 (by decide +kernel) rfl
theorem tw1327 : Jvm.Cond.instanceMethod ({ cls := "DotRuns", name := "harm", desc := "(II)I" } : Jvm.MethodName) ∈ TW := tw_t 1327 (by decide +kernel) rfl
theorem tw1328 : Jvm.Cond.selects "DotRuns" ({ cls := "DotRuns", name := "harm", desc := "(II)I" } : Jvm.MethodName) ({ cls := "DotRuns", name := "harm", desc := "(II)I" } : Jvm.MethodName) ∈ TW := tw_t 1328 (by decide +kernel) rfl
theorem tw1329 : Jvm.Cond.code ({ cls := "DotRuns", name := "harm", desc := "(II)I" } : Jvm.MethodName) prog_1_method_28_code (3 : Nat) (Option.some Jvm.ClassFile.FieldType.int) ∈ TW := tw_t 1329 (by decide +kernel) rfl
theorem tw1342 : Jvm.Cond.methodLink "DotRunsLaw" (215 : Nat) ({ cls := "DotRuns", name := "worst", desc := "()I" } : Jvm.MethodName) ∈ TW := tw_t 1342 (by decide +kernel) rfl
theorem tw1343 : Jvm.Cond.instanceMethod ({ cls := "DotRuns", name := "worst", desc := "()I" } : Jvm.MethodName) ∈ TW := tw_t 1343 (by decide +kernel) rfl
theorem tw1344 : Jvm.Cond.selects "DotRuns" ({ cls := "DotRuns", name := "worst", desc := "()I" } : Jvm.MethodName) ({ cls := "DotRuns", name := "worst", desc := "()I" } : Jvm.MethodName) ∈ TW := tw_t 1344 (by decide +kernel) rfl
theorem tw1345 : Jvm.Cond.code ({ cls := "DotRuns", name := "worst", desc := "()I" } : Jvm.MethodName) prog_1_method_29_code (5 : Nat) (Option.some Jvm.ClassFile.FieldType.int) ∈ TW := tw_t 1345 (by decide +kernel) rfl
theorem tw1346 : Jvm.Cond.methodLink "DotRunsLaw" (218 : Nat) ({ cls := "DotRuns", name := "bestEvery", desc := "()I" } : Jvm.MethodName) ∈ TW := tw_t 1346 (by decide +kernel) rfl
theorem tw1347 : Jvm.Cond.instanceMethod ({ cls := "DotRuns", name := "bestEvery", desc := "()I" } : Jvm.MethodName) ∈ TW := tw_t 1347 (by decide +kernel) rfl
theorem tw1348 : Jvm.Cond.selects "DotRuns" ({ cls := "DotRuns", name := "bestEvery", desc := "()I" } : Jvm.MethodName) ({ cls := "DotRuns", name := "bestEvery", desc := "()I" } : Jvm.MethodName) ∈ TW := tw_t 1348 (by decide +kernel) rfl
theorem tw1349 : Jvm.Cond.code ({ cls := "DotRuns", name := "bestEvery", desc := "()I" } : Jvm.MethodName) prog_1_method_30_code (6 : Nat) (Option.some Jvm.ClassFile.FieldType.int) ∈ TW := tw_t 1349 (by decide +kernel) rfl
theorem tw1352 : Jvm.Cond.methodLink "DotRunsLaw" (221 : Nat) ({ cls := "DotRuns", name := "needsSteps", desc := "()I" } : Jvm.MethodName) ∈ TW := tw_t 1352 (by decide +kernel) rfl
theorem tw1353 : Jvm.Cond.instanceMethod ({ cls := "DotRuns", name := "needsSteps", desc := "()I" } : Jvm.MethodName) ∈ TW := tw_t 1353 (by decide +kernel) rfl
theorem tw1354 : Jvm.Cond.selects "DotRuns" ({ cls := "DotRuns", name := "needsSteps", desc := "()I" } : Jvm.MethodName) ({ cls := "DotRuns", name := "needsSteps", desc := "()I" } : Jvm.MethodName) ∈ TW := tw_t 1354 (by decide +kernel) rfl
theorem tw1355 : Jvm.Cond.code ({ cls := "DotRuns", name := "needsSteps", desc := "()I" } : Jvm.MethodName) prog_1_method_31_code (2 : Nat) (Option.some Jvm.ClassFile.FieldType.int) ∈ TW := tw_t 1355 (by decide +kernel) rfl
theorem tw1359 : Jvm.Cond.classLink "DotRunsLaw" (224 : Nat) "java/lang/StringBuilder" ∈ TW := tw_t 1359 (by decide +kernel) rfl
theorem tw1360 : Jvm.Cond.instantiable "java/lang/StringBuilder" (4 : Nat) ∈ TW := tw_t 1360 (by decide +kernel) rfl
theorem tw1361 : Jvm.Cond.methodLink "DotRunsLaw" (226 : Nat) ({ cls := "java/lang/StringBuilder", name := "<init>", desc := "()V" } : Jvm.MethodName) ∈ TW := tw_t 1361 (by decide +kernel) rfl
theorem tw1362 : Jvm.Cond.instanceMethod ({ cls := "java/lang/StringBuilder", name := "<init>", desc := "()V" } : Jvm.MethodName) ∈ TW := tw_t 1362 (by decide +kernel) rfl
theorem tw1363 : Jvm.Cond.code ({ cls := "java/lang/StringBuilder", name := "<init>", desc := "()V" } : Jvm.MethodName) prog_32_method_1_code (1 : Nat) (Option.none : Option Jvm.ClassFile.FieldType) ∈ TW := tw_t 1363 (by decide +kernel) rfl
theorem tw1364 : Jvm.Cond.methodLink "java/lang/StringBuilder" (1 : Nat) ({ cls := "java/lang/AbstractStringBuilder", name := "<init>", desc := "(I)V" } : Jvm.MethodName) ∈ TW := tw_t 1364 (by decide +kernel) rfl
theorem tw1365 : Jvm.Cond.instanceMethod ({ cls := "java/lang/AbstractStringBuilder", name := "<init>", desc := "(I)V" } : Jvm.MethodName) ∈ TW := tw_t 1365 (by decide +kernel) rfl
theorem tw1366 : Jvm.Cond.code ({ cls := "java/lang/AbstractStringBuilder", name := "<init>", desc := "(I)V" } : Jvm.MethodName) prog_15_method_2_code (2 : Nat) (Option.none : Option Jvm.ClassFile.FieldType) ∈ TW := tw_t 1366 (by decide +kernel) rfl
theorem tw1367 : Jvm.Cond.methodLink "java/lang/AbstractStringBuilder" (3 : Nat) ({ cls := "java/lang/Object", name := "<init>", desc := "()V" } : Jvm.MethodName) ∈ TW := tw_t 1367 (by decide +kernel) rfl
theorem tw1368 : Jvm.Cond.fieldLink "java/lang/AbstractStringBuilder" (18 : Nat) "java/lang/String" "COMPACT_STRINGS" "Z" ∈ TW := tw_t 1368 (by decide +kernel) rfl
theorem tw1375 : Jvm.Cond.constant "java/lang/StringUTF16" (20 : Nat) (1073741823 : Int32) ∈ TW := tw_t 1375 (by decide +kernel) rfl
theorem tw1376 : Jvm.Cond.fieldLink "java/lang/AbstractStringBuilder" (15 : Nat) "java/lang/AbstractStringBuilder" "value" "[B" ∈ TW := tw_t 1376 (by decide +kernel) rfl
theorem tw1377 : Jvm.Cond.fieldLink "java/lang/AbstractStringBuilder" (22 : Nat) "java/lang/AbstractStringBuilder" "coder" "B" ∈ TW := tw_t 1377 (by decide +kernel) rfl
theorem tw1378 : Jvm.Cond.fieldLink "java/lang/String" (1048 : Nat) "java/lang/AbstractStringBuilder" "maybeLatin1" "Z" ∈ TW := tw_t 1378 (by decide +kernel) rfl
theorem tw1379 : Jvm.Cond.fieldLink "java/lang/AbstractStringBuilder" (79 : Nat) "java/lang/AbstractStringBuilder" "count" "I" ∈ TW := tw_t 1379 (by decide +kernel) rfl
theorem tw1388 : Jvm.Cond.superclass "java/lang/StringBuilder" "java/lang/AbstractStringBuilder" ∈ TW := tw_t 1388 (by decide +kernel) rfl
theorem tw1389 : Jvm.Cond.methodLink "DotRunsLaw" (227 : Nat) ({ cls := "java/lang/StringBuilder", name := "append", desc := "(C)Ljava/lang/StringBuilder;" } : Jvm.MethodName) ∈ TW := tw_t 1389 (by decide +kernel) rfl
theorem tw1390 : Jvm.Cond.instanceMethod ({ cls := "java/lang/StringBuilder", name := "append", desc := "(C)Ljava/lang/StringBuilder;" } : Jvm.MethodName) ∈ TW := tw_t 1390 (by decide +kernel) rfl
theorem tw1391 : Jvm.Cond.selects "java/lang/StringBuilder" ({ cls := "java/lang/StringBuilder", name := "append", desc := "(C)Ljava/lang/StringBuilder;" } : Jvm.MethodName) ({ cls := "java/lang/StringBuilder", name := "append", desc := "(C)Ljava/lang/StringBuilder;" } : Jvm.MethodName) ∈ TW := tw_t 1391 (by decide +kernel) rfl
theorem tw1392 : Jvm.Cond.code ({ cls := "java/lang/StringBuilder", name := "append", desc := "(C)Ljava/lang/StringBuilder;" } : Jvm.MethodName) prog_32_method_14_code (2 : Nat) (Option.some (Jvm.ClassFile.FieldType.object "java/lang/StringBuilder")) ∈ TW := tw_t 1392 (by decide +kernel) rfl
theorem tw1393 : Jvm.Cond.methodLink "java/lang/StringBuilder" (50 : Nat) ({ cls := "java/lang/AbstractStringBuilder", name := "append", desc := "(C)Ljava/lang/AbstractStringBuilder;" } : Jvm.MethodName) ∈ TW := tw_t 1393 (by decide +kernel) rfl
theorem tw1394 : Jvm.Cond.instanceMethod ({ cls := "java/lang/AbstractStringBuilder", name := "append", desc := "(C)Ljava/lang/AbstractStringBuilder;" } : Jvm.MethodName) ∈ TW := tw_t 1394 (by decide +kernel) rfl
theorem tw1395 : Jvm.Cond.code ({ cls := "java/lang/AbstractStringBuilder", name := "append", desc := "(C)Ljava/lang/AbstractStringBuilder;" } : Jvm.MethodName) prog_15_method_31_code (2 : Nat) (Option.some (Jvm.ClassFile.FieldType.object "java/lang/AbstractStringBuilder")) ∈ TW := tw_t 1395 (by decide +kernel) rfl
theorem tw1396 : Jvm.Cond.methodLink "java/lang/AbstractStringBuilder" (100 : Nat) ({ cls := "java/lang/AbstractStringBuilder", name := "ensureCapacityInternal", desc := "(I)V" } : Jvm.MethodName) ∈ TW := tw_t 1396 (by decide +kernel) rfl
theorem tw1398 : Jvm.Cond.instanceMethod ({ cls := "java/lang/AbstractStringBuilder", name := "ensureCapacityInternal", desc := "(I)V" } : Jvm.MethodName) ∈ TW := tw_t 1398 (by decide +kernel) rfl
theorem tw1399 : Jvm.Cond.code ({ cls := "java/lang/AbstractStringBuilder", name := "ensureCapacityInternal", desc := "(I)V" } : Jvm.MethodName) prog_15_method_9_code (3 : Nat) (Option.none : Option Jvm.ClassFile.FieldType) ∈ TW := tw_t 1399 (by decide +kernel) rfl
theorem tw1400 : Jvm.Cond.methodLink "java/lang/AbstractStringBuilder" (104 : Nat) ({ cls := "java/lang/AbstractStringBuilder", name := "newCapacity", desc := "(I)I" } : Jvm.MethodName) ∈ TW := tw_t 1400 (by decide +kernel) rfl
theorem tw1402 : Jvm.Cond.instanceMethod ({ cls := "java/lang/AbstractStringBuilder", name := "newCapacity", desc := "(I)I" } : Jvm.MethodName) ∈ TW := tw_t 1402 (by decide +kernel) rfl
theorem tw1403 : Jvm.Cond.code ({ cls := "java/lang/AbstractStringBuilder", name := "newCapacity", desc := "(I)I" } : Jvm.MethodName) prog_15_method_10_code (6 : Nat) (Option.some Jvm.ClassFile.FieldType.int) ∈ TW := tw_t 1403 (by decide +kernel) rfl
theorem tw1404 : Jvm.Cond.methodLink "java/lang/AbstractStringBuilder" (114 : Nat) ({ cls := "jdk/internal/util/ArraysSupport", name := "newLength", desc := "(III)I" } : Jvm.MethodName) ∈ TW := tw_t 1404 (by decide +kernel) rfl
theorem tw1405 : Jvm.Cond.constant "java/lang/AbstractStringBuilder" (39 : Nat) (2147483647 : Int32) ∈ TW := tw_t 1405 (by decide +kernel) rfl
theorem tw1406 : Jvm.Cond.methodLink "java/lang/AbstractStringBuilder" (108 : Nat) ({ cls := "java/util/Arrays", name := "copyOf", desc := "([BI)[B" } : Jvm.MethodName) ∈ TW := tw_t 1406 (by decide +kernel) rfl
theorem tw1407 : Jvm.Cond.static ({ cls := "java/util/Arrays", name := "copyOf", desc := "([BI)[B" } : Jvm.MethodName) ∈ TW := tw_t 1407 (by decide +kernel) rfl
theorem tw1408 : Jvm.Cond.code ({ cls := "java/util/Arrays", name := "copyOf", desc := "([BI)[B" } : Jvm.MethodName) prog_43_method_121_code (3 : Nat) (Option.some (Jvm.ClassFile.FieldType.array Jvm.ClassFile.FieldType.byte)) ∈ TW := tw_t 1408 (by decide +kernel) rfl
theorem tw1409 : Jvm.Cond.methodLink "java/util/Arrays" (310 : Nat) ({ cls := "[B", name := "clone", desc := "()Ljava/lang/Object;" } : Jvm.MethodName) ∈ TW := tw_t 1409 (by decide +kernel) rfl
theorem tw1410 : Jvm.Cond.sameMethod "[B" "java/lang/Object" "clone" "()Ljava/lang/Object;" ∈ TW := tw_t 1410 (by decide +kernel) rfl
theorem tw1411 : Jvm.Cond.selects "[B" ({ cls := "[B", name := "clone", desc := "()Ljava/lang/Object;" } : Jvm.MethodName) ({ cls := "java/lang/Object", name := "clone", desc := "()Ljava/lang/Object;" } : Jvm.MethodName) ∈ TW := tw_t 1411 (by decide +kernel) rfl
theorem tw1413 : Jvm.Cond.classLink "java/util/Arrays" (311 : Nat) "[B" ∈ TW := tw_t 1413 (by decide +kernel) rfl
theorem tw1414 : Jvm.Cond.methodLink "java/lang/AbstractStringBuilder" (83 : Nat) ({ cls := "java/lang/AbstractStringBuilder", name := "isLatin1", desc := "()Z" } : Jvm.MethodName) ∈ TW := tw_t 1414 (by decide +kernel) rfl
theorem tw1415 : Jvm.Cond.instanceMethod ({ cls := "java/lang/AbstractStringBuilder", name := "isLatin1", desc := "()Z" } : Jvm.MethodName) ∈ TW := tw_t 1415 (by decide +kernel) rfl
theorem tw1416 : Jvm.Cond.sameMethod "java/lang/AbstractStringBuilder" "java/lang/AbstractStringBuilder" "isLatin1" "()Z" ∈ TW := tw_t 1416 (by decide +kernel) rfl
theorem tw1417 : Jvm.Cond.selects "java/lang/StringBuilder" ({ cls := "java/lang/AbstractStringBuilder", name := "isLatin1", desc := "()Z" } : Jvm.MethodName) ({ cls := "java/lang/AbstractStringBuilder", name := "isLatin1", desc := "()Z" } : Jvm.MethodName) ∈ TW := tw_t 1417 (by decide +kernel) rfl
theorem tw1418 : Jvm.Cond.code ({ cls := "java/lang/AbstractStringBuilder", name := "isLatin1", desc := "()Z" } : Jvm.MethodName) prog_15_method_68_code (1 : Nat) (Option.some Jvm.ClassFile.FieldType.boolean) ∈ TW := tw_t 1418 (by decide +kernel) rfl
theorem tw1419 : Jvm.Cond.methodLink "java/lang/AbstractStringBuilder" (191 : Nat) ({ cls := "java/lang/StringLatin1", name := "canEncode", desc := "(C)Z" } : Jvm.MethodName) ∈ TW := tw_t 1419 (by decide +kernel) rfl
theorem tw1420 : Jvm.Cond.static ({ cls := "java/lang/StringLatin1", name := "canEncode", desc := "(C)Z" } : Jvm.MethodName) ∈ TW := tw_t 1420 (by decide +kernel) rfl
theorem tw1421 : Jvm.Cond.code ({ cls := "java/lang/StringLatin1", name := "canEncode", desc := "(C)Z" } : Jvm.MethodName) prog_33_method_3_code (1 : Nat) (Option.some Jvm.ClassFile.FieldType.boolean) ∈ TW := tw_t 1421 (by decide +kernel) rfl
theorem tw1447 : Jvm.Cond.methodLink "DotRunsLaw" (231 : Nat) ({ cls := "java/lang/StringBuilder", name := "toString", desc := "()Ljava/lang/String;" } : Jvm.MethodName) ∈ TW := tw_t 1447 (by decide +kernel) rfl
theorem tw1448 : Jvm.Cond.instanceMethod ({ cls := "java/lang/StringBuilder", name := "toString", desc := "()Ljava/lang/String;" } : Jvm.MethodName) ∈ TW := tw_t 1448 (by decide +kernel) rfl
theorem tw1449 : Jvm.Cond.selects "java/lang/StringBuilder" ({ cls := "java/lang/StringBuilder", name := "toString", desc := "()Ljava/lang/String;" } : Jvm.MethodName) ({ cls := "java/lang/StringBuilder", name := "toString", desc := "()Ljava/lang/String;" } : Jvm.MethodName) ∈ TW := tw_t 1449 (by decide +kernel) rfl
theorem tw1450 : Jvm.Cond.code ({ cls := "java/lang/StringBuilder", name := "toString", desc := "()Ljava/lang/String;" } : Jvm.MethodName) prog_32_method_42_code (1 : Nat) (Option.some (Jvm.ClassFile.FieldType.object "java/lang/String")) ∈ TW := tw_t 1450 (by decide +kernel) rfl
theorem tw1451 : Jvm.Cond.classLink "java/lang/StringBuilder" (18 : Nat) "java/lang/String" ∈ TW := tw_t 1451 (by decide +kernel) rfl
theorem tw1452 : Jvm.Cond.instantiable "java/lang/String" (4 : Nat) ∈ TW := tw_t 1452 (by decide +kernel) rfl
theorem tw1453 : Jvm.Cond.methodLink "java/lang/StringBuilder" (137 : Nat) ({ cls := "java/lang/String", name := "<init>", desc := "(Ljava/lang/StringBuilder;)V" } : Jvm.MethodName) ∈ TW := tw_t 1453 (by decide +kernel) rfl
theorem tw1454 : Jvm.Cond.instanceMethod ({ cls := "java/lang/String", name := "<init>", desc := "(Ljava/lang/StringBuilder;)V" } : Jvm.MethodName) ∈ TW := tw_t 1454 (by decide +kernel) rfl
theorem tw1455 : Jvm.Cond.code ({ cls := "java/lang/String", name := "<init>", desc := "(Ljava/lang/StringBuilder;)V" } : Jvm.MethodName) prog_31_method_53_code (2 : Nat) (Option.none : Option Jvm.ClassFile.FieldType) ∈ TW := tw_t 1455 (by decide +kernel) rfl
theorem tw1456 : Jvm.Cond.methodLink "java/lang/String" (489 : Nat) ({ cls := "java/lang/String", name := "<init>", desc := "(Ljava/lang/AbstractStringBuilder;Ljava/lang/Void;)V" } : Jvm.MethodName) ∈ TW := tw_t 1456 (by decide +kernel) rfl
theorem tw1457 : Jvm.Cond.instanceMethod ({ cls := "java/lang/String", name := "<init>", desc := "(Ljava/lang/AbstractStringBuilder;Ljava/lang/Void;)V" } : Jvm.MethodName) ∈ TW := tw_t 1457 (by decide +kernel) rfl
theorem tw1458 : Jvm.Cond.code ({ cls := "java/lang/String", name := "<init>", desc := "(Ljava/lang/AbstractStringBuilder;Ljava/lang/Void;)V" } : Jvm.MethodName) prog_31_method_150_code (5 : Nat) (Option.none : Option Jvm.ClassFile.FieldType) ∈ TW := tw_t 1458 (by decide +kernel) rfl
theorem tw1459 : Jvm.Cond.methodLink "java/lang/String" (1 : Nat) ({ cls := "java/lang/Object", name := "<init>", desc := "()V" } : Jvm.MethodName) ∈ TW := tw_t 1459 (by decide +kernel) rfl
theorem tw1460 : Jvm.Cond.methodLink "java/lang/String" (552 : Nat) ({ cls := "java/lang/AbstractStringBuilder", name := "getValue", desc := "()[B" } : Jvm.MethodName) ∈ TW := tw_t 1460 (by decide +kernel) rfl
theorem tw1461 : Jvm.Cond.instanceMethod ({ cls := "java/lang/AbstractStringBuilder", name := "getValue", desc := "()[B" } : Jvm.MethodName) ∈ TW := tw_t 1461 (by decide +kernel) rfl
theorem tw1462 : Jvm.Cond.sameMethod "java/lang/AbstractStringBuilder" "java/lang/AbstractStringBuilder" "getValue" "()[B" ∈ TW := tw_t 1462 (by decide +kernel) rfl
theorem tw1463 : Jvm.Cond.selects "java/lang/StringBuilder" ({ cls := "java/lang/AbstractStringBuilder", name := "getValue", desc := "()[B" } : Jvm.MethodName) ({ cls := "java/lang/AbstractStringBuilder", name := "getValue", desc := "()[B" } : Jvm.MethodName) ∈ TW := tw_t 1463 (by decide +kernel) rfl
theorem tw1464 : Jvm.Cond.code ({ cls := "java/lang/AbstractStringBuilder", name := "getValue", desc := "()[B" } : Jvm.MethodName) prog_15_method_64_code (1 : Nat) (Option.some (Jvm.ClassFile.FieldType.array Jvm.ClassFile.FieldType.byte)) ∈ TW := tw_t 1464 (by decide +kernel) rfl
theorem tw1465 : Jvm.Cond.methodLink "java/lang/String" (549 : Nat) ({ cls := "java/lang/AbstractStringBuilder", name := "length", desc := "()I" } : Jvm.MethodName) ∈ TW := tw_t 1465 (by decide +kernel) rfl
theorem tw1466 : Jvm.Cond.instanceMethod ({ cls := "java/lang/AbstractStringBuilder", name := "length", desc := "()I" } : Jvm.MethodName) ∈ TW := tw_t 1466 (by decide +kernel) rfl
theorem tw1467 : Jvm.Cond.sameMethod "java/lang/AbstractStringBuilder" "java/lang/AbstractStringBuilder" "length" "()I" ∈ TW := tw_t 1467 (by decide +kernel) rfl
theorem tw1468 : Jvm.Cond.selects "java/lang/StringBuilder" ({ cls := "java/lang/AbstractStringBuilder", name := "length", desc := "()I" } : Jvm.MethodName) ({ cls := "java/lang/StringBuilder", name := "length", desc := "()I" } : Jvm.MethodName) ∈ TW := tw_t 1468 (by decide +kernel) rfl
theorem tw1472 : Jvm.Cond.code ({ cls := "java/lang/AbstractStringBuilder", name := "length", desc := "()I" } : Jvm.MethodName) prog_15_method_6_code (1 : Nat) (Option.some Jvm.ClassFile.FieldType.int) ∈ TW := tw_t 1472 (by decide +kernel) rfl
theorem tw1473 : Jvm.Cond.methodLink "java/lang/String" (1047 : Nat) ({ cls := "java/lang/AbstractStringBuilder", name := "isLatin1", desc := "()Z" } : Jvm.MethodName) ∈ TW := tw_t 1473 (by decide +kernel) rfl
theorem tw1474 : Jvm.Cond.methodLink "java/lang/String" (54 : Nat) ({ cls := "java/util/Arrays", name := "copyOfRange", desc := "([BII)[B" } : Jvm.MethodName) ∈ TW := tw_t 1474 (by decide +kernel) rfl
theorem tw1475 : Jvm.Cond.static ({ cls := "java/util/Arrays", name := "copyOfRange", desc := "([BII)[B" } : Jvm.MethodName) ∈ TW := tw_t 1475 (by decide +kernel) rfl
theorem tw1476 : Jvm.Cond.code ({ cls := "java/util/Arrays", name := "copyOfRange", desc := "([BII)[B" } : Jvm.MethodName) prog_43_method_132_code (3 : Nat) (Option.some (Jvm.ClassFile.FieldType.array Jvm.ClassFile.FieldType.byte)) ∈ TW := tw_t 1476 (by decide +kernel) rfl
theorem tw1477 : Jvm.Cond.methodLink "java/util/Arrays" (339 : Nat) ({ cls := "java/util/Arrays", name := "copyOfRangeByte", desc := "([BII)[B" } : Jvm.MethodName) ∈ TW := tw_t 1477 (by decide +kernel) rfl
theorem tw1478 : Jvm.Cond.static ({ cls := "java/util/Arrays", name := "copyOfRangeByte", desc := "([BII)[B" } : Jvm.MethodName) ∈ TW := tw_t 1478 (by decide +kernel) rfl
theorem tw1479 : Jvm.Cond.code ({ cls := "java/util/Arrays", name := "copyOfRangeByte", desc := "([BII)[B" } : Jvm.MethodName) prog_43_method_133_code (5 : Nat) (Option.some (Jvm.ClassFile.FieldType.array Jvm.ClassFile.FieldType.byte)) ∈ TW := tw_t 1479 (by decide +kernel) rfl
theorem tw1480 : Jvm.Cond.methodLink "java/util/Arrays" (343 : Nat) ({ cls := "java/util/Arrays", name := "checkLength", desc := "(II)V" } : Jvm.MethodName) ∈ TW := tw_t 1480 (by decide +kernel) rfl
theorem tw1481 : Jvm.Cond.static ({ cls := "java/util/Arrays", name := "checkLength", desc := "(II)V" } : Jvm.MethodName) ∈ TW := tw_t 1481 (by decide +kernel) rfl
theorem tw1482 : Jvm.Cond.code ({ cls := "java/util/Arrays", name := "checkLength", desc := "(II)V" } : Jvm.MethodName) prog_43_method_131_code (2 : Nat) (Option.none : Option Jvm.ClassFile.FieldType) ∈ TW := tw_t 1482 (by decide +kernel) rfl
theorem tw1507 : Jvm.Cond.methodLink "DotRunsLaw" (235 : Nat) ({ cls := "DotRuns", name := "truncateText", desc := "(I)I" } : Jvm.MethodName) ∈ TW := tw_t 1507 (by decide +kernel) rfl
theorem tw1508 : Jvm.Cond.instanceMethod ({ cls := "DotRuns", name := "truncateText", desc := "(I)I" } : Jvm.MethodName) ∈ TW := tw_t 1508 (by decide +kernel) rfl
theorem tw1509 : Jvm.Cond.selects "DotRuns" ({ cls := "DotRuns", name := "truncateText", desc := "(I)I" } : Jvm.MethodName) ({ cls := "DotRuns", name := "truncateText", desc := "(I)I" } : Jvm.MethodName) ∈ TW := tw_t 1509 (by decide +kernel) rfl
theorem tw1510 : Jvm.Cond.code ({ cls := "DotRuns", name := "truncateText", desc := "(I)I" } : Jvm.MethodName) prog_1_method_3_code (2 : Nat) (Option.some Jvm.ClassFile.FieldType.int) ∈ TW := tw_t 1510 (by decide +kernel) rfl
theorem tw1512 : Jvm.Cond.methodLink "DotRunsLaw" (238 : Nat) ({ cls := "java/lang/String", name := "length", desc := "()I" } : Jvm.MethodName) ∈ TW := tw_t 1512 (by decide +kernel) rfl
theorem tw1513 : Jvm.Cond.methodLink "DotRunsLaw" (243 : Nat) ({ cls := "java/lang/String", name := "charAt", desc := "(I)C" } : Jvm.MethodName) ∈ TW := tw_t 1513 (by decide +kernel) rfl
theorem tw1514 : Jvm.Cond.methodLink "DotRunsLaw" (247 : Nat) ({ cls := "DotRuns", name := "appendText", desc := "(I)I" } : Jvm.MethodName) ∈ TW := tw_t 1514 (by decide +kernel) rfl
theorem tw1515 : Jvm.Cond.instanceMethod ({ cls := "DotRuns", name := "appendText", desc := "(I)I" } : Jvm.MethodName) ∈ TW := tw_t 1515 (by decide +kernel) rfl
theorem tw1516 : Jvm.Cond.selects "DotRuns" ({ cls := "DotRuns", name := "appendText", desc := "(I)I" } : Jvm.MethodName) ({ cls := "DotRuns", name := "appendText", desc := "(I)I" } : Jvm.MethodName) ∈ TW := tw_t 1516 (by decide +kernel) rfl
theorem tw1517 : Jvm.Cond.code ({ cls := "DotRuns", name := "appendText", desc := "(I)I" } : Jvm.MethodName) prog_1_method_2_code (2 : Nat) (Option.some Jvm.ClassFile.FieldType.int) ∈ TW := tw_t 1517 (by decide +kernel) rfl
theorem tw1526 : Jvm.Cond.methodLink "DotRunsLaw" (250 : Nat) ({ cls := "java/lang/Math", name := "min", desc := "(II)I" } : Jvm.MethodName) ∈ TW := tw_t 1526 (by decide +kernel) rfl
theorem tw1530 : Jvm.Cond.methodLink "java/lang/StringBuilder" (7 : Nat) ({ cls := "java/lang/AbstractStringBuilder", name := "<init>", desc := "(Ljava/lang/String;)V" } : Jvm.MethodName) ∈ TW := tw_t 1530 (by decide +kernel) rfl
theorem tw1531 : Jvm.Cond.instanceMethod ({ cls := "java/lang/AbstractStringBuilder", name := "<init>", desc := "(Ljava/lang/String;)V" } : Jvm.MethodName) ∈ TW := tw_t 1531 (by decide +kernel) rfl
theorem tw1532 : Jvm.Cond.code ({ cls := "java/lang/AbstractStringBuilder", name := "<init>", desc := "(Ljava/lang/String;)V" } : Jvm.MethodName) prog_15_method_3_code (5 : Nat) (Option.none : Option Jvm.ClassFile.FieldType) ∈ TW := tw_t 1532 (by decide +kernel) rfl
theorem tw1533 : Jvm.Cond.methodLink "java/lang/AbstractStringBuilder" (32 : Nat) ({ cls := "java/lang/String", name := "length", desc := "()I" } : Jvm.MethodName) ∈ TW := tw_t 1533 (by decide +kernel) rfl
theorem tw1534 : Jvm.Cond.constant "java/lang/AbstractStringBuilder" (38 : Nat) (2147483631 : Int32) ∈ TW := tw_t 1534 (by decide +kernel) rfl
theorem tw1535 : Jvm.Cond.methodLink "java/lang/AbstractStringBuilder" (40 : Nat) ({ cls := "java/lang/String", name := "coder", desc := "()B" } : Jvm.MethodName) ∈ TW := tw_t 1535 (by decide +kernel) rfl
theorem tw1536 : Jvm.Cond.methodLink "java/lang/AbstractStringBuilder" (43 : Nat) ({ cls := "java/lang/AbstractStringBuilder", name := "append", desc := "(Ljava/lang/String;)Ljava/lang/AbstractStringBuilder;" } : Jvm.MethodName) ∈ TW := tw_t 1536 (by decide +kernel) rfl
theorem tw1537 : Jvm.Cond.instanceMethod ({ cls := "java/lang/AbstractStringBuilder", name := "append", desc := "(Ljava/lang/String;)Ljava/lang/AbstractStringBuilder;" } : Jvm.MethodName) ∈ TW := tw_t 1537 (by decide +kernel) rfl
theorem tw1538 : Jvm.Cond.sameMethod "java/lang/AbstractStringBuilder" "java/lang/AbstractStringBuilder" "append" "(Ljava/lang/String;)Ljava/lang/AbstractStringBuilder;" ∈ TW := tw_t 1538 (by decide +kernel) rfl
theorem tw1539 : Jvm.Cond.selects "java/lang/StringBuilder" ({ cls := "java/lang/AbstractStringBuilder", name := "append", desc := "(Ljava/lang/String;)Ljava/lang/AbstractStringBuilder;" } : Jvm.MethodName) ({ cls := "java/lang/StringBuilder", name := "append", desc := "(Ljava/lang/String;)Ljava/lang/AbstractStringBuilder;" } : Jvm.MethodName) ∈ TW := tw_t 1539 (by decide +kernel) rfl
theorem tw1546 : Jvm.Cond.methodLink "java/lang/StringBuilder" (29 : Nat) ({ cls := "java/lang/AbstractStringBuilder", name := "append", desc := "(Ljava/lang/String;)Ljava/lang/AbstractStringBuilder;" } : Jvm.MethodName) ∈ TW := tw_t 1546 (by decide +kernel) rfl
theorem tw1547 : Jvm.Cond.code ({ cls := "java/lang/AbstractStringBuilder", name := "append", desc := "(Ljava/lang/String;)Ljava/lang/AbstractStringBuilder;" } : Jvm.MethodName) prog_15_method_22_code (3 : Nat) (Option.some (Jvm.ClassFile.FieldType.object "java/lang/AbstractStringBuilder")) ∈ TW := tw_t 1547 (by decide +kernel) rfl
theorem tw1564 : Jvm.Cond.methodLink "java/lang/AbstractStringBuilder" (208 : Nat) ({ cls := "java/lang/AbstractStringBuilder", name := "putStringAt", desc := "(ILjava/lang/String;)V" } : Jvm.MethodName) ∈ TW := tw_t 1564 (by decide +kernel) rfl
theorem tw1566 : Jvm.Cond.instanceMethod ({ cls := "java/lang/AbstractStringBuilder", name := "putStringAt", desc := "(ILjava/lang/String;)V" } : Jvm.MethodName) ∈ TW := tw_t 1566 (by decide +kernel) rfl
theorem tw1567 : Jvm.Cond.code ({ cls := "java/lang/AbstractStringBuilder", name := "putStringAt", desc := "(ILjava/lang/String;)V" } : Jvm.MethodName) prog_15_method_73_code (3 : Nat) (Option.none : Option Jvm.ClassFile.FieldType) ∈ TW := tw_t 1567 (by decide +kernel) rfl
theorem tw1568 : Jvm.Cond.methodLink "java/lang/AbstractStringBuilder" (397 : Nat) ({ cls := "java/lang/AbstractStringBuilder", name := "inflateIfNeededFor", desc := "(Ljava/lang/String;)V" } : Jvm.MethodName) ∈ TW := tw_t 1568 (by decide +kernel) rfl
theorem tw1570 : Jvm.Cond.instanceMethod ({ cls := "java/lang/AbstractStringBuilder", name := "inflateIfNeededFor", desc := "(Ljava/lang/String;)V" } : Jvm.MethodName) ∈ TW := tw_t 1570 (by decide +kernel) rfl
theorem tw1571 : Jvm.Cond.code ({ cls := "java/lang/AbstractStringBuilder", name := "inflateIfNeededFor", desc := "(Ljava/lang/String;)V" } : Jvm.MethodName) prog_15_method_71_code (2 : Nat) (Option.none : Option Jvm.ClassFile.FieldType) ∈ TW := tw_t 1571 (by decide +kernel) rfl
theorem tw1572 : Jvm.Cond.methodLink "java/lang/AbstractStringBuilder" (399 : Nat) ({ cls := "java/lang/String", name := "getBytes", desc := "([BIB)V" } : Jvm.MethodName) ∈ TW := tw_t 1572 (by decide +kernel) rfl
theorem tw1573 : Jvm.Cond.instanceMethod ({ cls := "java/lang/String", name := "getBytes", desc := "([BIB)V" } : Jvm.MethodName) ∈ TW := tw_t 1573 (by decide +kernel) rfl
theorem tw1574 : Jvm.Cond.selects "java/lang/String" ({ cls := "java/lang/String", name := "getBytes", desc := "([BIB)V" } : Jvm.MethodName) ({ cls := "java/lang/String", name := "getBytes", desc := "([BIB)V" } : Jvm.MethodName) ∈ TW := tw_t 1574 (by decide +kernel) rfl
theorem tw1575 : Jvm.Cond.code ({ cls := "java/lang/String", name := "getBytes", desc := "([BIB)V" } : Jvm.MethodName) prog_31_method_147_code (4 : Nat) (Option.none : Option Jvm.ClassFile.FieldType) ∈ TW := tw_t 1575 (by decide +kernel) rfl
theorem tw1576 : Jvm.Cond.methodLink "java/lang/String" (212 : Nat) ({ cls := "java/lang/System", name := "arraycopy", desc := "(Ljava/lang/Object;ILjava/lang/Object;II)V" } : Jvm.MethodName) ∈ TW := tw_t 1576 (by decide +kernel) rfl
theorem tw1583 : Jvm.Cond.methodLink "java/lang/StringBuilder" (53 : Nat) ({ cls := "java/lang/AbstractStringBuilder", name := "append", desc := "(I)Ljava/lang/AbstractStringBuilder;" } : Jvm.MethodName) ∈ TW := tw_t 1583 (by decide +kernel) rfl
theorem tw1584 : Jvm.Cond.instanceMethod ({ cls := "java/lang/AbstractStringBuilder", name := "append", desc := "(I)Ljava/lang/AbstractStringBuilder;" } : Jvm.MethodName) ∈ TW := tw_t 1584 (by decide +kernel) rfl
theorem tw1585 : Jvm.Cond.code ({ cls := "java/lang/AbstractStringBuilder", name := "append", desc := "(I)Ljava/lang/AbstractStringBuilder;" } : Jvm.MethodName) prog_15_method_32_code (4 : Nat) (Option.some (Jvm.ClassFile.FieldType.object "java/lang/AbstractStringBuilder")) ∈ TW := tw_t 1585 (by decide +kernel) rfl
theorem tw1586 : Jvm.Cond.methodLink "java/lang/AbstractStringBuilder" (245 : Nat) ({ cls := "java/lang/Integer", name := "stringSize", desc := "(I)I" } : Jvm.MethodName) ∈ TW := tw_t 1586 (by decide +kernel) rfl
theorem tw1587 : Jvm.Cond.static ({ cls := "java/lang/Integer", name := "stringSize", desc := "(I)I" } : Jvm.MethodName) ∈ TW := tw_t 1587 (by decide +kernel) rfl
theorem tw1588 : Jvm.Cond.code ({ cls := "java/lang/Integer", name := "stringSize", desc := "(I)I" } : Jvm.MethodName) prog_24_method_13_code (4 : Nat) (Option.some Jvm.ClassFile.FieldType.int) ∈ TW := tw_t 1588 (by decide +kernel) rfl
theorem tw1589 : Jvm.Cond.methodLink "java/lang/AbstractStringBuilder" (248 : Nat) ({ cls := "java/lang/Integer", name := "getChars", desc := "(II[B)I" } : Jvm.MethodName) ∈ TW := tw_t 1589 (by decide +kernel) rfl
theorem tw1590 : Jvm.Cond.static ({ cls := "java/lang/Integer", name := "getChars", desc := "(II[B)I" } : Jvm.MethodName) ∈ TW := tw_t 1590 (by decide +kernel) rfl
theorem tw1591 : Jvm.Cond.code ({ cls := "java/lang/Integer", name := "getChars", desc := "(II[B)I" } : Jvm.MethodName) prog_24_method_12_code (7 : Nat) (Option.some Jvm.ClassFile.FieldType.int) ∈ TW := tw_t 1591 (by decide +kernel) rfl
theorem tw1592 : Jvm.Cond.fieldLink "java/lang/Integer" (83 : Nat) "java/lang/Integer" "DigitOnes" "[B" ∈ TW := tw_t 1592 (by decide +kernel) rfl
theorem tw1594 : Jvm.Cond.fieldLink "java/lang/Integer" (87 : Nat) "java/lang/Integer" "DigitTens" "[B" ∈ TW := tw_t 1594 (by decide +kernel) rfl
theorem tw1609 : Jvm.Cond.methodLink "java/util/ArrayList" (135 : Nat) ({ cls := "java/util/ArrayList", name := "rangeCheckForAdd", desc := "(I)V" } : Jvm.MethodName) ∈ TW := tw_t 1609 (by decide +kernel) rfl
theorem tw1611 : Jvm.Cond.instanceMethod ({ cls := "java/util/ArrayList", name := "rangeCheckForAdd", desc := "(I)V" } : Jvm.MethodName) ∈ TW := tw_t 1611 (by decide +kernel) rfl
theorem tw1612 : Jvm.Cond.code ({ cls := "java/util/ArrayList", name := "rangeCheckForAdd", desc := "(I)V" } : Jvm.MethodName) prog_41_method_45_code (2 : Nat) (Option.none : Option Jvm.ClassFile.FieldType) ∈ TW := tw_t 1612 (by decide +kernel) rfl
theorem tw1613 : Jvm.Cond.methodLink "java/util/ArrayList" (112 : Nat) ({ cls := "java/lang/System", name := "arraycopy", desc := "(Ljava/lang/Object;ILjava/lang/Object;II)V" } : Jvm.MethodName) ∈ TW := tw_t 1613 (by decide +kernel) rfl
theorem tw1618 : Jvm.Cond.methodLink "java/util/ArrayList" (144 : Nat) ({ cls := "java/util/ArrayList", name := "fastRemove", desc := "([Ljava/lang/Object;I)V" } : Jvm.MethodName) ∈ TW := tw_t 1618 (by decide +kernel) rfl
theorem tw1620 : Jvm.Cond.instanceMethod ({ cls := "java/util/ArrayList", name := "fastRemove", desc := "([Ljava/lang/Object;I)V" } : Jvm.MethodName) ∈ TW := tw_t 1620 (by decide +kernel) rfl
theorem tw1621 : Jvm.Cond.code ({ cls := "java/util/ArrayList", name := "fastRemove", desc := "([Ljava/lang/Object;I)V" } : Jvm.MethodName) prog_41_method_39_code (4 : Nat) (Option.none : Option Jvm.ClassFile.FieldType) ∈ TW := tw_t 1621 (by decide +kernel) rfl
theorem tw1629 : Jvm.Cond.sameMethod "java/lang/AbstractStringBuilder" "java/lang/AbstractStringBuilder" "append" "(C)Ljava/lang/AbstractStringBuilder;" ∈ TW := tw_t 1629 (by decide +kernel) rfl
theorem tw1630 : Jvm.Cond.sameMethod "java/lang/AbstractStringBuilder" "java/lang/AbstractStringBuilder" "ensureCapacityInternal" "(I)V" ∈ TW := tw_t 1630 (by decide +kernel) rfl
theorem tw1631 : Jvm.Cond.sameMethod "java/lang/AbstractStringBuilder" "java/lang/AbstractStringBuilder" "newCapacity" "(I)I" ∈ TW := tw_t 1631 (by decide +kernel) rfl
theorem tw1634 : Jvm.Cond.sameMethod "java/lang/AbstractStringBuilder" "java/lang/AbstractStringBuilder" "putStringAt" "(ILjava/lang/String;)V" ∈ TW := tw_t 1634 (by decide +kernel) rfl
theorem tw1635 : Jvm.Cond.sameMethod "java/lang/AbstractStringBuilder" "java/lang/AbstractStringBuilder" "inflateIfNeededFor" "(Ljava/lang/String;)V" ∈ TW := tw_t 1635 (by decide +kernel) rfl
theorem tw1636 : Jvm.Cond.sameMethod "java/lang/AbstractStringBuilder" "java/lang/AbstractStringBuilder" "append" "(I)Ljava/lang/AbstractStringBuilder;" ∈ TW := tw_t 1636 (by decide +kernel) rfl
theorem tw1658 : Jvm.Cond.selects "[Ljava/lang/Object;" ({ cls := "java/lang/Object", name := "getClass", desc := "()Ljava/lang/Class;" } : Jvm.MethodName) ({ cls := "java/lang/Object", name := "getClass", desc := "()Ljava/lang/Class;" } : Jvm.MethodName) ∈ TW := tw_t 1658 (by decide +kernel) rfl
