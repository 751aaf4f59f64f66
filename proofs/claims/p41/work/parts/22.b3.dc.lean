/-! the law decoded -/
theorem dL_law_838 : decode cL_law 838 = .ok (.aload_n 3, 1) := by decide +kernel
theorem dL_law_839 : decode cL_law 839 = .ok (.getfield 84, 3) := by decide +kernel
theorem dL_law_842 : decode cL_law 842 = .ok (.iload 8, 2) := by decide +kernel
theorem dL_law_844 : decode cL_law 844 = .ok (.invokevirtual 108, 3) := by decide +kernel
theorem dL_law_847 : decode cL_law 847 = .ok (.checkcast 112, 3) := by decide +kernel
theorem dL_law_850 : decode cL_law 850 = .ok (.iload 11, 2) := by decide +kernel
theorem dL_law_852 : decode cL_law 852 = .ok (.aload_n 3, 1) := by decide +kernel
theorem dL_law_853 : decode cL_law 853 = .ok (.getfield 84, 3) := by decide +kernel
theorem dL_law_856 : decode cL_law 856 = .ok (.iload 8, 2) := by decide +kernel
theorem dL_law_858 : decode cL_law 858 = .ok (.invokevirtual 108, 3) := by decide +kernel
theorem dL_law_861 : decode cL_law 861 = .ok (.checkcast 112, 3) := by decide +kernel
theorem dL_law_864 : decode cL_law 864 = .ok (.iload 11, 2) := by decide +kernel
theorem dL_law_866 : decode cL_law 866 = .ok (.baload, 1) := by decide +kernel
theorem dL_law_867 : decode cL_law 867 = .ok (.ifCond .ne 7, 3) := by decide +kernel
theorem dL_law_870 : decode cL_law 870 = .ok (.iconst 1, 1) := by decide +kernel
theorem dL_law_871 : decode cL_law 871 = .ok (.goto 4, 3) := by decide +kernel
theorem dL_law_874 : decode cL_law 874 = .ok (.iconst 0, 1) := by decide +kernel
theorem dL_law_875 : decode cL_law 875 = .ok (.bastore, 1) := by decide +kernel
theorem dL_law_876 : decode cL_law 876 = .ok (.iload 10, 2) := by decide +kernel
theorem dL_law_878 : decode cL_law 878 = .ok (.aload_n 3, 1) := by decide +kernel
theorem dL_law_879 : decode cL_law 879 = .ok (.getfield 84, 3) := by decide +kernel
theorem dL_law_882 : decode cL_law 882 = .ok (.iload 8, 2) := by decide +kernel
theorem dL_law_884 : decode cL_law 884 = .ok (.invokevirtual 108, 3) := by decide +kernel
theorem dL_law_887 : decode cL_law 887 = .ok (.checkcast 112, 3) := by decide +kernel
theorem dL_law_890 : decode cL_law 890 = .ok (.iload 11, 2) := by decide +kernel
theorem dL_law_892 : decode cL_law 892 = .ok (.baload, 1) := by decide +kernel
theorem dL_law_893 : decode cL_law 893 = .ok (.ifCond .eq 7, 3) := by decide +kernel
theorem dL_law_896 : decode cL_law 896 = .ok (.iconst 1, 1) := by decide +kernel
theorem dL_law_897 : decode cL_law 897 = .ok (.goto 4, 3) := by decide +kernel
theorem dL_law_900 : decode cL_law 900 = .ok (.iconst 0, 1) := by decide +kernel
theorem dL_law_901 : decode cL_law 901 = .ok (.iadd, 1) := by decide +kernel
theorem dL_law_902 : decode cL_law 902 = .ok (.istore 10, 2) := by decide +kernel
theorem dL_law_904 : decode cL_law 904 = .ok (.iinc 11 1, 3) := by decide +kernel
theorem dL_law_907 : decode cL_law 907 = .ok (.goto (-78), 3) := by decide +kernel
theorem dL_law_910 : decode cL_law 910 = .ok (.aload_n 2, 1) := by decide +kernel
theorem dL_law_911 : decode cL_law 911 = .ok (.iload 8, 2) := by decide +kernel
theorem dL_law_913 : decode cL_law 913 = .ok (.invokevirtual 331, 3) := by decide +kernel
theorem dL_law_916 : decode cL_law 916 = .ok (.iload 10, 2) := by decide +kernel
theorem dL_law_918 : decode cL_law 918 = .ok (.if_icmp .eq 5, 3) := by decide +kernel
theorem dL_law_921 : decode cL_law 921 = .ok (.iconst 0, 1) := by decide +kernel
theorem dL_law_922 : decode cL_law 922 = .ok (.ireturn, 1) := by decide +kernel
theorem dL_law_923 : decode cL_law 923 = .ok (.goto 133, 3) := by decide +kernel
theorem dL_law_926 : decode cL_law 926 = .ok (.aload_n 1, 1) := by decide +kernel
theorem dL_law_927 : decode cL_law 927 = .ok (.aload_n 3, 1) := by decide +kernel
theorem dL_law_928 : decode cL_law 928 = .ok (.getfield 84, 3) := by decide +kernel
theorem dL_law_931 : decode cL_law 931 = .ok (.invokevirtual 90, 3) := by decide +kernel
theorem dL_law_934 : decode cL_law 934 = .ok (.invokevirtual 211, 3) := by decide +kernel
theorem dL_law_937 : decode cL_law 937 = .ok (.istore 10, 2) := by decide +kernel
theorem dL_law_939 : decode cL_law 939 = .ok (.aload_n 3, 1) := by decide +kernel
theorem dL_law_940 : decode cL_law 940 = .ok (.getfield 84, 3) := by decide +kernel
theorem dL_law_943 : decode cL_law 943 = .ok (.iload 8, 2) := by decide +kernel
theorem dL_law_945 : decode cL_law 945 = .ok (.invokevirtual 108, 3) := by decide +kernel
theorem dL_law_948 : decode cL_law 948 = .ok (.checkcast 112, 3) := by decide +kernel
theorem dL_law_951 : decode cL_law 951 = .ok (.astore 11, 2) := by decide +kernel
theorem dL_law_953 : decode cL_law 953 = .ok (.iconst 0, 1) := by decide +kernel
theorem dL_law_954 : decode cL_law 954 = .ok (.istore 12, 2) := by decide +kernel
theorem dL_law_956 : decode cL_law 956 = .ok (.iconst 0, 1) := by decide +kernel
theorem dL_law_957 : decode cL_law 957 = .ok (.istore 13, 2) := by decide +kernel
theorem dL_law_959 : decode cL_law 959 = .ok (.iload 13, 2) := by decide +kernel
theorem dL_law_961 : decode cL_law 961 = .ok (.aload_n 3, 1) := by decide +kernel
theorem dL_law_962 : decode cL_law 962 = .ok (.getfield 98, 3) := by decide +kernel
theorem dL_law_965 : decode cL_law 965 = .ok (.if_icmp .ge 42, 3) := by decide +kernel
theorem dL_law_968 : decode cL_law 968 = .ok (.iload 12, 2) := by decide +kernel
theorem dL_law_970 : decode cL_law 970 = .ok (.aload 11, 2) := by decide +kernel
theorem dL_law_972 : decode cL_law 972 = .ok (.iload 13, 2) := by decide +kernel
theorem dL_law_974 : decode cL_law 974 = .ok (.baload, 1) := by decide +kernel
theorem dL_law_975 : decode cL_law 975 = .ok (.aload_n 3, 1) := by decide +kernel
theorem dL_law_976 : decode cL_law 976 = .ok (.getfield 84, 3) := by decide +kernel
theorem dL_law_979 : decode cL_law 979 = .ok (.iload 10, 2) := by decide +kernel
theorem dL_law_981 : decode cL_law 981 = .ok (.invokevirtual 108, 3) := by decide +kernel
theorem dL_law_984 : decode cL_law 984 = .ok (.checkcast 112, 3) := by decide +kernel
theorem dL_law_987 : decode cL_law 987 = .ok (.iload 13, 2) := by decide +kernel
theorem dL_law_989 : decode cL_law 989 = .ok (.baload, 1) := by decide +kernel
theorem dL_law_990 : decode cL_law 990 = .ok (.if_icmp .ne 7, 3) := by decide +kernel
theorem dL_law_993 : decode cL_law 993 = .ok (.iconst 0, 1) := by decide +kernel
theorem dL_law_994 : decode cL_law 994 = .ok (.goto 4, 3) := by decide +kernel
theorem dL_law_997 : decode cL_law 997 = .ok (.iconst 1, 1) := by decide +kernel
theorem dL_law_998 : decode cL_law 998 = .ok (.iadd, 1) := by decide +kernel
theorem dL_law_999 : decode cL_law 999 = .ok (.istore 12, 2) := by decide +kernel
theorem dL_law_1001 : decode cL_law 1001 = .ok (.iinc 13 1, 3) := by decide +kernel
theorem dL_law_1004 : decode cL_law 1004 = .ok (.goto (-45), 3) := by decide +kernel
theorem dL_law_1007 : decode cL_law 1007 = .ok (.aload_n 3, 1) := by decide +kernel
theorem dL_law_1008 : decode cL_law 1008 = .ok (.getfield 84, 3) := by decide +kernel
theorem dL_law_1011 : decode cL_law 1011 = .ok (.iload 8, 2) := by decide +kernel
theorem dL_law_1013 : decode cL_law 1013 = .ok (.aload_n 3, 1) := by decide +kernel
theorem dL_law_1014 : decode cL_law 1014 = .ok (.getfield 84, 3) := by decide +kernel
theorem dL_law_1017 : decode cL_law 1017 = .ok (.iload 10, 2) := by decide +kernel
theorem dL_law_1019 : decode cL_law 1019 = .ok (.invokevirtual 108, 3) := by decide +kernel
theorem dL_law_1022 : decode cL_law 1022 = .ok (.checkcast 112, 3) := by decide +kernel
theorem dL_law_1025 : decode cL_law 1025 = .ok (.invokevirtual 309, 3) := by decide +kernel
theorem dL_law_1028 : decode cL_law 1028 = .ok (.pop, 1) := by decide +kernel
theorem dL_law_1029 : decode cL_law 1029 = .ok (.aload_n 3, 1) := by decide +kernel
theorem dL_law_1030 : decode cL_law 1030 = .ok (.getfield 84, 3) := by decide +kernel
theorem dL_law_1033 : decode cL_law 1033 = .ok (.iload 10, 2) := by decide +kernel
theorem dL_law_1035 : decode cL_law 1035 = .ok (.aload 11, 2) := by decide +kernel
theorem dL_law_1037 : decode cL_law 1037 = .ok (.invokevirtual 309, 3) := by decide +kernel
theorem dL_law_1040 : decode cL_law 1040 = .ok (.pop, 1) := by decide +kernel
theorem dL_law_1041 : decode cL_law 1041 = .ok (.aload_n 2, 1) := by decide +kernel
theorem dL_law_1042 : decode cL_law 1042 = .ok (.iload 8, 2) := by decide +kernel
theorem dL_law_1044 : decode cL_law 1044 = .ok (.iload 10, 2) := by decide +kernel
theorem dL_law_1046 : decode cL_law 1046 = .ok (.invokevirtual 334, 3) := by decide +kernel
theorem dL_law_1049 : decode cL_law 1049 = .ok (.iload 12, 2) := by decide +kernel
theorem dL_law_1051 : decode cL_law 1051 = .ok (.if_icmp .eq 5, 3) := by decide +kernel
theorem dL_law_1054 : decode cL_law 1054 = .ok (.iconst 0, 1) := by decide +kernel
theorem dL_law_1055 : decode cL_law 1055 = .ok (.ireturn, 1) := by decide +kernel
theorem dL_law_1056 : decode cL_law 1056 = .ok (.aload_n 2, 1) := by decide +kernel
theorem dL_law_1057 : decode cL_law 1057 = .ok (.aload_n 3, 1) := by decide +kernel
theorem dL_law_1058 : decode cL_law 1058 = .ok (.invokestatic 295, 3) := by decide +kernel
theorem dL_law_1061 : decode cL_law 1061 = .ok (.ifCond .eq 11, 3) := by decide +kernel
theorem dL_law_1064 : decode cL_law 1064 = .ok (.aload_n 2, 1) := by decide +kernel
theorem dL_law_1065 : decode cL_law 1065 = .ok (.aload_n 3, 1) := by decide +kernel
theorem dL_law_1066 : decode cL_law 1066 = .ok (.invokestatic 299, 3) := by decide +kernel
theorem dL_law_1069 : decode cL_law 1069 = .ok (.ifCond .ne 5, 3) := by decide +kernel
theorem dL_law_1072 : decode cL_law 1072 = .ok (.iconst 0, 1) := by decide +kernel
theorem dL_law_1073 : decode cL_law 1073 = .ok (.ireturn, 1) := by decide +kernel
theorem dL_law_1074 : decode cL_law 1074 = .ok (.aload_n 2, 1) := by decide +kernel
theorem dL_law_1075 : decode cL_law 1075 = .ok (.invokevirtual 337, 3) := by decide +kernel
theorem dL_law_1078 : decode cL_law 1078 = .ok (.ifCond .ne 25, 3) := by decide +kernel
theorem dL_law_1081 : decode cL_law 1081 = .ok (.aload_n 2, 1) := by decide +kernel
theorem dL_law_1082 : decode cL_law 1082 = .ok (.aload 7, 2) := by decide +kernel
theorem dL_law_1084 : decode cL_law 1084 = .ok (.invokestatic 295, 3) := by decide +kernel
theorem dL_law_1087 : decode cL_law 1087 = .ok (.ifCond .eq 16, 3) := by decide +kernel
theorem dL_law_1090 : decode cL_law 1090 = .ok (.aload_n 2, 1) := by decide +kernel
theorem dL_law_1091 : decode cL_law 1091 = .ok (.aload 7, 2) := by decide +kernel
theorem dL_law_1093 : decode cL_law 1093 = .ok (.invokestatic 299, 3) := by decide +kernel
theorem dL_law_1096 : decode cL_law 1096 = .ok (.ifCond .eq 7, 3) := by decide +kernel
theorem dL_law_1099 : decode cL_law 1099 = .ok (.iconst 1, 1) := by decide +kernel
theorem dL_law_1100 : decode cL_law 1100 = .ok (.goto 4, 3) := by decide +kernel
theorem dL_law_1103 : decode cL_law 1103 = .ok (.iconst 0, 1) := by decide +kernel
theorem dL_law_1104 : decode cL_law 1104 = .ok (.ireturn, 1) := by decide +kernel
