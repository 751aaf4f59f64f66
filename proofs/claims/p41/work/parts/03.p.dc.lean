theorem dX0_init_0 : decode cX0_init 0 = .ok (.aload_n 0, 1) := by decide +kernel
theorem dX0_init_1 : decode cX0_init 1 = .ok (.invokespecial 3, 3) := by decide +kernel
theorem dX0_init_4 : decode cX0_init 4 = .ok (.aload_n 0, 1) := by decide +kernel
theorem dX0_init_5 : decode cX0_init 5 = .ok (.iconst 0, 1) := by decide +kernel
theorem dX0_init_6 : decode cX0_init 6 = .ok (.putfield 9, 3) := by decide +kernel
theorem dX0_init_9 : decode cX0_init 9 = .ok (.aload_n 0, 1) := by decide +kernel
theorem dX0_init_10 : decode cX0_init 10 = .ok (.iconst 0, 1) := by decide +kernel
theorem dX0_init_11 : decode cX0_init 11 = .ok (.putfield 15, 3) := by decide +kernel
theorem dX0_init_14 : decode cX0_init 14 = .ok (.aload_n 0, 1) := by decide +kernel
theorem dX0_init_15 : decode cX0_init 15 = .ok (.bipush 41, 2) := by decide +kernel
theorem dX0_init_17 : decode cX0_init 17 = .ok (.newarray .int, 2) := by decide +kernel
theorem dX0_init_19 : decode cX0_init 19 = .ok (.putfield 18, 3) := by decide +kernel
theorem dX0_init_22 : decode cX0_init 22 = .ok (.aload_n 0, 1) := by decide +kernel
theorem dX0_init_23 : decode cX0_init 23 = .ok (.bipush 41, 2) := by decide +kernel
theorem dX0_init_25 : decode cX0_init 25 = .ok (.newarray .int, 2) := by decide +kernel
theorem dX0_init_27 : decode cX0_init 27 = .ok (.putfield 22, 3) := by decide +kernel
theorem dX0_init_30 : decode cX0_init 30 = .ok (.aload_n 0, 1) := by decide +kernel
theorem dX0_init_31 : decode cX0_init 31 = .ok (.bipush 41, 2) := by decide +kernel
theorem dX0_init_33 : decode cX0_init 33 = .ok (.newarray .int, 2) := by decide +kernel
theorem dX0_init_35 : decode cX0_init 35 = .ok (.putfield 25, 3) := by decide +kernel
theorem dX0_init_38 : decode cX0_init 38 = .ok (.aload_n 0, 1) := by decide +kernel
theorem dX0_init_39 : decode cX0_init 39 = .ok (.bipush 41, 2) := by decide +kernel
theorem dX0_init_41 : decode cX0_init 41 = .ok (.newarray .int, 2) := by decide +kernel
theorem dX0_init_43 : decode cX0_init 43 = .ok (.putfield 28, 3) := by decide +kernel
theorem dX0_init_46 : decode cX0_init 46 = .ok (.aload_n 0, 1) := by decide +kernel
theorem dX0_init_47 : decode cX0_init 47 = .ok (.new 31, 3) := by decide +kernel
theorem dX0_init_50 : decode cX0_init 50 = .ok (.dup, 1) := by decide +kernel
theorem dX0_init_51 : decode cX0_init 51 = .ok (.invokespecial 33, 3) := by decide +kernel
theorem dX0_init_54 : decode cX0_init 54 = .ok (.putfield 34, 3) := by decide +kernel
theorem dX0_init_57 : decode cX0_init 57 = .ok (.return_, 1) := by decide +kernel
theorem dX0_makeFor_0 : decode cX0_makeFor 0 = .ok (.aload_n 0, 1) := by decide +kernel
theorem dX0_makeFor_1 : decode cX0_makeFor 1 = .ok (.iconst 0, 1) := by decide +kernel
theorem dX0_makeFor_2 : decode cX0_makeFor 2 = .ok (.putfield 9, 3) := by decide +kernel
theorem dX0_makeFor_5 : decode cX0_makeFor 5 = .ok (.aload_n 0, 1) := by decide +kernel
theorem dX0_makeFor_6 : decode cX0_makeFor 6 = .ok (.iconst 0, 1) := by decide +kernel
theorem dX0_makeFor_7 : decode cX0_makeFor 7 = .ok (.putfield 15, 3) := by decide +kernel
theorem dX0_makeFor_10 : decode cX0_makeFor 10 = .ok (.aload_n 0, 1) := by decide +kernel
theorem dX0_makeFor_11 : decode cX0_makeFor 11 = .ok (.getfield 34, 3) := by decide +kernel
theorem dX0_makeFor_14 : decode cX0_makeFor 14 = .ok (.lload_n 3, 1) := by decide +kernel
theorem dX0_makeFor_15 : decode cX0_makeFor 15 = .ok (.iload 5, 2) := by decide +kernel
theorem dX0_makeFor_17 : decode cX0_makeFor 17 = .ok (.invokevirtual 38, 3) := by decide +kernel
theorem dX0_makeFor_20 : decode cX0_makeFor 20 = .ok (.bipush 41, 2) := by decide +kernel
theorem dX0_makeFor_22 : decode cX0_makeFor 22 = .ok (.istore 6, 2) := by decide +kernel
theorem dX0_makeFor_24 : decode cX0_makeFor 24 = .ok (.iload 6, 2) := by decide +kernel
theorem dX0_makeFor_26 : decode cX0_makeFor 26 = .ok (.ifCond .le 33, 3) := by decide +kernel
theorem dX0_makeFor_29 : decode cX0_makeFor 29 = .ok (.aload_n 0, 1) := by decide +kernel
theorem dX0_makeFor_30 : decode cX0_makeFor 30 = .ok (.getfield 34, 3) := by decide +kernel
theorem dX0_makeFor_33 : decode cX0_makeFor 33 = .ok (.invokevirtual 42, 3) := by decide +kernel
theorem dX0_makeFor_36 : decode cX0_makeFor 36 = .ok (.ifCond .ne 23, 3) := by decide +kernel
theorem dX0_makeFor_39 : decode cX0_makeFor 39 = .ok (.aload_n 0, 1) := by decide +kernel
theorem dX0_makeFor_40 : decode cX0_makeFor 40 = .ok (.getfield 34, 3) := by decide +kernel
theorem dX0_makeFor_43 : decode cX0_makeFor 43 = .ok (.invokevirtual 46, 3) := by decide +kernel
theorem dX0_makeFor_46 : decode cX0_makeFor 46 = .ok (.aload_n 0, 1) := by decide +kernel
theorem dX0_makeFor_47 : decode cX0_makeFor 47 = .ok (.lload_n 1, 1) := by decide +kernel
theorem dX0_makeFor_48 : decode cX0_makeFor 48 = .ok (.iload 5, 2) := by decide +kernel
theorem dX0_makeFor_50 : decode cX0_makeFor 50 = .ok (.invokevirtual 49, 3) := by decide +kernel
theorem dX0_makeFor_53 : decode cX0_makeFor 53 = .ok (.iinc 6 (-1), 3) := by decide +kernel
theorem dX0_makeFor_56 : decode cX0_makeFor 56 = .ok (.goto (-32), 3) := by decide +kernel
theorem dX0_makeFor_59 : decode cX0_makeFor 59 = .ok (.return_, 1) := by decide +kernel
theorem dX0_addMode_0 : decode cX0_addMode 0 = .ok (.aload_n 0, 1) := by decide +kernel
theorem dX0_addMode_1 : decode cX0_addMode 1 = .ok (.getfield 34, 3) := by decide +kernel
theorem dX0_addMode_4 : decode cX0_addMode 4 = .ok (.getfield 52, 3) := by decide +kernel
theorem dX0_addMode_7 : decode cX0_addMode 7 = .ok (.ifCond .eq 7, 3) := by decide +kernel
theorem dX0_addMode_10 : decode cX0_addMode 10 = .ok (.lload_n 1, 1) := by decide +kernel
theorem dX0_addMode_11 : decode cX0_addMode 11 = .ok (.goto 8, 3) := by decide +kernel
theorem dX0_addMode_14 : decode cX0_addMode 14 = .ok (.lload_n 1, 1) := by decide +kernel
theorem dX0_addMode_15 : decode cX0_addMode 15 = .ok (.ldc2_w 56, 3) := by decide +kernel
theorem dX0_addMode_18 : decode cX0_addMode 18 = .ok (.lxor, 1) := by decide +kernel
theorem dX0_addMode_19 : decode cX0_addMode 19 = .ok (.iload_n 3, 1) := by decide +kernel
theorem dX0_addMode_20 : decode cX0_addMode 20 = .ok (.invokestatic 58, 3) := by decide +kernel
theorem dX0_addMode_23 : decode cX0_addMode 23 = .ok (.land, 1) := by decide +kernel
theorem dX0_addMode_24 : decode cX0_addMode 24 = .ok (.lstore 4, 2) := by decide +kernel
theorem dX0_addMode_26 : decode cX0_addMode 26 = .ok (.lload 4, 2) := by decide +kernel
theorem dX0_addMode_28 : decode cX0_addMode 28 = .ok (.ldc2_w 56, 3) := by decide +kernel
theorem dX0_addMode_31 : decode cX0_addMode 31 = .ok (.lxor, 1) := by decide +kernel
theorem dX0_addMode_32 : decode cX0_addMode 32 = .ok (.iload_n 3, 1) := by decide +kernel
theorem dX0_addMode_33 : decode cX0_addMode 33 = .ok (.invokestatic 58, 3) := by decide +kernel
theorem dX0_addMode_36 : decode cX0_addMode 36 = .ok (.land, 1) := by decide +kernel
theorem dX0_addMode_37 : decode cX0_addMode 37 = .ok (.lstore 6, 2) := by decide +kernel
theorem dX0_addMode_39 : decode cX0_addMode 39 = .ok (.lload 6, 2) := by decide +kernel
theorem dX0_addMode_41 : decode cX0_addMode 41 = .ok (.aload_n 0, 1) := by decide +kernel
theorem dX0_addMode_42 : decode cX0_addMode 42 = .ok (.getfield 34, 3) := by decide +kernel
theorem dX0_addMode_45 : decode cX0_addMode 45 = .ok (.getfield 62, 3) := by decide +kernel
theorem dX0_addMode_48 : decode cX0_addMode 48 = .ok (.iload_n 3, 1) := by decide +kernel
theorem dX0_addMode_49 : decode cX0_addMode 49 = .ok (.invokestatic 65, 3) := by decide +kernel
theorem dX0_addMode_52 : decode cX0_addMode 52 = .ok (.istore 8, 2) := by decide +kernel
theorem dX0_addMode_54 : decode cX0_addMode 54 = .ok (.iload 8, 2) := by decide +kernel
theorem dX0_addMode_56 : decode cX0_addMode 56 = .ok (.aload_n 0, 1) := by decide +kernel
theorem dX0_addMode_57 : decode cX0_addMode 57 = .ok (.getfield 34, 3) := by decide +kernel
theorem dX0_addMode_60 : decode cX0_addMode 60 = .ok (.getfield 69, 3) := by decide +kernel
theorem dX0_addMode_63 : decode cX0_addMode 63 = .ok (.isub, 1) := by decide +kernel
theorem dX0_addMode_64 : decode cX0_addMode 64 = .ok (.istore 9, 2) := by decide +kernel
theorem dX0_addMode_66 : decode cX0_addMode 66 = .ok (.aload_n 0, 1) := by decide +kernel
theorem dX0_addMode_67 : decode cX0_addMode 67 = .ok (.getfield 34, 3) := by decide +kernel
theorem dX0_addMode_70 : decode cX0_addMode 70 = .ok (.getfield 72, 3) := by decide +kernel
theorem dX0_addMode_73 : decode cX0_addMode 73 = .ok (.iload 8, 2) := by decide +kernel
theorem dX0_addMode_75 : decode cX0_addMode 75 = .ok (.if_icmp .ge 30, 3) := by decide +kernel
theorem dX0_addMode_78 : decode cX0_addMode 78 = .ok (.aload_n 0, 1) := by decide +kernel
theorem dX0_addMode_79 : decode cX0_addMode 79 = .ok (.iconst 0, 1) := by decide +kernel
theorem dX0_addMode_80 : decode cX0_addMode 80 = .ok (.iconst 0, 1) := by decide +kernel
theorem dX0_addMode_81 : decode cX0_addMode 81 = .ok (.iconst 0, 1) := by decide +kernel
theorem dX0_addMode_82 : decode cX0_addMode 82 = .ok (.aload_n 0, 1) := by decide +kernel
theorem dX0_addMode_83 : decode cX0_addMode 83 = .ok (.getfield 34, 3) := by decide +kernel
theorem dX0_addMode_86 : decode cX0_addMode 86 = .ok (.getfield 72, 3) := by decide +kernel
theorem dX0_addMode_89 : decode cX0_addMode 89 = .ok (.invokevirtual 75, 3) := by decide +kernel
theorem dX0_addMode_92 : decode cX0_addMode 92 = .ok (.aload_n 0, 1) := by decide +kernel
theorem dX0_addMode_93 : decode cX0_addMode 93 = .ok (.dup, 1) := by decide +kernel
theorem dX0_addMode_94 : decode cX0_addMode 94 = .ok (.getfield 15, 3) := by decide +kernel
theorem dX0_addMode_97 : decode cX0_addMode 97 = .ok (.iconst 4, 1) := by decide +kernel
theorem dX0_addMode_98 : decode cX0_addMode 98 = .ok (.iadd, 1) := by decide +kernel
theorem dX0_addMode_99 : decode cX0_addMode 99 = .ok (.putfield 15, 3) := by decide +kernel
theorem dX0_addMode_102 : decode cX0_addMode 102 = .ok (.goto 140, 3) := by decide +kernel
theorem dX0_addMode_105 : decode cX0_addMode 105 = .ok (.iload 9, 2) := by decide +kernel
theorem dX0_addMode_107 : decode cX0_addMode 107 = .ok (.bipush (-3), 2) := by decide +kernel
theorem dX0_addMode_109 : decode cX0_addMode 109 = .ok (.if_icmp .lt 58, 3) := by decide +kernel
theorem dX0_addMode_112 : decode cX0_addMode 112 = .ok (.iload 9, 2) := by decide +kernel
theorem dX0_addMode_114 : decode cX0_addMode 114 = .ok (.iconst 3, 1) := by decide +kernel
theorem dX0_addMode_115 : decode cX0_addMode 115 = .ok (.if_icmp .gt 52, 3) := by decide +kernel
theorem dX0_addMode_118 : decode cX0_addMode 118 = .ok (.aload_n 0, 1) := by decide +kernel
theorem dX0_addMode_119 : decode cX0_addMode 119 = .ok (.iconst 1, 1) := by decide +kernel
theorem dX0_addMode_120 : decode cX0_addMode 120 = .ok (.iload 9, 2) := by decide +kernel
theorem dX0_addMode_122 : decode cX0_addMode 122 = .ok (.iconst 0, 1) := by decide +kernel
theorem dX0_addMode_123 : decode cX0_addMode 123 = .ok (.iload 8, 2) := by decide +kernel
theorem dX0_addMode_125 : decode cX0_addMode 125 = .ok (.invokevirtual 75, 3) := by decide +kernel
theorem dX0_addMode_128 : decode cX0_addMode 128 = .ok (.aload_n 0, 1) := by decide +kernel
theorem dX0_addMode_129 : decode cX0_addMode 129 = .ok (.dup, 1) := by decide +kernel
theorem dX0_addMode_130 : decode cX0_addMode 130 = .ok (.getfield 15, 3) := by decide +kernel
theorem dX0_addMode_133 : decode cX0_addMode 133 = .ok (.iload 9, 2) := by decide +kernel
theorem dX0_addMode_135 : decode cX0_addMode 135 = .ok (.invokestatic 79, 3) := by decide +kernel
theorem dX0_addMode_138 : decode cX0_addMode 138 = .ok (.iadd, 1) := by decide +kernel
theorem dX0_addMode_139 : decode cX0_addMode 139 = .ok (.putfield 15, 3) := by decide +kernel
theorem dX0_addMode_142 : decode cX0_addMode 142 = .ok (.aload_n 0, 1) := by decide +kernel
theorem dX0_addMode_143 : decode cX0_addMode 143 = .ok (.getfield 34, 3) := by decide +kernel
theorem dX0_addMode_146 : decode cX0_addMode 146 = .ok (.aload_n 0, 1) := by decide +kernel
theorem dX0_addMode_147 : decode cX0_addMode 147 = .ok (.getfield 34, 3) := by decide +kernel
theorem dX0_addMode_150 : decode cX0_addMode 150 = .ok (.getfield 52, 3) := by decide +kernel
theorem dX0_addMode_153 : decode cX0_addMode 153 = .ok (.ifCond .ne 7, 3) := by decide +kernel
theorem dX0_addMode_156 : decode cX0_addMode 156 = .ok (.iconst 1, 1) := by decide +kernel
theorem dX0_addMode_157 : decode cX0_addMode 157 = .ok (.goto 4, 3) := by decide +kernel
theorem dX0_addMode_160 : decode cX0_addMode 160 = .ok (.iconst 0, 1) := by decide +kernel
theorem dX0_addMode_161 : decode cX0_addMode 161 = .ok (.putfield 52, 3) := by decide +kernel
theorem dX0_addMode_164 : decode cX0_addMode 164 = .ok (.goto 78, 3) := by decide +kernel
theorem dX0_addMode_167 : decode cX0_addMode 167 = .ok (.iload 8, 2) := by decide +kernel
theorem dX0_addMode_169 : decode cX0_addMode 169 = .ok (.aload_n 0, 1) := by decide +kernel
theorem dX0_addMode_170 : decode cX0_addMode 170 = .ok (.getfield 34, 3) := by decide +kernel
theorem dX0_addMode_173 : decode cX0_addMode 173 = .ok (.getfield 62, 3) := by decide +kernel
theorem dX0_addMode_176 : decode cX0_addMode 176 = .ok (.ifCond .ge 7, 3) := by decide +kernel
theorem dX0_addMode_179 : decode cX0_addMode 179 = .ok (.iconst 0, 1) := by decide +kernel
theorem dX0_addMode_180 : decode cX0_addMode 180 = .ok (.goto 10, 3) := by decide +kernel
theorem dX0_addMode_183 : decode cX0_addMode 183 = .ok (.aload_n 0, 1) := by decide +kernel
theorem dX0_addMode_184 : decode cX0_addMode 184 = .ok (.getfield 34, 3) := by decide +kernel
theorem dX0_addMode_187 : decode cX0_addMode 187 = .ok (.getfield 62, 3) := by decide +kernel
theorem dX0_addMode_190 : decode cX0_addMode 190 = .ok (.isub, 1) := by decide +kernel
theorem dX0_addMode_191 : decode cX0_addMode 191 = .ok (.istore 10, 2) := by decide +kernel
theorem dX0_addMode_193 : decode cX0_addMode 193 = .ok (.lload 4, 2) := by decide +kernel
theorem dX0_addMode_195 : decode cX0_addMode 195 = .ok (.iload 8, 2) := by decide +kernel
theorem dX0_addMode_197 : decode cX0_addMode 197 = .ok (.iload_n 3, 1) := by decide +kernel
theorem dX0_addMode_198 : decode cX0_addMode 198 = .ok (.invokestatic 65, 3) := by decide +kernel
theorem dX0_addMode_201 : decode cX0_addMode 201 = .ok (.istore 11, 2) := by decide +kernel
theorem dX0_addMode_203 : decode cX0_addMode 203 = .ok (.aload_n 0, 1) := by decide +kernel
theorem dX0_addMode_204 : decode cX0_addMode 204 = .ok (.iconst 2, 1) := by decide +kernel
theorem dX0_addMode_205 : decode cX0_addMode 205 = .ok (.iload 10, 2) := by decide +kernel
theorem dX0_addMode_207 : decode cX0_addMode 207 = .ok (.iload 11, 2) := by decide +kernel
theorem dX0_addMode_209 : decode cX0_addMode 209 = .ok (.iload 8, 2) := by decide +kernel
theorem dX0_addMode_211 : decode cX0_addMode 211 = .ok (.isub, 1) := by decide +kernel
theorem dX0_addMode_212 : decode cX0_addMode 212 = .ok (.iload 11, 2) := by decide +kernel
theorem dX0_addMode_214 : decode cX0_addMode 214 = .ok (.invokevirtual 75, 3) := by decide +kernel
theorem dX0_addMode_217 : decode cX0_addMode 217 = .ok (.aload_n 0, 1) := by decide +kernel
theorem dX0_addMode_218 : decode cX0_addMode 218 = .ok (.dup, 1) := by decide +kernel
theorem dX0_addMode_219 : decode cX0_addMode 219 = .ok (.getfield 15, 3) := by decide +kernel
theorem dX0_addMode_222 : decode cX0_addMode 222 = .ok (.iconst 3, 1) := by decide +kernel
theorem dX0_addMode_223 : decode cX0_addMode 223 = .ok (.iload 10, 2) := by decide +kernel
theorem dX0_addMode_225 : decode cX0_addMode 225 = .ok (.invokestatic 83, 3) := by decide +kernel
theorem dX0_addMode_228 : decode cX0_addMode 228 = .ok (.iadd, 1) := by decide +kernel
theorem dX0_addMode_229 : decode cX0_addMode 229 = .ok (.iload 11, 2) := by decide +kernel
theorem dX0_addMode_231 : decode cX0_addMode 231 = .ok (.iload 8, 2) := by decide +kernel
theorem dX0_addMode_233 : decode cX0_addMode 233 = .ok (.isub, 1) := by decide +kernel
theorem dX0_addMode_234 : decode cX0_addMode 234 = .ok (.invokestatic 83, 3) := by decide +kernel
theorem dX0_addMode_237 : decode cX0_addMode 237 = .ok (.iadd, 1) := by decide +kernel
theorem dX0_addMode_238 : decode cX0_addMode 238 = .ok (.iadd, 1) := by decide +kernel
theorem dX0_addMode_239 : decode cX0_addMode 239 = .ok (.putfield 15, 3) := by decide +kernel
theorem dX0_addMode_242 : decode cX0_addMode 242 = .ok (.return_, 1) := by decide +kernel
theorem dX0_putMode_0 : decode cX0_putMode 0 = .ok (.aload_n 0, 1) := by decide +kernel
theorem dX0_putMode_1 : decode cX0_putMode 1 = .ok (.getfield 34, 3) := by decide +kernel
theorem dX0_putMode_4 : decode cX0_putMode 4 = .ok (.iload 4, 2) := by decide +kernel
theorem dX0_putMode_6 : decode cX0_putMode 6 = .ok (.putfield 62, 3) := by decide +kernel
theorem dX0_putMode_9 : decode cX0_putMode 9 = .ok (.aload_n 0, 1) := by decide +kernel
theorem dX0_putMode_10 : decode cX0_putMode 10 = .ok (.getfield 9, 3) := by decide +kernel
theorem dX0_putMode_13 : decode cX0_putMode 13 = .ok (.ifCond .lt 12, 3) := by decide +kernel
theorem dX0_putMode_16 : decode cX0_putMode 16 = .ok (.aload_n 0, 1) := by decide +kernel
theorem dX0_putMode_17 : decode cX0_putMode 17 = .ok (.getfield 9, 3) := by decide +kernel
theorem dX0_putMode_20 : decode cX0_putMode 20 = .ok (.bipush 41, 2) := by decide +kernel
theorem dX0_putMode_22 : decode cX0_putMode 22 = .ok (.if_icmp .lt 4, 3) := by decide +kernel
theorem dX0_putMode_25 : decode cX0_putMode 25 = .ok (.return_, 1) := by decide +kernel
theorem dX0_putMode_26 : decode cX0_putMode 26 = .ok (.aload_n 0, 1) := by decide +kernel
theorem dX0_putMode_27 : decode cX0_putMode 27 = .ok (.getfield 18, 3) := by decide +kernel
theorem dX0_putMode_30 : decode cX0_putMode 30 = .ok (.aload_n 0, 1) := by decide +kernel
theorem dX0_putMode_31 : decode cX0_putMode 31 = .ok (.getfield 9, 3) := by decide +kernel
theorem dX0_putMode_34 : decode cX0_putMode 34 = .ok (.iload_n 1, 1) := by decide +kernel
theorem dX0_putMode_35 : decode cX0_putMode 35 = .ok (.iastore, 1) := by decide +kernel
theorem dX0_putMode_36 : decode cX0_putMode 36 = .ok (.aload_n 0, 1) := by decide +kernel
theorem dX0_putMode_37 : decode cX0_putMode 37 = .ok (.getfield 22, 3) := by decide +kernel
theorem dX0_putMode_40 : decode cX0_putMode 40 = .ok (.aload_n 0, 1) := by decide +kernel
theorem dX0_putMode_41 : decode cX0_putMode 41 = .ok (.getfield 9, 3) := by decide +kernel
theorem dX0_putMode_44 : decode cX0_putMode 44 = .ok (.iload_n 2, 1) := by decide +kernel
theorem dX0_putMode_45 : decode cX0_putMode 45 = .ok (.iastore, 1) := by decide +kernel
theorem dX0_putMode_46 : decode cX0_putMode 46 = .ok (.aload_n 0, 1) := by decide +kernel
theorem dX0_putMode_47 : decode cX0_putMode 47 = .ok (.getfield 25, 3) := by decide +kernel
theorem dX0_putMode_50 : decode cX0_putMode 50 = .ok (.aload_n 0, 1) := by decide +kernel
theorem dX0_putMode_51 : decode cX0_putMode 51 = .ok (.getfield 9, 3) := by decide +kernel
theorem dX0_putMode_54 : decode cX0_putMode 54 = .ok (.iload_n 3, 1) := by decide +kernel
theorem dX0_putMode_55 : decode cX0_putMode 55 = .ok (.iastore, 1) := by decide +kernel
theorem dX0_putMode_56 : decode cX0_putMode 56 = .ok (.aload_n 0, 1) := by decide +kernel
theorem dX0_putMode_57 : decode cX0_putMode 57 = .ok (.getfield 28, 3) := by decide +kernel
theorem dX0_putMode_60 : decode cX0_putMode 60 = .ok (.aload_n 0, 1) := by decide +kernel
theorem dX0_putMode_61 : decode cX0_putMode 61 = .ok (.getfield 9, 3) := by decide +kernel
theorem dX0_putMode_64 : decode cX0_putMode 64 = .ok (.iload 4, 2) := by decide +kernel
theorem dX0_putMode_66 : decode cX0_putMode 66 = .ok (.iastore, 1) := by decide +kernel
theorem dX0_putMode_67 : decode cX0_putMode 67 = .ok (.aload_n 0, 1) := by decide +kernel
theorem dX0_putMode_68 : decode cX0_putMode 68 = .ok (.dup, 1) := by decide +kernel
theorem dX0_putMode_69 : decode cX0_putMode 69 = .ok (.getfield 9, 3) := by decide +kernel
theorem dX0_putMode_72 : decode cX0_putMode 72 = .ok (.iconst 1, 1) := by decide +kernel
theorem dX0_putMode_73 : decode cX0_putMode 73 = .ok (.iadd, 1) := by decide +kernel
theorem dX0_putMode_74 : decode cX0_putMode 74 = .ok (.putfield 9, 3) := by decide +kernel
theorem dX0_putMode_77 : decode cX0_putMode 77 = .ok (.return_, 1) := by decide +kernel
theorem dX0_verticalBits_0 : decode cX0_verticalBits 0 = .ok (.iload_n 0, 1) := by decide +kernel
theorem dX0_verticalBits_1 : decode cX0_verticalBits 1 = .ok (.invokestatic 86, 3) := by decide +kernel
theorem dX0_verticalBits_4 : decode cX0_verticalBits 4 = .ok (.tableswitch 35 0 2 #[28, 30, 32], 28) := by decide +kernel
theorem dX0_verticalBits_32 : decode cX0_verticalBits 32 = .ok (.iconst 1, 1) := by decide +kernel
theorem dX0_verticalBits_33 : decode cX0_verticalBits 33 = .ok (.ireturn, 1) := by decide +kernel
theorem dX0_verticalBits_34 : decode cX0_verticalBits 34 = .ok (.iconst 3, 1) := by decide +kernel
theorem dX0_verticalBits_35 : decode cX0_verticalBits 35 = .ok (.ireturn, 1) := by decide +kernel
theorem dX0_verticalBits_36 : decode cX0_verticalBits 36 = .ok (.bipush 6, 2) := by decide +kernel
theorem dX0_verticalBits_38 : decode cX0_verticalBits 38 = .ok (.ireturn, 1) := by decide +kernel
theorem dX0_verticalBits_39 : decode cX0_verticalBits 39 = .ok (.bipush 7, 2) := by decide +kernel
theorem dX0_verticalBits_41 : decode cX0_verticalBits 41 = .ok (.ireturn, 1) := by decide +kernel
theorem dX0_modesOfKind_0 : decode cX0_modesOfKind 0 = .ok (.iconst 0, 1) := by decide +kernel
theorem dX0_modesOfKind_1 : decode cX0_modesOfKind 1 = .ok (.istore_n 2, 1) := by decide +kernel
theorem dX0_modesOfKind_2 : decode cX0_modesOfKind 2 = .ok (.iconst 0, 1) := by decide +kernel
theorem dX0_modesOfKind_3 : decode cX0_modesOfKind 3 = .ok (.istore_n 3, 1) := by decide +kernel
theorem dX0_modesOfKind_4 : decode cX0_modesOfKind 4 = .ok (.iload_n 3, 1) := by decide +kernel
theorem dX0_modesOfKind_5 : decode cX0_modesOfKind 5 = .ok (.aload_n 0, 1) := by decide +kernel
theorem dX0_modesOfKind_6 : decode cX0_modesOfKind 6 = .ok (.getfield 9, 3) := by decide +kernel
theorem dX0_modesOfKind_9 : decode cX0_modesOfKind 9 = .ok (.if_icmp .ge 22, 3) := by decide +kernel
theorem dX0_modesOfKind_12 : decode cX0_modesOfKind 12 = .ok (.aload_n 0, 1) := by decide +kernel
theorem dX0_modesOfKind_13 : decode cX0_modesOfKind 13 = .ok (.getfield 18, 3) := by decide +kernel
theorem dX0_modesOfKind_16 : decode cX0_modesOfKind 16 = .ok (.iload_n 3, 1) := by decide +kernel
theorem dX0_modesOfKind_17 : decode cX0_modesOfKind 17 = .ok (.iaload, 1) := by decide +kernel
theorem dX0_modesOfKind_18 : decode cX0_modesOfKind 18 = .ok (.iload_n 1, 1) := by decide +kernel
theorem dX0_modesOfKind_19 : decode cX0_modesOfKind 19 = .ok (.if_icmp .ne 6, 3) := by decide +kernel
theorem dX0_modesOfKind_22 : decode cX0_modesOfKind 22 = .ok (.iinc 2 1, 3) := by decide +kernel
theorem dX0_modesOfKind_25 : decode cX0_modesOfKind 25 = .ok (.iinc 3 1, 3) := by decide +kernel
theorem dX0_modesOfKind_28 : decode cX0_modesOfKind 28 = .ok (.goto (-24), 3) := by decide +kernel
theorem dX0_modesOfKind_31 : decode cX0_modesOfKind 31 = .ok (.iload_n 2, 1) := by decide +kernel
theorem dX0_modesOfKind_32 : decode cX0_modesOfKind 32 = .ok (.ireturn, 1) := by decide +kernel
theorem dX0_modeNumber_0 : decode cX0_modeNumber 0 = .ok (.iload_n 1, 1) := by decide +kernel
theorem dX0_modeNumber_1 : decode cX0_modeNumber 1 = .ok (.ifCond .lt 11, 3) := by decide +kernel
theorem dX0_modeNumber_4 : decode cX0_modeNumber 4 = .ok (.iload_n 1, 1) := by decide +kernel
theorem dX0_modeNumber_5 : decode cX0_modeNumber 5 = .ok (.aload_n 0, 1) := by decide +kernel
theorem dX0_modeNumber_6 : decode cX0_modeNumber 6 = .ok (.getfield 9, 3) := by decide +kernel
theorem dX0_modeNumber_9 : decode cX0_modeNumber 9 = .ok (.if_icmp .lt 6, 3) := by decide +kernel
theorem dX0_modeNumber_12 : decode cX0_modeNumber 12 = .ok (.bipush (-9), 2) := by decide +kernel
theorem dX0_modeNumber_14 : decode cX0_modeNumber 14 = .ok (.ireturn, 1) := by decide +kernel
theorem dX0_modeNumber_15 : decode cX0_modeNumber 15 = .ok (.iload_n 2, 1) := by decide +kernel
theorem dX0_modeNumber_16 : decode cX0_modeNumber 16 = .ok (.tableswitch 49 0 2 #[28, 35, 42], 28) := by decide +kernel
theorem dX0_modeNumber_44 : decode cX0_modeNumber 44 = .ok (.aload_n 0, 1) := by decide +kernel
theorem dX0_modeNumber_45 : decode cX0_modeNumber 45 = .ok (.getfield 18, 3) := by decide +kernel
theorem dX0_modeNumber_48 : decode cX0_modeNumber 48 = .ok (.iload_n 1, 1) := by decide +kernel
theorem dX0_modeNumber_49 : decode cX0_modeNumber 49 = .ok (.iaload, 1) := by decide +kernel
theorem dX0_modeNumber_50 : decode cX0_modeNumber 50 = .ok (.ireturn, 1) := by decide +kernel
theorem dX0_modeNumber_51 : decode cX0_modeNumber 51 = .ok (.aload_n 0, 1) := by decide +kernel
theorem dX0_modeNumber_52 : decode cX0_modeNumber 52 = .ok (.getfield 22, 3) := by decide +kernel
theorem dX0_modeNumber_55 : decode cX0_modeNumber 55 = .ok (.iload_n 1, 1) := by decide +kernel
theorem dX0_modeNumber_56 : decode cX0_modeNumber 56 = .ok (.iaload, 1) := by decide +kernel
theorem dX0_modeNumber_57 : decode cX0_modeNumber 57 = .ok (.ireturn, 1) := by decide +kernel
theorem dX0_modeNumber_58 : decode cX0_modeNumber 58 = .ok (.aload_n 0, 1) := by decide +kernel
theorem dX0_modeNumber_59 : decode cX0_modeNumber 59 = .ok (.getfield 25, 3) := by decide +kernel
theorem dX0_modeNumber_62 : decode cX0_modeNumber 62 = .ok (.iload_n 1, 1) := by decide +kernel
theorem dX0_modeNumber_63 : decode cX0_modeNumber 63 = .ok (.iaload, 1) := by decide +kernel
theorem dX0_modeNumber_64 : decode cX0_modeNumber 64 = .ok (.ireturn, 1) := by decide +kernel
theorem dX0_modeNumber_65 : decode cX0_modeNumber 65 = .ok (.aload_n 0, 1) := by decide +kernel
theorem dX0_modeNumber_66 : decode cX0_modeNumber 66 = .ok (.getfield 28, 3) := by decide +kernel
theorem dX0_modeNumber_69 : decode cX0_modeNumber 69 = .ok (.iload_n 1, 1) := by decide +kernel
theorem dX0_modeNumber_70 : decode cX0_modeNumber 70 = .ok (.iaload, 1) := by decide +kernel
theorem dX0_modeNumber_71 : decode cX0_modeNumber 71 = .ok (.ireturn, 1) := by decide +kernel
theorem dX0_readUnder_0 : decode cX0_readUnder 0 = .ok (.aload_n 0, 1) := by decide +kernel
theorem dX0_readUnder_1 : decode cX0_readUnder 1 = .ok (.getfield 34, 3) := by decide +kernel
theorem dX0_readUnder_4 : decode cX0_readUnder 4 = .ok (.lload_n 1, 1) := by decide +kernel
theorem dX0_readUnder_5 : decode cX0_readUnder 5 = .ok (.iload_n 3, 1) := by decide +kernel
theorem dX0_readUnder_6 : decode cX0_readUnder 6 = .ok (.invokevirtual 38, 3) := by decide +kernel
theorem dX0_readUnder_9 : decode cX0_readUnder 9 = .ok (.iconst 1, 1) := by decide +kernel
theorem dX0_readUnder_10 : decode cX0_readUnder 10 = .ok (.istore 4, 2) := by decide +kernel
theorem dX0_readUnder_12 : decode cX0_readUnder 12 = .ok (.iconst 0, 1) := by decide +kernel
theorem dX0_readUnder_13 : decode cX0_readUnder 13 = .ok (.istore 5, 2) := by decide +kernel
theorem dX0_readUnder_15 : decode cX0_readUnder 15 = .ok (.iload 5, 2) := by decide +kernel
theorem dX0_readUnder_17 : decode cX0_readUnder 17 = .ok (.aload_n 0, 1) := by decide +kernel
theorem dX0_readUnder_18 : decode cX0_readUnder 18 = .ok (.getfield 9, 3) := by decide +kernel
theorem dX0_readUnder_21 : decode cX0_readUnder 21 = .ok (.if_icmp .ge 112, 3) := by decide +kernel
theorem dX0_readUnder_24 : decode cX0_readUnder 24 = .ok (.iload 4, 2) := by decide +kernel
theorem dX0_readUnder_26 : decode cX0_readUnder 26 = .ok (.ifCond .eq 107, 3) := by decide +kernel
theorem dX0_readUnder_29 : decode cX0_readUnder 29 = .ok (.aload_n 0, 1) := by decide +kernel
theorem dX0_readUnder_30 : decode cX0_readUnder 30 = .ok (.getfield 34, 3) := by decide +kernel
theorem dX0_readUnder_33 : decode cX0_readUnder 33 = .ok (.invokevirtual 46, 3) := by decide +kernel
theorem dX0_readUnder_36 : decode cX0_readUnder 36 = .ok (.aload_n 0, 1) := by decide +kernel
theorem dX0_readUnder_37 : decode cX0_readUnder 37 = .ok (.getfield 34, 3) := by decide +kernel
theorem dX0_readUnder_40 : decode cX0_readUnder 40 = .ok (.invokevirtual 42, 3) := by decide +kernel
theorem dX0_readUnder_43 : decode cX0_readUnder 43 = .ok (.ifCond .eq 9, 3) := by decide +kernel
theorem dX0_readUnder_46 : decode cX0_readUnder 46 = .ok (.iconst 0, 1) := by decide +kernel
theorem dX0_readUnder_47 : decode cX0_readUnder 47 = .ok (.istore 4, 2) := by decide +kernel
theorem dX0_readUnder_49 : decode cX0_readUnder 49 = .ok (.goto 78, 3) := by decide +kernel
theorem dX0_readUnder_52 : decode cX0_readUnder 52 = .ok (.aload_n 0, 1) := by decide +kernel
theorem dX0_readUnder_53 : decode cX0_readUnder 53 = .ok (.getfield 18, 3) := by decide +kernel
theorem dX0_readUnder_56 : decode cX0_readUnder 56 = .ok (.iload 5, 2) := by decide +kernel
theorem dX0_readUnder_58 : decode cX0_readUnder 58 = .ok (.iaload, 1) := by decide +kernel
theorem dX0_readUnder_59 : decode cX0_readUnder 59 = .ok (.ifCond .ne 15, 3) := by decide +kernel
theorem dX0_readUnder_62 : decode cX0_readUnder 62 = .ok (.aload_n 0, 1) := by decide +kernel
theorem dX0_readUnder_63 : decode cX0_readUnder 63 = .ok (.getfield 34, 3) := by decide +kernel
theorem dX0_readUnder_66 : decode cX0_readUnder 66 = .ok (.invokevirtual 91, 3) := by decide +kernel
theorem dX0_readUnder_69 : decode cX0_readUnder 69 = .ok (.istore 4, 2) := by decide +kernel
theorem dX0_readUnder_71 : decode cX0_readUnder 71 = .ok (.goto 56, 3) := by decide +kernel
theorem dX0_readUnder_74 : decode cX0_readUnder 74 = .ok (.aload_n 0, 1) := by decide +kernel
theorem dX0_readUnder_75 : decode cX0_readUnder 75 = .ok (.getfield 18, 3) := by decide +kernel
theorem dX0_readUnder_78 : decode cX0_readUnder 78 = .ok (.iload 5, 2) := by decide +kernel
theorem dX0_readUnder_80 : decode cX0_readUnder 80 = .ok (.iaload, 1) := by decide +kernel
theorem dX0_readUnder_81 : decode cX0_readUnder 81 = .ok (.iconst 1, 1) := by decide +kernel
theorem dX0_readUnder_82 : decode cX0_readUnder 82 = .ok (.if_icmp .ne 22, 3) := by decide +kernel
theorem dX0_readUnder_85 : decode cX0_readUnder 85 = .ok (.aload_n 0, 1) := by decide +kernel
theorem dX0_readUnder_86 : decode cX0_readUnder 86 = .ok (.getfield 34, 3) := by decide +kernel
theorem dX0_readUnder_89 : decode cX0_readUnder 89 = .ok (.aload_n 0, 1) := by decide +kernel
theorem dX0_readUnder_90 : decode cX0_readUnder 90 = .ok (.getfield 22, 3) := by decide +kernel
theorem dX0_readUnder_93 : decode cX0_readUnder 93 = .ok (.iload 5, 2) := by decide +kernel
theorem dX0_readUnder_95 : decode cX0_readUnder 95 = .ok (.iaload, 1) := by decide +kernel
theorem dX0_readUnder_96 : decode cX0_readUnder 96 = .ok (.invokevirtual 94, 3) := by decide +kernel
theorem dX0_readUnder_99 : decode cX0_readUnder 99 = .ok (.istore 4, 2) := by decide +kernel
theorem dX0_readUnder_101 : decode cX0_readUnder 101 = .ok (.goto 26, 3) := by decide +kernel
theorem dX0_readUnder_104 : decode cX0_readUnder 104 = .ok (.aload_n 0, 1) := by decide +kernel
theorem dX0_readUnder_105 : decode cX0_readUnder 105 = .ok (.getfield 34, 3) := by decide +kernel
theorem dX0_readUnder_108 : decode cX0_readUnder 108 = .ok (.aload_n 0, 1) := by decide +kernel
theorem dX0_readUnder_109 : decode cX0_readUnder 109 = .ok (.getfield 22, 3) := by decide +kernel
theorem dX0_readUnder_112 : decode cX0_readUnder 112 = .ok (.iload 5, 2) := by decide +kernel
theorem dX0_readUnder_114 : decode cX0_readUnder 114 = .ok (.iaload, 1) := by decide +kernel
theorem dX0_readUnder_115 : decode cX0_readUnder 115 = .ok (.aload_n 0, 1) := by decide +kernel
theorem dX0_readUnder_116 : decode cX0_readUnder 116 = .ok (.getfield 25, 3) := by decide +kernel
theorem dX0_readUnder_119 : decode cX0_readUnder 119 = .ok (.iload 5, 2) := by decide +kernel
theorem dX0_readUnder_121 : decode cX0_readUnder 121 = .ok (.iaload, 1) := by decide +kernel
theorem dX0_readUnder_122 : decode cX0_readUnder 122 = .ok (.invokevirtual 98, 3) := by decide +kernel
theorem dX0_readUnder_125 : decode cX0_readUnder 125 = .ok (.istore 4, 2) := by decide +kernel
theorem dX0_readUnder_127 : decode cX0_readUnder 127 = .ok (.iinc 5 1, 3) := by decide +kernel
theorem dX0_readUnder_130 : decode cX0_readUnder 130 = .ok (.goto (-115), 3) := by decide +kernel
theorem dX0_readUnder_133 : decode cX0_readUnder 133 = .ok (.iload 4, 2) := by decide +kernel
theorem dX0_readUnder_135 : decode cX0_readUnder 135 = .ok (.ifCond .eq 23, 3) := by decide +kernel
theorem dX0_readUnder_138 : decode cX0_readUnder 138 = .ok (.aload_n 0, 1) := by decide +kernel
theorem dX0_readUnder_139 : decode cX0_readUnder 139 = .ok (.getfield 34, 3) := by decide +kernel
theorem dX0_readUnder_142 : decode cX0_readUnder 142 = .ok (.invokevirtual 42, 3) := by decide +kernel
theorem dX0_readUnder_145 : decode cX0_readUnder 145 = .ok (.ifCond .eq 13, 3) := by decide +kernel
theorem dX0_readUnder_148 : decode cX0_readUnder 148 = .ok (.aload_n 0, 1) := by decide +kernel
theorem dX0_readUnder_149 : decode cX0_readUnder 149 = .ok (.getfield 34, 3) := by decide +kernel
theorem dX0_readUnder_152 : decode cX0_readUnder 152 = .ok (.getfield 102, 3) := by decide +kernel
theorem dX0_readUnder_155 : decode cX0_readUnder 155 = .ok (.goto 6, 3) := by decide +kernel
theorem dX0_readUnder_158 : decode cX0_readUnder 158 = .ok (.ldc2_w 56, 3) := by decide +kernel
theorem dX0_readUnder_161 : decode cX0_readUnder 161 = .ok (.lreturn, 1) := by decide +kernel
theorem dX1_init_0 : decode cX1_init 0 = .ok (.aload_n 0, 1) := by decide +kernel
theorem dX1_init_1 : decode cX1_init 1 = .ok (.invokespecial 3, 3) := by decide +kernel
theorem dX1_init_4 : decode cX1_init 4 = .ok (.aload_n 0, 1) := by decide +kernel
theorem dX1_init_5 : decode cX1_init 5 = .ok (.iconst 0, 1) := by decide +kernel
theorem dX1_init_6 : decode cX1_init 6 = .ok (.putfield 9, 3) := by decide +kernel
theorem dX1_init_9 : decode cX1_init 9 = .ok (.aload_n 0, 1) := by decide +kernel
theorem dX1_init_10 : decode cX1_init 10 = .ok (.iconst 0, 1) := by decide +kernel
theorem dX1_init_11 : decode cX1_init 11 = .ok (.putfield 15, 3) := by decide +kernel
theorem dX1_init_14 : decode cX1_init 14 = .ok (.aload_n 0, 1) := by decide +kernel
theorem dX1_init_15 : decode cX1_init 15 = .ok (.bipush 10, 2) := by decide +kernel
theorem dX1_init_17 : decode cX1_init 17 = .ok (.anewarray 18, 3) := by decide +kernel
theorem dX1_init_20 : decode cX1_init 20 = .ok (.putfield 20, 3) := by decide +kernel
theorem dX1_init_23 : decode cX1_init 23 = .ok (.return_, 1) := by decide +kernel
theorem dX1_keep_0 : decode cX1_keep 0 = .ok (.aload_n 0, 1) := by decide +kernel
theorem dX1_keep_1 : decode cX1_keep 1 = .ok (.getfield 15, 3) := by decide +kernel
theorem dX1_keep_4 : decode cX1_keep 4 = .ok (.ifCond .lt 12, 3) := by decide +kernel
theorem dX1_keep_7 : decode cX1_keep 7 = .ok (.aload_n 0, 1) := by decide +kernel
theorem dX1_keep_8 : decode cX1_keep 8 = .ok (.getfield 15, 3) := by decide +kernel
theorem dX1_keep_11 : decode cX1_keep 11 = .ok (.bipush 10, 2) := by decide +kernel
theorem dX1_keep_13 : decode cX1_keep 13 = .ok (.if_icmp .lt 4, 3) := by decide +kernel
theorem dX1_keep_16 : decode cX1_keep 16 = .ok (.return_, 1) := by decide +kernel
theorem dX1_keep_17 : decode cX1_keep 17 = .ok (.aload_n 0, 1) := by decide +kernel
theorem dX1_keep_18 : decode cX1_keep 18 = .ok (.getfield 20, 3) := by decide +kernel
theorem dX1_keep_21 : decode cX1_keep 21 = .ok (.aload_n 0, 1) := by decide +kernel
theorem dX1_keep_22 : decode cX1_keep 22 = .ok (.getfield 15, 3) := by decide +kernel
theorem dX1_keep_25 : decode cX1_keep 25 = .ok (.aaload, 1) := by decide +kernel
theorem dX1_keep_26 : decode cX1_keep 26 = .ok (.ifnonnull 19, 3) := by decide +kernel
theorem dX1_keep_29 : decode cX1_keep 29 = .ok (.aload_n 0, 1) := by decide +kernel
theorem dX1_keep_30 : decode cX1_keep 30 = .ok (.getfield 20, 3) := by decide +kernel
theorem dX1_keep_33 : decode cX1_keep 33 = .ok (.aload_n 0, 1) := by decide +kernel
theorem dX1_keep_34 : decode cX1_keep 34 = .ok (.getfield 15, 3) := by decide +kernel
theorem dX1_keep_37 : decode cX1_keep 37 = .ok (.new 18, 3) := by decide +kernel
theorem dX1_keep_40 : decode cX1_keep 40 = .ok (.dup, 1) := by decide +kernel
theorem dX1_keep_41 : decode cX1_keep 41 = .ok (.invokespecial 24, 3) := by decide +kernel
theorem dX1_keep_44 : decode cX1_keep 44 = .ok (.aastore, 1) := by decide +kernel
theorem dX1_keep_45 : decode cX1_keep 45 = .ok (.aload_n 0, 1) := by decide +kernel
theorem dX1_keep_46 : decode cX1_keep 46 = .ok (.getfield 20, 3) := by decide +kernel
theorem dX1_keep_49 : decode cX1_keep 49 = .ok (.aload_n 0, 1) := by decide +kernel
theorem dX1_keep_50 : decode cX1_keep 50 = .ok (.getfield 15, 3) := by decide +kernel
theorem dX1_keep_53 : decode cX1_keep 53 = .ok (.aaload, 1) := by decide +kernel
theorem dX1_keep_54 : decode cX1_keep 54 = .ok (.aload_n 1, 1) := by decide +kernel
theorem dX1_keep_55 : decode cX1_keep 55 = .ok (.invokevirtual 25, 3) := by decide +kernel
theorem dX1_keep_58 : decode cX1_keep 58 = .ok (.aload_n 0, 1) := by decide +kernel
theorem dX1_keep_59 : decode cX1_keep 59 = .ok (.aload_n 0, 1) := by decide +kernel
theorem dX1_keep_60 : decode cX1_keep 60 = .ok (.getfield 15, 3) := by decide +kernel
theorem dX1_keep_63 : decode cX1_keep 63 = .ok (.iconst 1, 1) := by decide +kernel
theorem dX1_keep_64 : decode cX1_keep 64 = .ok (.iadd, 1) := by decide +kernel
theorem dX1_keep_65 : decode cX1_keep 65 = .ok (.bipush 10, 2) := by decide +kernel
theorem dX1_keep_67 : decode cX1_keep 67 = .ok (.if_icmp .ge 12, 3) := by decide +kernel
theorem dX1_keep_70 : decode cX1_keep 70 = .ok (.aload_n 0, 1) := by decide +kernel
theorem dX1_keep_71 : decode cX1_keep 71 = .ok (.getfield 15, 3) := by decide +kernel
theorem dX1_keep_74 : decode cX1_keep 74 = .ok (.iconst 1, 1) := by decide +kernel
theorem dX1_keep_75 : decode cX1_keep 75 = .ok (.iadd, 1) := by decide +kernel
theorem dX1_keep_76 : decode cX1_keep 76 = .ok (.goto 4, 3) := by decide +kernel
theorem dX1_keep_79 : decode cX1_keep 79 = .ok (.iconst 0, 1) := by decide +kernel
theorem dX1_keep_80 : decode cX1_keep 80 = .ok (.putfield 15, 3) := by decide +kernel
theorem dX1_keep_83 : decode cX1_keep 83 = .ok (.aload_n 0, 1) := by decide +kernel
theorem dX1_keep_84 : decode cX1_keep 84 = .ok (.aload_n 0, 1) := by decide +kernel
theorem dX1_keep_85 : decode cX1_keep 85 = .ok (.getfield 9, 3) := by decide +kernel
theorem dX1_keep_88 : decode cX1_keep 88 = .ok (.iconst 1, 1) := by decide +kernel
theorem dX1_keep_89 : decode cX1_keep 89 = .ok (.iadd, 1) := by decide +kernel
theorem dX1_keep_90 : decode cX1_keep 90 = .ok (.bipush 10, 2) := by decide +kernel
theorem dX1_keep_92 : decode cX1_keep 92 = .ok (.invokestatic 29, 3) := by decide +kernel
theorem dX1_keep_95 : decode cX1_keep 95 = .ok (.putfield 9, 3) := by decide +kernel
theorem dX1_keep_98 : decode cX1_keep 98 = .ok (.return_, 1) := by decide +kernel
theorem dX1_takeBack_0 : decode cX1_takeBack 0 = .ok (.aload_n 0, 1) := by decide +kernel
theorem dX1_takeBack_1 : decode cX1_takeBack 1 = .ok (.getfield 15, 3) := by decide +kernel
theorem dX1_takeBack_4 : decode cX1_takeBack 4 = .ok (.ifCond .le 12, 3) := by decide +kernel
theorem dX1_takeBack_7 : decode cX1_takeBack 7 = .ok (.aload_n 0, 1) := by decide +kernel
theorem dX1_takeBack_8 : decode cX1_takeBack 8 = .ok (.getfield 15, 3) := by decide +kernel
theorem dX1_takeBack_11 : decode cX1_takeBack 11 = .ok (.iconst 1, 1) := by decide +kernel
theorem dX1_takeBack_12 : decode cX1_takeBack 12 = .ok (.isub, 1) := by decide +kernel
theorem dX1_takeBack_13 : decode cX1_takeBack 13 = .ok (.goto 5, 3) := by decide +kernel
theorem dX1_takeBack_16 : decode cX1_takeBack 16 = .ok (.bipush 9, 2) := by decide +kernel
theorem dX1_takeBack_18 : decode cX1_takeBack 18 = .ok (.istore_n 2, 1) := by decide +kernel
theorem dX1_takeBack_19 : decode cX1_takeBack 19 = .ok (.aload_n 0, 1) := by decide +kernel
theorem dX1_takeBack_20 : decode cX1_takeBack 20 = .ok (.getfield 9, 3) := by decide +kernel
theorem dX1_takeBack_23 : decode cX1_takeBack 23 = .ok (.ifCond .le 18, 3) := by decide +kernel
theorem dX1_takeBack_26 : decode cX1_takeBack 26 = .ok (.iload_n 2, 1) := by decide +kernel
theorem dX1_takeBack_27 : decode cX1_takeBack 27 = .ok (.bipush 10, 2) := by decide +kernel
theorem dX1_takeBack_29 : decode cX1_takeBack 29 = .ok (.if_icmp .ge 12, 3) := by decide +kernel
theorem dX1_takeBack_32 : decode cX1_takeBack 32 = .ok (.aload_n 0, 1) := by decide +kernel
theorem dX1_takeBack_33 : decode cX1_takeBack 33 = .ok (.getfield 20, 3) := by decide +kernel
theorem dX1_takeBack_36 : decode cX1_takeBack 36 = .ok (.iload_n 2, 1) := by decide +kernel
theorem dX1_takeBack_37 : decode cX1_takeBack 37 = .ok (.aaload, 1) := by decide +kernel
theorem dX1_takeBack_38 : decode cX1_takeBack 38 = .ok (.ifnonnull 5, 3) := by decide +kernel
theorem dX1_takeBack_41 : decode cX1_takeBack 41 = .ok (.iconst 0, 1) := by decide +kernel
theorem dX1_takeBack_42 : decode cX1_takeBack 42 = .ok (.ireturn, 1) := by decide +kernel
theorem dX1_takeBack_43 : decode cX1_takeBack 43 = .ok (.aload_n 1, 1) := by decide +kernel
theorem dX1_takeBack_44 : decode cX1_takeBack 44 = .ok (.aload_n 0, 1) := by decide +kernel
theorem dX1_takeBack_45 : decode cX1_takeBack 45 = .ok (.getfield 20, 3) := by decide +kernel
theorem dX1_takeBack_48 : decode cX1_takeBack 48 = .ok (.iload_n 2, 1) := by decide +kernel
theorem dX1_takeBack_49 : decode cX1_takeBack 49 = .ok (.aaload, 1) := by decide +kernel
theorem dX1_takeBack_50 : decode cX1_takeBack 50 = .ok (.invokevirtual 25, 3) := by decide +kernel
theorem dX1_takeBack_53 : decode cX1_takeBack 53 = .ok (.aload_n 0, 1) := by decide +kernel
theorem dX1_takeBack_54 : decode cX1_takeBack 54 = .ok (.iload_n 2, 1) := by decide +kernel
theorem dX1_takeBack_55 : decode cX1_takeBack 55 = .ok (.putfield 15, 3) := by decide +kernel
theorem dX1_takeBack_58 : decode cX1_takeBack 58 = .ok (.aload_n 0, 1) := by decide +kernel
theorem dX1_takeBack_59 : decode cX1_takeBack 59 = .ok (.dup, 1) := by decide +kernel
theorem dX1_takeBack_60 : decode cX1_takeBack 60 = .ok (.getfield 9, 3) := by decide +kernel
theorem dX1_takeBack_63 : decode cX1_takeBack 63 = .ok (.iconst 1, 1) := by decide +kernel
theorem dX1_takeBack_64 : decode cX1_takeBack 64 = .ok (.isub, 1) := by decide +kernel
theorem dX1_takeBack_65 : decode cX1_takeBack 65 = .ok (.putfield 9, 3) := by decide +kernel
theorem dX1_takeBack_68 : decode cX1_takeBack 68 = .ok (.iconst 1, 1) := by decide +kernel
theorem dX1_takeBack_69 : decode cX1_takeBack 69 = .ok (.ireturn, 1) := by decide +kernel
theorem dX1_forget_0 : decode cX1_forget 0 = .ok (.aload_n 0, 1) := by decide +kernel
theorem dX1_forget_1 : decode cX1_forget 1 = .ok (.iconst 0, 1) := by decide +kernel
theorem dX1_forget_2 : decode cX1_forget 2 = .ok (.putfield 9, 3) := by decide +kernel
theorem dX1_forget_5 : decode cX1_forget 5 = .ok (.return_, 1) := by decide +kernel
theorem dX2_init_0 : decode cX2_init 0 = .ok (.aload_n 0, 1) := by decide +kernel
theorem dX2_init_1 : decode cX2_init 1 = .ok (.invokespecial 3, 3) := by decide +kernel
theorem dX2_init_4 : decode cX2_init 4 = .ok (.aload_n 0, 1) := by decide +kernel
theorem dX2_init_5 : decode cX2_init 5 = .ok (.bipush 20, 2) := by decide +kernel
theorem dX2_init_7 : decode cX2_init 7 = .ok (.newarray .long, 2) := by decide +kernel
theorem dX2_init_9 : decode cX2_init 9 = .ok (.putfield 9, 3) := by decide +kernel
theorem dX2_init_12 : decode cX2_init 12 = .ok (.aload_n 0, 1) := by decide +kernel
theorem dX2_init_13 : decode cX2_init 13 = .ok (.bipush 20, 2) := by decide +kernel
theorem dX2_init_15 : decode cX2_init 15 = .ok (.newarray .int, 2) := by decide +kernel
theorem dX2_init_17 : decode cX2_init 17 = .ok (.putfield 15, 3) := by decide +kernel
theorem dX2_init_20 : decode cX2_init 20 = .ok (.aload_n 0, 1) := by decide +kernel
theorem dX2_init_21 : decode cX2_init 21 = .ok (.bipush 6, 2) := by decide +kernel
theorem dX2_init_23 : decode cX2_init 23 = .ok (.newarray .int, 2) := by decide +kernel
theorem dX2_init_25 : decode cX2_init 25 = .ok (.putfield 19, 3) := by decide +kernel
theorem dX2_init_28 : decode cX2_init 28 = .ok (.aload_n 0, 1) := by decide +kernel
theorem dX2_init_29 : decode cX2_init 29 = .ok (.bipush 16, 2) := by decide +kernel
theorem dX2_init_31 : decode cX2_init 31 = .ok (.putfield 22, 3) := by decide +kernel
theorem dX2_init_34 : decode cX2_init 34 = .ok (.aload_n 0, 1) := by decide +kernel
theorem dX2_init_35 : decode cX2_init 35 = .ok (.iconst 0, 1) := by decide +kernel
theorem dX2_init_36 : decode cX2_init 36 = .ok (.putfield 26, 3) := by decide +kernel
theorem dX2_init_39 : decode cX2_init 39 = .ok (.iconst 0, 1) := by decide +kernel
theorem dX2_init_40 : decode cX2_init 40 = .ok (.istore_n 1, 1) := by decide +kernel
theorem dX2_init_41 : decode cX2_init 41 = .ok (.iload_n 1, 1) := by decide +kernel
theorem dX2_init_42 : decode cX2_init 42 = .ok (.bipush 6, 2) := by decide +kernel
theorem dX2_init_44 : decode cX2_init 44 = .ok (.if_icmp .ge 20, 3) := by decide +kernel
theorem dX2_init_47 : decode cX2_init 47 = .ok (.aload_n 0, 1) := by decide +kernel
theorem dX2_init_48 : decode cX2_init 48 = .ok (.getfield 19, 3) := by decide +kernel
theorem dX2_init_51 : decode cX2_init 51 = .ok (.iload_n 1, 1) := by decide +kernel
theorem dX2_init_52 : decode cX2_init 52 = .ok (.getstatic 29, 3) := by decide +kernel
theorem dX2_init_55 : decode cX2_init 55 = .ok (.iload_n 1, 1) := by decide +kernel
theorem dX2_init_56 : decode cX2_init 56 = .ok (.iaload, 1) := by decide +kernel
theorem dX2_init_57 : decode cX2_init 57 = .ok (.iastore, 1) := by decide +kernel
theorem dX2_init_58 : decode cX2_init 58 = .ok (.iinc 1 1, 3) := by decide +kernel
theorem dX2_init_61 : decode cX2_init 61 = .ok (.goto (-20), 3) := by decide +kernel
theorem dX2_init_64 : decode cX2_init 64 = .ok (.return_, 1) := by decide +kernel
theorem dX2_clear_0 : decode cX2_clear 0 = .ok (.aload_n 0, 1) := by decide +kernel
theorem dX2_clear_1 : decode cX2_clear 1 = .ok (.bipush 16, 2) := by decide +kernel
theorem dX2_clear_3 : decode cX2_clear 3 = .ok (.putfield 22, 3) := by decide +kernel
theorem dX2_clear_6 : decode cX2_clear 6 = .ok (.aload_n 0, 1) := by decide +kernel
theorem dX2_clear_7 : decode cX2_clear 7 = .ok (.iconst 0, 1) := by decide +kernel
theorem dX2_clear_8 : decode cX2_clear 8 = .ok (.putfield 26, 3) := by decide +kernel
theorem dX2_clear_11 : decode cX2_clear 11 = .ok (.iconst 0, 1) := by decide +kernel
theorem dX2_clear_12 : decode cX2_clear 12 = .ok (.istore_n 1, 1) := by decide +kernel
theorem dX2_clear_13 : decode cX2_clear 13 = .ok (.iload_n 1, 1) := by decide +kernel
theorem dX2_clear_14 : decode cX2_clear 14 = .ok (.bipush 20, 2) := by decide +kernel
theorem dX2_clear_16 : decode cX2_clear 16 = .ok (.if_icmp .ge 23, 3) := by decide +kernel
theorem dX2_clear_19 : decode cX2_clear 19 = .ok (.aload_n 0, 1) := by decide +kernel
theorem dX2_clear_20 : decode cX2_clear 20 = .ok (.getfield 9, 3) := by decide +kernel
theorem dX2_clear_23 : decode cX2_clear 23 = .ok (.iload_n 1, 1) := by decide +kernel
theorem dX2_clear_24 : decode cX2_clear 24 = .ok (.lconst 0, 1) := by decide +kernel
theorem dX2_clear_25 : decode cX2_clear 25 = .ok (.lastore, 1) := by decide +kernel
theorem dX2_clear_26 : decode cX2_clear 26 = .ok (.aload_n 0, 1) := by decide +kernel
theorem dX2_clear_27 : decode cX2_clear 27 = .ok (.getfield 15, 3) := by decide +kernel
theorem dX2_clear_30 : decode cX2_clear 30 = .ok (.iload_n 1, 1) := by decide +kernel
theorem dX2_clear_31 : decode cX2_clear 31 = .ok (.iconst 0, 1) := by decide +kernel
theorem dX2_clear_32 : decode cX2_clear 32 = .ok (.iastore, 1) := by decide +kernel
theorem dX2_clear_33 : decode cX2_clear 33 = .ok (.iinc 1 1, 3) := by decide +kernel
theorem dX2_clear_36 : decode cX2_clear 36 = .ok (.goto (-23), 3) := by decide +kernel
theorem dX2_clear_39 : decode cX2_clear 39 = .ok (.iconst 0, 1) := by decide +kernel
theorem dX2_clear_40 : decode cX2_clear 40 = .ok (.istore_n 1, 1) := by decide +kernel
theorem dX2_clear_41 : decode cX2_clear 41 = .ok (.iload_n 1, 1) := by decide +kernel
theorem dX2_clear_42 : decode cX2_clear 42 = .ok (.bipush 6, 2) := by decide +kernel
theorem dX2_clear_44 : decode cX2_clear 44 = .ok (.if_icmp .ge 20, 3) := by decide +kernel
theorem dX2_clear_47 : decode cX2_clear 47 = .ok (.aload_n 0, 1) := by decide +kernel
theorem dX2_clear_48 : decode cX2_clear 48 = .ok (.getfield 19, 3) := by decide +kernel
theorem dX2_clear_51 : decode cX2_clear 51 = .ok (.iload_n 1, 1) := by decide +kernel
theorem dX2_clear_52 : decode cX2_clear 52 = .ok (.getstatic 29, 3) := by decide +kernel
theorem dX2_clear_55 : decode cX2_clear 55 = .ok (.iload_n 1, 1) := by decide +kernel
theorem dX2_clear_56 : decode cX2_clear 56 = .ok (.iaload, 1) := by decide +kernel
theorem dX2_clear_57 : decode cX2_clear 57 = .ok (.iastore, 1) := by decide +kernel
theorem dX2_clear_58 : decode cX2_clear 58 = .ok (.iinc 1 1, 3) := by decide +kernel
theorem dX2_clear_61 : decode cX2_clear 61 = .ok (.goto (-20), 3) := by decide +kernel
theorem dX2_clear_64 : decode cX2_clear 64 = .ok (.return_, 1) := by decide +kernel
theorem dX2_copyFrom_0 : decode cX2_copyFrom 0 = .ok (.aload_n 0, 1) := by decide +kernel
theorem dX2_copyFrom_1 : decode cX2_copyFrom 1 = .ok (.aload_n 1, 1) := by decide +kernel
theorem dX2_copyFrom_2 : decode cX2_copyFrom 2 = .ok (.getfield 22, 3) := by decide +kernel
theorem dX2_copyFrom_5 : decode cX2_copyFrom 5 = .ok (.putfield 22, 3) := by decide +kernel
theorem dX2_copyFrom_8 : decode cX2_copyFrom 8 = .ok (.aload_n 0, 1) := by decide +kernel
theorem dX2_copyFrom_9 : decode cX2_copyFrom 9 = .ok (.aload_n 1, 1) := by decide +kernel
theorem dX2_copyFrom_10 : decode cX2_copyFrom 10 = .ok (.getfield 26, 3) := by decide +kernel
theorem dX2_copyFrom_13 : decode cX2_copyFrom 13 = .ok (.putfield 26, 3) := by decide +kernel
theorem dX2_copyFrom_16 : decode cX2_copyFrom 16 = .ok (.iconst 0, 1) := by decide +kernel
theorem dX2_copyFrom_17 : decode cX2_copyFrom 17 = .ok (.istore_n 2, 1) := by decide +kernel
theorem dX2_copyFrom_18 : decode cX2_copyFrom 18 = .ok (.iload_n 2, 1) := by decide +kernel
theorem dX2_copyFrom_19 : decode cX2_copyFrom 19 = .ok (.bipush 20, 2) := by decide +kernel
theorem dX2_copyFrom_21 : decode cX2_copyFrom 21 = .ok (.if_icmp .ge 33, 3) := by decide +kernel
theorem dX2_copyFrom_24 : decode cX2_copyFrom 24 = .ok (.aload_n 0, 1) := by decide +kernel
theorem dX2_copyFrom_25 : decode cX2_copyFrom 25 = .ok (.getfield 9, 3) := by decide +kernel
theorem dX2_copyFrom_28 : decode cX2_copyFrom 28 = .ok (.iload_n 2, 1) := by decide +kernel
theorem dX2_copyFrom_29 : decode cX2_copyFrom 29 = .ok (.aload_n 1, 1) := by decide +kernel
theorem dX2_copyFrom_30 : decode cX2_copyFrom 30 = .ok (.getfield 9, 3) := by decide +kernel
theorem dX2_copyFrom_33 : decode cX2_copyFrom 33 = .ok (.iload_n 2, 1) := by decide +kernel
theorem dX2_copyFrom_34 : decode cX2_copyFrom 34 = .ok (.laload, 1) := by decide +kernel
theorem dX2_copyFrom_35 : decode cX2_copyFrom 35 = .ok (.lastore, 1) := by decide +kernel
theorem dX2_copyFrom_36 : decode cX2_copyFrom 36 = .ok (.aload_n 0, 1) := by decide +kernel
theorem dX2_copyFrom_37 : decode cX2_copyFrom 37 = .ok (.getfield 15, 3) := by decide +kernel
theorem dX2_copyFrom_40 : decode cX2_copyFrom 40 = .ok (.iload_n 2, 1) := by decide +kernel
theorem dX2_copyFrom_41 : decode cX2_copyFrom 41 = .ok (.aload_n 1, 1) := by decide +kernel
theorem dX2_copyFrom_42 : decode cX2_copyFrom 42 = .ok (.getfield 15, 3) := by decide +kernel
theorem dX2_copyFrom_45 : decode cX2_copyFrom 45 = .ok (.iload_n 2, 1) := by decide +kernel
theorem dX2_copyFrom_46 : decode cX2_copyFrom 46 = .ok (.iaload, 1) := by decide +kernel
theorem dX2_copyFrom_47 : decode cX2_copyFrom 47 = .ok (.iastore, 1) := by decide +kernel
theorem dX2_copyFrom_48 : decode cX2_copyFrom 48 = .ok (.iinc 2 1, 3) := by decide +kernel
theorem dX2_copyFrom_51 : decode cX2_copyFrom 51 = .ok (.goto (-33), 3) := by decide +kernel
theorem dX2_copyFrom_54 : decode cX2_copyFrom 54 = .ok (.iconst 0, 1) := by decide +kernel
theorem dX2_copyFrom_55 : decode cX2_copyFrom 55 = .ok (.istore_n 2, 1) := by decide +kernel
theorem dX2_copyFrom_56 : decode cX2_copyFrom 56 = .ok (.iload_n 2, 1) := by decide +kernel
theorem dX2_copyFrom_57 : decode cX2_copyFrom 57 = .ok (.bipush 6, 2) := by decide +kernel
theorem dX2_copyFrom_59 : decode cX2_copyFrom 59 = .ok (.if_icmp .ge 21, 3) := by decide +kernel
theorem dX2_copyFrom_62 : decode cX2_copyFrom 62 = .ok (.aload_n 0, 1) := by decide +kernel
theorem dX2_copyFrom_63 : decode cX2_copyFrom 63 = .ok (.getfield 19, 3) := by decide +kernel
theorem dX2_copyFrom_66 : decode cX2_copyFrom 66 = .ok (.iload_n 2, 1) := by decide +kernel
theorem dX2_copyFrom_67 : decode cX2_copyFrom 67 = .ok (.aload_n 1, 1) := by decide +kernel
theorem dX2_copyFrom_68 : decode cX2_copyFrom 68 = .ok (.getfield 19, 3) := by decide +kernel
theorem dX2_copyFrom_71 : decode cX2_copyFrom 71 = .ok (.iload_n 2, 1) := by decide +kernel
theorem dX2_copyFrom_72 : decode cX2_copyFrom 72 = .ok (.iaload, 1) := by decide +kernel
theorem dX2_copyFrom_73 : decode cX2_copyFrom 73 = .ok (.iastore, 1) := by decide +kernel
theorem dX2_copyFrom_74 : decode cX2_copyFrom 74 = .ok (.iinc 2 1, 3) := by decide +kernel
theorem dX2_copyFrom_77 : decode cX2_copyFrom 77 = .ok (.goto (-21), 3) := by decide +kernel
theorem dX2_copyFrom_80 : decode cX2_copyFrom 80 = .ok (.return_, 1) := by decide +kernel
theorem dX2_hasLine_0 : decode cX2_hasLine 0 = .ok (.iload_n 1, 1) := by decide +kernel
theorem dX2_hasLine_1 : decode cX2_hasLine 1 = .ok (.ifCond .lt 21, 3) := by decide +kernel
theorem dX2_hasLine_4 : decode cX2_hasLine 4 = .ok (.iload_n 1, 1) := by decide +kernel
theorem dX2_hasLine_5 : decode cX2_hasLine 5 = .ok (.aload_n 0, 1) := by decide +kernel
theorem dX2_hasLine_6 : decode cX2_hasLine 6 = .ok (.getfield 26, 3) := by decide +kernel
theorem dX2_hasLine_9 : decode cX2_hasLine 9 = .ok (.if_icmp .ge 13, 3) := by decide +kernel
theorem dX2_hasLine_12 : decode cX2_hasLine 12 = .ok (.iload_n 1, 1) := by decide +kernel
theorem dX2_hasLine_13 : decode cX2_hasLine 13 = .ok (.bipush 20, 2) := by decide +kernel
theorem dX2_hasLine_15 : decode cX2_hasLine 15 = .ok (.if_icmp .ge 7, 3) := by decide +kernel
theorem dX2_hasLine_18 : decode cX2_hasLine 18 = .ok (.iconst 1, 1) := by decide +kernel
theorem dX2_hasLine_19 : decode cX2_hasLine 19 = .ok (.goto 4, 3) := by decide +kernel
theorem dX2_hasLine_22 : decode cX2_hasLine 22 = .ok (.iconst 0, 1) := by decide +kernel
theorem dX2_hasLine_23 : decode cX2_hasLine 23 = .ok (.ireturn, 1) := by decide +kernel
theorem dX2_rowAt_0 : decode cX2_rowAt 0 = .ok (.aload_n 0, 1) := by decide +kernel
theorem dX2_rowAt_1 : decode cX2_rowAt 1 = .ok (.iload_n 1, 1) := by decide +kernel
theorem dX2_rowAt_2 : decode cX2_rowAt 2 = .ok (.invokevirtual 32, 3) := by decide +kernel
theorem dX2_rowAt_5 : decode cX2_rowAt 5 = .ok (.ifCond .eq 12, 3) := by decide +kernel
theorem dX2_rowAt_8 : decode cX2_rowAt 8 = .ok (.aload_n 0, 1) := by decide +kernel
theorem dX2_rowAt_9 : decode cX2_rowAt 9 = .ok (.getfield 9, 3) := by decide +kernel
theorem dX2_rowAt_12 : decode cX2_rowAt 12 = .ok (.iload_n 1, 1) := by decide +kernel
theorem dX2_rowAt_13 : decode cX2_rowAt 13 = .ok (.laload, 1) := by decide +kernel
theorem dX2_rowAt_14 : decode cX2_rowAt 14 = .ok (.goto 4, 3) := by decide +kernel
theorem dX2_rowAt_17 : decode cX2_rowAt 17 = .ok (.lconst 0, 1) := by decide +kernel
theorem dX2_rowAt_18 : decode cX2_rowAt 18 = .ok (.lreturn, 1) := by decide +kernel
theorem dX2_putRow_0 : decode cX2_putRow 0 = .ok (.aload_n 0, 1) := by decide +kernel
theorem dX2_putRow_1 : decode cX2_putRow 1 = .ok (.iload_n 1, 1) := by decide +kernel
theorem dX2_putRow_2 : decode cX2_putRow 2 = .ok (.invokevirtual 32, 3) := by decide +kernel
theorem dX2_putRow_5 : decode cX2_putRow 5 = .ok (.ifCond .eq 18, 3) := by decide +kernel
theorem dX2_putRow_8 : decode cX2_putRow 8 = .ok (.aload_n 0, 1) := by decide +kernel
theorem dX2_putRow_9 : decode cX2_putRow 9 = .ok (.getfield 9, 3) := by decide +kernel
theorem dX2_putRow_12 : decode cX2_putRow 12 = .ok (.iload_n 1, 1) := by decide +kernel
theorem dX2_putRow_13 : decode cX2_putRow 13 = .ok (.lload_n 2, 1) := by decide +kernel
theorem dX2_putRow_14 : decode cX2_putRow 14 = .ok (.aload_n 0, 1) := by decide +kernel
theorem dX2_putRow_15 : decode cX2_putRow 15 = .ok (.getfield 22, 3) := by decide +kernel
theorem dX2_putRow_18 : decode cX2_putRow 18 = .ok (.invokestatic 36, 3) := by decide +kernel
theorem dX2_putRow_21 : decode cX2_putRow 21 = .ok (.land, 1) := by decide +kernel
theorem dX2_putRow_22 : decode cX2_putRow 22 = .ok (.lastore, 1) := by decide +kernel
theorem dX2_putRow_23 : decode cX2_putRow 23 = .ok (.return_, 1) := by decide +kernel
theorem dX2_insertRow_0 : decode cX2_insertRow 0 = .ok (.aload_n 0, 1) := by decide +kernel
theorem dX2_insertRow_1 : decode cX2_insertRow 1 = .ok (.getfield 26, 3) := by decide +kernel
theorem dX2_insertRow_4 : decode cX2_insertRow 4 = .ok (.bipush 20, 2) := by decide +kernel
theorem dX2_insertRow_6 : decode cX2_insertRow 6 = .ok (.if_icmp .lt 4, 3) := by decide +kernel
theorem dX2_insertRow_9 : decode cX2_insertRow 9 = .ok (.return_, 1) := by decide +kernel
theorem dX2_insertRow_10 : decode cX2_insertRow 10 = .ok (.aload_n 0, 1) := by decide +kernel
theorem dX2_insertRow_11 : decode cX2_insertRow 11 = .ok (.getfield 26, 3) := by decide +kernel
theorem dX2_insertRow_14 : decode cX2_insertRow 14 = .ok (.istore 4, 2) := by decide +kernel
theorem dX2_insertRow_16 : decode cX2_insertRow 16 = .ok (.iload 4, 2) := by decide +kernel
theorem dX2_insertRow_18 : decode cX2_insertRow 18 = .ok (.iload_n 1, 1) := by decide +kernel
theorem dX2_insertRow_19 : decode cX2_insertRow 19 = .ok (.if_icmp .le 30, 3) := by decide +kernel
theorem dX2_insertRow_22 : decode cX2_insertRow 22 = .ok (.iload 4, 2) := by decide +kernel
theorem dX2_insertRow_24 : decode cX2_insertRow 24 = .ok (.ifCond .le 25, 3) := by decide +kernel
theorem dX2_insertRow_27 : decode cX2_insertRow 27 = .ok (.aload_n 0, 1) := by decide +kernel
theorem dX2_insertRow_28 : decode cX2_insertRow 28 = .ok (.getfield 9, 3) := by decide +kernel
theorem dX2_insertRow_31 : decode cX2_insertRow 31 = .ok (.iload 4, 2) := by decide +kernel
theorem dX2_insertRow_33 : decode cX2_insertRow 33 = .ok (.aload_n 0, 1) := by decide +kernel
theorem dX2_insertRow_34 : decode cX2_insertRow 34 = .ok (.getfield 9, 3) := by decide +kernel
theorem dX2_insertRow_37 : decode cX2_insertRow 37 = .ok (.iload 4, 2) := by decide +kernel
theorem dX2_insertRow_39 : decode cX2_insertRow 39 = .ok (.iconst 1, 1) := by decide +kernel
theorem dX2_insertRow_40 : decode cX2_insertRow 40 = .ok (.isub, 1) := by decide +kernel
theorem dX2_insertRow_41 : decode cX2_insertRow 41 = .ok (.laload, 1) := by decide +kernel
theorem dX2_insertRow_42 : decode cX2_insertRow 42 = .ok (.lastore, 1) := by decide +kernel
theorem dX2_insertRow_43 : decode cX2_insertRow 43 = .ok (.iinc 4 (-1), 3) := by decide +kernel
theorem dX2_insertRow_46 : decode cX2_insertRow 46 = .ok (.goto (-30), 3) := by decide +kernel
theorem dX2_insertRow_49 : decode cX2_insertRow 49 = .ok (.aload_n 0, 1) := by decide +kernel
theorem dX2_insertRow_50 : decode cX2_insertRow 50 = .ok (.dup, 1) := by decide +kernel
theorem dX2_insertRow_51 : decode cX2_insertRow 51 = .ok (.getfield 26, 3) := by decide +kernel
theorem dX2_insertRow_54 : decode cX2_insertRow 54 = .ok (.iconst 1, 1) := by decide +kernel
theorem dX2_insertRow_55 : decode cX2_insertRow 55 = .ok (.iadd, 1) := by decide +kernel
theorem dX2_insertRow_56 : decode cX2_insertRow 56 = .ok (.putfield 26, 3) := by decide +kernel
theorem dX2_insertRow_59 : decode cX2_insertRow 59 = .ok (.aload_n 0, 1) := by decide +kernel
theorem dX2_insertRow_60 : decode cX2_insertRow 60 = .ok (.iload_n 1, 1) := by decide +kernel
theorem dX2_insertRow_61 : decode cX2_insertRow 61 = .ok (.lload_n 2, 1) := by decide +kernel
theorem dX2_insertRow_62 : decode cX2_insertRow 62 = .ok (.invokevirtual 40, 3) := by decide +kernel
theorem dX2_insertRow_65 : decode cX2_insertRow 65 = .ok (.return_, 1) := by decide +kernel
theorem dX2_deleteRow_0 : decode cX2_deleteRow 0 = .ok (.aload_n 0, 1) := by decide +kernel
theorem dX2_deleteRow_1 : decode cX2_deleteRow 1 = .ok (.iload_n 1, 1) := by decide +kernel
theorem dX2_deleteRow_2 : decode cX2_deleteRow 2 = .ok (.invokevirtual 32, 3) := by decide +kernel
theorem dX2_deleteRow_5 : decode cX2_deleteRow 5 = .ok (.ifCond .ne 4, 3) := by decide +kernel
theorem dX2_deleteRow_8 : decode cX2_deleteRow 8 = .ok (.return_, 1) := by decide +kernel
theorem dX2_deleteRow_9 : decode cX2_deleteRow 9 = .ok (.aload_n 0, 1) := by decide +kernel
theorem dX2_deleteRow_10 : decode cX2_deleteRow 10 = .ok (.dup, 1) := by decide +kernel
theorem dX2_deleteRow_11 : decode cX2_deleteRow 11 = .ok (.getfield 26, 3) := by decide +kernel
theorem dX2_deleteRow_14 : decode cX2_deleteRow 14 = .ok (.iconst 1, 1) := by decide +kernel
theorem dX2_deleteRow_15 : decode cX2_deleteRow 15 = .ok (.isub, 1) := by decide +kernel
theorem dX2_deleteRow_16 : decode cX2_deleteRow 16 = .ok (.putfield 26, 3) := by decide +kernel
theorem dX2_deleteRow_19 : decode cX2_deleteRow 19 = .ok (.iload_n 1, 1) := by decide +kernel
theorem dX2_deleteRow_20 : decode cX2_deleteRow 20 = .ok (.istore_n 2, 1) := by decide +kernel
theorem dX2_deleteRow_21 : decode cX2_deleteRow 21 = .ok (.iload_n 2, 1) := by decide +kernel
theorem dX2_deleteRow_22 : decode cX2_deleteRow 22 = .ok (.aload_n 0, 1) := by decide +kernel
theorem dX2_deleteRow_23 : decode cX2_deleteRow 23 = .ok (.getfield 26, 3) := by decide +kernel
theorem dX2_deleteRow_26 : decode cX2_deleteRow 26 = .ok (.if_icmp .ge 23, 3) := by decide +kernel
theorem dX2_deleteRow_29 : decode cX2_deleteRow 29 = .ok (.aload_n 0, 1) := by decide +kernel
theorem dX2_deleteRow_30 : decode cX2_deleteRow 30 = .ok (.getfield 9, 3) := by decide +kernel
theorem dX2_deleteRow_33 : decode cX2_deleteRow 33 = .ok (.iload_n 2, 1) := by decide +kernel
theorem dX2_deleteRow_34 : decode cX2_deleteRow 34 = .ok (.aload_n 0, 1) := by decide +kernel
theorem dX2_deleteRow_35 : decode cX2_deleteRow 35 = .ok (.getfield 9, 3) := by decide +kernel
theorem dX2_deleteRow_38 : decode cX2_deleteRow 38 = .ok (.iload_n 2, 1) := by decide +kernel
theorem dX2_deleteRow_39 : decode cX2_deleteRow 39 = .ok (.iconst 1, 1) := by decide +kernel
theorem dX2_deleteRow_40 : decode cX2_deleteRow 40 = .ok (.iadd, 1) := by decide +kernel
theorem dX2_deleteRow_41 : decode cX2_deleteRow 41 = .ok (.laload, 1) := by decide +kernel
theorem dX2_deleteRow_42 : decode cX2_deleteRow 42 = .ok (.lastore, 1) := by decide +kernel
theorem dX2_deleteRow_43 : decode cX2_deleteRow 43 = .ok (.iinc 2 1, 3) := by decide +kernel
theorem dX2_deleteRow_46 : decode cX2_deleteRow 46 = .ok (.goto (-25), 3) := by decide +kernel
theorem dX2_deleteRow_49 : decode cX2_deleteRow 49 = .ok (.return_, 1) := by decide +kernel
theorem dX3_init_0 : decode cX3_init 0 = .ok (.aload_n 0, 1) := by decide +kernel
theorem dX3_init_1 : decode cX3_init 1 = .ok (.invokespecial 3, 3) := by decide +kernel
theorem dX3_init_4 : decode cX3_init 4 = .ok (.aload_n 0, 1) := by decide +kernel
theorem dX3_init_5 : decode cX3_init 5 = .ok (.iconst 0, 1) := by decide +kernel
theorem dX3_init_6 : decode cX3_init 6 = .ok (.putfield 9, 3) := by decide +kernel
theorem dX3_init_9 : decode cX3_init 9 = .ok (.aload_n 0, 1) := by decide +kernel
theorem dX3_init_10 : decode cX3_init 10 = .ok (.iconst (-1), 1) := by decide +kernel
theorem dX3_init_11 : decode cX3_init 11 = .ok (.putfield 15, 3) := by decide +kernel
theorem dX3_init_14 : decode cX3_init 14 = .ok (.aload_n 0, 1) := by decide +kernel
theorem dX3_init_15 : decode cX3_init 15 = .ok (.new 18, 3) := by decide +kernel
theorem dX3_init_18 : decode cX3_init 18 = .ok (.dup, 1) := by decide +kernel
theorem dX3_init_19 : decode cX3_init 19 = .ok (.invokespecial 20, 3) := by decide +kernel
theorem dX3_init_22 : decode cX3_init 22 = .ok (.putfield 21, 3) := by decide +kernel
theorem dX3_init_25 : decode cX3_init 25 = .ok (.aload_n 0, 1) := by decide +kernel
theorem dX3_init_26 : decode cX3_init 26 = .ok (.new 25, 3) := by decide +kernel
theorem dX3_init_29 : decode cX3_init 29 = .ok (.dup, 1) := by decide +kernel
theorem dX3_init_30 : decode cX3_init 30 = .ok (.invokespecial 27, 3) := by decide +kernel
theorem dX3_init_33 : decode cX3_init 33 = .ok (.putfield 28, 3) := by decide +kernel
theorem dX3_init_36 : decode cX3_init 36 = .ok (.aload_n 0, 1) := by decide +kernel
theorem dX3_init_37 : decode cX3_init 37 = .ok (.new 32, 3) := by decide +kernel
theorem dX3_init_40 : decode cX3_init 40 = .ok (.dup, 1) := by decide +kernel
theorem dX3_init_41 : decode cX3_init 41 = .ok (.invokespecial 34, 3) := by decide +kernel
theorem dX3_init_44 : decode cX3_init 44 = .ok (.putfield 35, 3) := by decide +kernel
theorem dX3_init_47 : decode cX3_init 47 = .ok (.return_, 1) := by decide +kernel
theorem dX3_readText_0 : decode cX3_readText 0 = .ok (.aload_n 0, 1) := by decide +kernel
theorem dX3_readText_1 : decode cX3_readText 1 = .ok (.iconst 0, 1) := by decide +kernel
theorem dX3_readText_2 : decode cX3_readText 2 = .ok (.putfield 9, 3) := by decide +kernel
theorem dX3_readText_5 : decode cX3_readText 5 = .ok (.aload_n 0, 1) := by decide +kernel
theorem dX3_readText_6 : decode cX3_readText 6 = .ok (.iconst (-1), 1) := by decide +kernel
theorem dX3_readText_7 : decode cX3_readText 7 = .ok (.putfield 15, 3) := by decide +kernel
theorem dX3_readText_10 : decode cX3_readText 10 = .ok (.aload_n 0, 1) := by decide +kernel
theorem dX3_readText_11 : decode cX3_readText 11 = .ok (.getfield 28, 3) := by decide +kernel
theorem dX3_readText_14 : decode cX3_readText 14 = .ok (.invokevirtual 39, 3) := by decide +kernel
theorem dX3_readText_17 : decode cX3_readText 17 = .ok (.aload_n 0, 1) := by decide +kernel
theorem dX3_readText_18 : decode cX3_readText 18 = .ok (.getfield 21, 3) := by decide +kernel
theorem dX3_readText_21 : decode cX3_readText 21 = .ok (.invokevirtual 42, 3) := by decide +kernel
theorem dX3_readText_24 : decode cX3_readText 24 = .ok (.aload_n 0, 1) := by decide +kernel
theorem dX3_readText_25 : decode cX3_readText 25 = .ok (.getfield 21, 3) := by decide +kernel
theorem dX3_readText_28 : decode cX3_readText 28 = .ok (.ldc 45, 2) := by decide +kernel
theorem dX3_readText_30 : decode cX3_readText 30 = .ok (.invokevirtual 47, 3) := by decide +kernel
theorem dX3_readText_33 : decode cX3_readText 33 = .ok (.ifCond .eq 10, 3) := by decide +kernel
theorem dX3_readText_36 : decode cX3_readText 36 = .ok (.aload_n 0, 1) := by decide +kernel
theorem dX3_readText_37 : decode cX3_readText 37 = .ok (.invokevirtual 51, 3) := by decide +kernel
theorem dX3_readText_40 : decode cX3_readText 40 = .ok (.ifCond .eq 7, 3) := by decide +kernel
theorem dX3_readText_43 : decode cX3_readText 43 = .ok (.iconst 1, 1) := by decide +kernel
theorem dX3_readText_44 : decode cX3_readText 44 = .ok (.goto 4, 3) := by decide +kernel
theorem dX3_readText_47 : decode cX3_readText 47 = .ok (.iconst 0, 1) := by decide +kernel
theorem dX3_readText_48 : decode cX3_readText 48 = .ok (.istore_n 1, 1) := by decide +kernel
theorem dX3_readText_49 : decode cX3_readText 49 = .ok (.aload_n 0, 1) := by decide +kernel
theorem dX3_readText_50 : decode cX3_readText 50 = .ok (.getfield 21, 3) := by decide +kernel
theorem dX3_readText_53 : decode cX3_readText 53 = .ok (.getfield 55, 3) := by decide +kernel
theorem dX3_readText_56 : decode cX3_readText 56 = .ok (.istore_n 2, 1) := by decide +kernel
theorem dX3_readText_57 : decode cX3_readText 57 = .ok (.iload_n 2, 1) := by decide +kernel
theorem dX3_readText_58 : decode cX3_readText 58 = .ok (.ifCond .le 28, 3) := by decide +kernel
theorem dX3_readText_61 : decode cX3_readText 61 = .ok (.iload_n 1, 1) := by decide +kernel
theorem dX3_readText_62 : decode cX3_readText 62 = .ok (.ifCond .eq 24, 3) := by decide +kernel
theorem dX3_readText_65 : decode cX3_readText 65 = .ok (.aload_n 0, 1) := by decide +kernel
theorem dX3_readText_66 : decode cX3_readText 66 = .ok (.getfield 21, 3) := by decide +kernel
theorem dX3_readText_69 : decode cX3_readText 69 = .ok (.getfield 58, 3) := by decide +kernel
theorem dX3_readText_72 : decode cX3_readText 72 = .ok (.ifCond .eq 14, 3) := by decide +kernel
theorem dX3_readText_75 : decode cX3_readText 75 = .ok (.aload_n 0, 1) := by decide +kernel
theorem dX3_readText_76 : decode cX3_readText 76 = .ok (.invokevirtual 61, 3) := by decide +kernel
theorem dX3_readText_79 : decode cX3_readText 79 = .ok (.istore_n 1, 1) := by decide +kernel
theorem dX3_readText_80 : decode cX3_readText 80 = .ok (.iinc 2 (-1), 3) := by decide +kernel
theorem dX3_readText_83 : decode cX3_readText 83 = .ok (.goto (-26), 3) := by decide +kernel
theorem dX3_readText_86 : decode cX3_readText 86 = .ok (.iload_n 1, 1) := by decide +kernel
theorem dX3_readText_87 : decode cX3_readText 87 = .ok (.ireturn, 1) := by decide +kernel
theorem dX3_failHere_0 : decode cX3_failHere 0 = .ok (.aload_n 0, 1) := by decide +kernel
theorem dX3_failHere_1 : decode cX3_failHere 1 = .ok (.iload_n 1, 1) := by decide +kernel
theorem dX3_failHere_2 : decode cX3_failHere 2 = .ok (.putfield 9, 3) := by decide +kernel
theorem dX3_failHere_5 : decode cX3_failHere 5 = .ok (.aload_n 0, 1) := by decide +kernel
theorem dX3_failHere_6 : decode cX3_failHere 6 = .ok (.aload_n 0, 1) := by decide +kernel
theorem dX3_failHere_7 : decode cX3_failHere 7 = .ok (.getfield 21, 3) := by decide +kernel
theorem dX3_failHere_10 : decode cX3_failHere 10 = .ok (.getfield 64, 3) := by decide +kernel
theorem dX3_failHere_13 : decode cX3_failHere 13 = .ok (.putfield 15, 3) := by decide +kernel
theorem dX3_failHere_16 : decode cX3_failHere 16 = .ok (.iconst 0, 1) := by decide +kernel
theorem dX3_failHere_17 : decode cX3_failHere 17 = .ok (.ireturn, 1) := by decide +kernel
theorem dX3_needRead_0 : decode cX3_needRead 0 = .ok (.iload_n 1, 1) := by decide +kernel
theorem dX3_needRead_1 : decode cX3_needRead 1 = .ok (.ifCond .ne 13, 3) := by decide +kernel
theorem dX3_needRead_4 : decode cX3_needRead 4 = .ok (.aload_n 0, 1) := by decide +kernel
theorem dX3_needRead_5 : decode cX3_needRead 5 = .ok (.iconst 4, 1) := by decide +kernel
theorem dX3_needRead_6 : decode cX3_needRead 6 = .ok (.putfield 9, 3) := by decide +kernel
theorem dX3_needRead_9 : decode cX3_needRead 9 = .ok (.aload_n 0, 1) := by decide +kernel
theorem dX3_needRead_10 : decode cX3_needRead 10 = .ok (.iload_n 2, 1) := by decide +kernel
theorem dX3_needRead_11 : decode cX3_needRead 11 = .ok (.putfield 15, 3) := by decide +kernel
theorem dX3_needRead_14 : decode cX3_needRead 14 = .ok (.iload_n 1, 1) := by decide +kernel
theorem dX3_needRead_15 : decode cX3_needRead 15 = .ok (.ireturn, 1) := by decide +kernel
theorem dX3_needNumber_0 : decode cX3_needNumber 0 = .ok (.aload_n 0, 1) := by decide +kernel
theorem dX3_needNumber_1 : decode cX3_needNumber 1 = .ok (.getfield 21, 3) := by decide +kernel
theorem dX3_needNumber_4 : decode cX3_needNumber 4 = .ok (.getfield 58, 3) := by decide +kernel
theorem dX3_needNumber_7 : decode cX3_needNumber 7 = .ok (.iconst 2, 1) := by decide +kernel
theorem dX3_needNumber_8 : decode cX3_needNumber 8 = .ok (.if_icmp .eq 9, 3) := by decide +kernel
theorem dX3_needNumber_11 : decode cX3_needNumber 11 = .ok (.aload_n 0, 1) := by decide +kernel
theorem dX3_needNumber_12 : decode cX3_needNumber 12 = .ok (.iconst 1, 1) := by decide +kernel
theorem dX3_needNumber_13 : decode cX3_needNumber 13 = .ok (.invokevirtual 67, 3) := by decide +kernel
theorem dX3_needNumber_16 : decode cX3_needNumber 16 = .ok (.ireturn, 1) := by decide +kernel
theorem dX3_needNumber_17 : decode cX3_needNumber 17 = .ok (.aload_n 0, 1) := by decide +kernel
theorem dX3_needNumber_18 : decode cX3_needNumber 18 = .ok (.getfield 21, 3) := by decide +kernel
theorem dX3_needNumber_21 : decode cX3_needNumber 21 = .ok (.invokevirtual 71, 3) := by decide +kernel
theorem dX3_needNumber_24 : decode cX3_needNumber 24 = .ok (.istore_n 3, 1) := by decide +kernel
theorem dX3_needNumber_25 : decode cX3_needNumber 25 = .ok (.iload_n 3, 1) := by decide +kernel
theorem dX3_needNumber_26 : decode cX3_needNumber 26 = .ok (.iload_n 1, 1) := by decide +kernel
theorem dX3_needNumber_27 : decode cX3_needNumber 27 = .ok (.if_icmp .lt 8, 3) := by decide +kernel
theorem dX3_needNumber_30 : decode cX3_needNumber 30 = .ok (.iload_n 3, 1) := by decide +kernel
theorem dX3_needNumber_31 : decode cX3_needNumber 31 = .ok (.iload_n 2, 1) := by decide +kernel
theorem dX3_needNumber_32 : decode cX3_needNumber 32 = .ok (.if_icmp .le 11, 3) := by decide +kernel
theorem dX3_needNumber_35 : decode cX3_needNumber 35 = .ok (.aload_n 0, 1) := by decide +kernel
theorem dX3_needNumber_36 : decode cX3_needNumber 36 = .ok (.iconst 2, 1) := by decide +kernel
theorem dX3_needNumber_37 : decode cX3_needNumber 37 = .ok (.invokevirtual 67, 3) := by decide +kernel
theorem dX3_needNumber_40 : decode cX3_needNumber 40 = .ok (.ifCond .eq 7, 3) := by decide +kernel
theorem dX3_needNumber_43 : decode cX3_needNumber 43 = .ok (.iconst 1, 1) := by decide +kernel
theorem dX3_needNumber_44 : decode cX3_needNumber 44 = .ok (.goto 4, 3) := by decide +kernel
theorem dX3_needNumber_47 : decode cX3_needNumber 47 = .ok (.iconst 0, 1) := by decide +kernel
theorem dX3_needNumber_48 : decode cX3_needNumber 48 = .ok (.ireturn, 1) := by decide +kernel
theorem dX3_readSemicolon_0 : decode cX3_readSemicolon 0 = .ok (.aload_n 0, 1) := by decide +kernel
theorem dX3_readSemicolon_1 : decode cX3_readSemicolon 1 = .ok (.getfield 21, 3) := by decide +kernel
theorem dX3_readSemicolon_4 : decode cX3_readSemicolon 4 = .ok (.getfield 58, 3) := by decide +kernel
theorem dX3_readSemicolon_7 : decode cX3_readSemicolon 7 = .ok (.iconst 5, 1) := by decide +kernel
theorem dX3_readSemicolon_8 : decode cX3_readSemicolon 8 = .ok (.if_icmp .eq 9, 3) := by decide +kernel
theorem dX3_readSemicolon_11 : decode cX3_readSemicolon 11 = .ok (.aload_n 0, 1) := by decide +kernel
theorem dX3_readSemicolon_12 : decode cX3_readSemicolon 12 = .ok (.iconst 1, 1) := by decide +kernel
theorem dX3_readSemicolon_13 : decode cX3_readSemicolon 13 = .ok (.invokevirtual 67, 3) := by decide +kernel
theorem dX3_readSemicolon_16 : decode cX3_readSemicolon 16 = .ok (.ireturn, 1) := by decide +kernel
theorem dX3_readSemicolon_17 : decode cX3_readSemicolon 17 = .ok (.aload_n 0, 1) := by decide +kernel
theorem dX3_readSemicolon_18 : decode cX3_readSemicolon 18 = .ok (.getfield 21, 3) := by decide +kernel
theorem dX3_readSemicolon_21 : decode cX3_readSemicolon 21 = .ok (.invokevirtual 75, 3) := by decide +kernel
theorem dX3_readSemicolon_24 : decode cX3_readSemicolon 24 = .ok (.iconst 1, 1) := by decide +kernel
theorem dX3_readSemicolon_25 : decode cX3_readSemicolon 25 = .ok (.ireturn, 1) := by decide +kernel
theorem dX3_readWide_0 : decode cX3_readWide 0 = .ok (.aload_n 0, 1) := by decide +kernel
theorem dX3_readWide_1 : decode cX3_readWide 1 = .ok (.getfield 21, 3) := by decide +kernel
theorem dX3_readWide_4 : decode cX3_readWide 4 = .ok (.invokevirtual 75, 3) := by decide +kernel
theorem dX3_readWide_7 : decode cX3_readWide 7 = .ok (.aload_n 0, 1) := by decide +kernel
theorem dX3_readWide_8 : decode cX3_readWide 8 = .ok (.bipush 8, 2) := by decide +kernel
theorem dX3_readWide_10 : decode cX3_readWide 10 = .ok (.bipush 40, 2) := by decide +kernel
theorem dX3_readWide_12 : decode cX3_readWide 12 = .ok (.invokevirtual 78, 3) := by decide +kernel
theorem dX3_readWide_15 : decode cX3_readWide 15 = .ok (.ifCond .ne 5, 3) := by decide +kernel
theorem dX3_readWide_18 : decode cX3_readWide 18 = .ok (.iconst 0, 1) := by decide +kernel
theorem dX3_readWide_19 : decode cX3_readWide 19 = .ok (.ireturn, 1) := by decide +kernel
theorem dX3_readWide_20 : decode cX3_readWide 20 = .ok (.aload_n 0, 1) := by decide +kernel
theorem dX3_readWide_21 : decode cX3_readWide 21 = .ok (.getfield 28, 3) := by decide +kernel
theorem dX3_readWide_24 : decode cX3_readWide 24 = .ok (.aload_n 0, 1) := by decide +kernel
theorem dX3_readWide_25 : decode cX3_readWide 25 = .ok (.getfield 21, 3) := by decide +kernel
theorem dX3_readWide_28 : decode cX3_readWide 28 = .ok (.invokevirtual 71, 3) := by decide +kernel
theorem dX3_readWide_31 : decode cX3_readWide 31 = .ok (.putfield 82, 3) := by decide +kernel
theorem dX3_readWide_34 : decode cX3_readWide 34 = .ok (.aload_n 0, 1) := by decide +kernel
theorem dX3_readWide_35 : decode cX3_readWide 35 = .ok (.getfield 21, 3) := by decide +kernel
theorem dX3_readWide_38 : decode cX3_readWide 38 = .ok (.invokevirtual 75, 3) := by decide +kernel
theorem dX3_readWide_41 : decode cX3_readWide 41 = .ok (.aload_n 0, 1) := by decide +kernel
theorem dX3_readWide_42 : decode cX3_readWide 42 = .ok (.invokevirtual 85, 3) := by decide +kernel
theorem dX3_readWide_45 : decode cX3_readWide 45 = .ok (.ireturn, 1) := by decide +kernel
theorem dX3_readStatement_0 : decode cX3_readStatement 0 = .ok (.aload_n 0, 1) := by decide +kernel
theorem dX3_readStatement_1 : decode cX3_readStatement 1 = .ok (.getfield 21, 3) := by decide +kernel
theorem dX3_readStatement_4 : decode cX3_readStatement 4 = .ok (.ldc 88, 2) := by decide +kernel
theorem dX3_readStatement_6 : decode cX3_readStatement 6 = .ok (.invokevirtual 47, 3) := by decide +kernel
theorem dX3_readStatement_9 : decode cX3_readStatement 9 = .ok (.ifCond .eq 8, 3) := by decide +kernel
theorem dX3_readStatement_12 : decode cX3_readStatement 12 = .ok (.aload_n 0, 1) := by decide +kernel
theorem dX3_readStatement_13 : decode cX3_readStatement 13 = .ok (.invokevirtual 90, 3) := by decide +kernel
theorem dX3_readStatement_16 : decode cX3_readStatement 16 = .ok (.ireturn, 1) := by decide +kernel
theorem dX3_readStatement_17 : decode cX3_readStatement 17 = .ok (.aload_n 0, 1) := by decide +kernel
theorem dX3_readStatement_18 : decode cX3_readStatement 18 = .ok (.getfield 21, 3) := by decide +kernel
theorem dX3_readStatement_21 : decode cX3_readStatement 21 = .ok (.ldc 93, 2) := by decide +kernel
theorem dX3_readStatement_23 : decode cX3_readStatement 23 = .ok (.invokevirtual 47, 3) := by decide +kernel
theorem dX3_readStatement_26 : decode cX3_readStatement 26 = .ok (.ifCond .eq 8, 3) := by decide +kernel
theorem dX3_readStatement_29 : decode cX3_readStatement 29 = .ok (.aload_n 0, 1) := by decide +kernel
theorem dX3_readStatement_30 : decode cX3_readStatement 30 = .ok (.invokevirtual 95, 3) := by decide +kernel
theorem dX3_readStatement_33 : decode cX3_readStatement 33 = .ok (.ireturn, 1) := by decide +kernel
theorem dX3_readStatement_34 : decode cX3_readStatement 34 = .ok (.aload_n 0, 1) := by decide +kernel
theorem dX3_readStatement_35 : decode cX3_readStatement 35 = .ok (.getfield 21, 3) := by decide +kernel
theorem dX3_readStatement_38 : decode cX3_readStatement 38 = .ok (.ldc 98, 2) := by decide +kernel
theorem dX3_readStatement_40 : decode cX3_readStatement 40 = .ok (.invokevirtual 47, 3) := by decide +kernel
theorem dX3_readStatement_43 : decode cX3_readStatement 43 = .ok (.istore_n 1, 1) := by decide +kernel
theorem dX3_readStatement_44 : decode cX3_readStatement 44 = .ok (.aload_n 0, 1) := by decide +kernel
theorem dX3_readStatement_45 : decode cX3_readStatement 45 = .ok (.getfield 21, 3) := by decide +kernel
theorem dX3_readStatement_48 : decode cX3_readStatement 48 = .ok (.ldc 100, 2) := by decide +kernel
theorem dX3_readStatement_50 : decode cX3_readStatement 50 = .ok (.invokevirtual 47, 3) := by decide +kernel
theorem dX3_readStatement_53 : decode cX3_readStatement 53 = .ok (.istore_n 2, 1) := by decide +kernel
theorem dX3_readStatement_54 : decode cX3_readStatement 54 = .ok (.iload_n 1, 1) := by decide +kernel
theorem dX3_readStatement_55 : decode cX3_readStatement 55 = .ok (.ifCond .ne 25, 3) := by decide +kernel
theorem dX3_readStatement_58 : decode cX3_readStatement 58 = .ok (.iload_n 2, 1) := by decide +kernel
theorem dX3_readStatement_59 : decode cX3_readStatement 59 = .ok (.ifCond .ne 21, 3) := by decide +kernel
theorem dX3_readStatement_62 : decode cX3_readStatement 62 = .ok (.aload_n 0, 1) := by decide +kernel
theorem dX3_readStatement_63 : decode cX3_readStatement 63 = .ok (.getfield 21, 3) := by decide +kernel
theorem dX3_readStatement_66 : decode cX3_readStatement 66 = .ok (.ldc 102, 2) := by decide +kernel
theorem dX3_readStatement_68 : decode cX3_readStatement 68 = .ok (.invokevirtual 47, 3) := by decide +kernel
theorem dX3_readStatement_71 : decode cX3_readStatement 71 = .ok (.ifCond .ne 9, 3) := by decide +kernel
theorem dX3_readStatement_74 : decode cX3_readStatement 74 = .ok (.aload_n 0, 1) := by decide +kernel
theorem dX3_readStatement_75 : decode cX3_readStatement 75 = .ok (.iconst 1, 1) := by decide +kernel
theorem dX3_readStatement_76 : decode cX3_readStatement 76 = .ok (.invokevirtual 67, 3) := by decide +kernel
theorem dX3_readStatement_79 : decode cX3_readStatement 79 = .ok (.ireturn, 1) := by decide +kernel
theorem dX3_readStatement_80 : decode cX3_readStatement 80 = .ok (.aload_n 0, 1) := by decide +kernel
theorem dX3_readStatement_81 : decode cX3_readStatement 81 = .ok (.getfield 28, 3) := by decide +kernel
theorem dX3_readStatement_84 : decode cX3_readStatement 84 = .ok (.getfield 104, 3) := by decide +kernel
theorem dX3_readStatement_87 : decode cX3_readStatement 87 = .ok (.bipush 20, 2) := by decide +kernel
theorem dX3_readStatement_89 : decode cX3_readStatement 89 = .ok (.if_icmp .lt 9, 3) := by decide +kernel
theorem dX3_readStatement_92 : decode cX3_readStatement 92 = .ok (.aload_n 0, 1) := by decide +kernel
theorem dX3_readStatement_93 : decode cX3_readStatement 93 = .ok (.iconst 5, 1) := by decide +kernel
theorem dX3_readStatement_94 : decode cX3_readStatement 94 = .ok (.invokevirtual 67, 3) := by decide +kernel
theorem dX3_readStatement_97 : decode cX3_readStatement 97 = .ok (.ireturn, 1) := by decide +kernel
theorem dX3_readStatement_98 : decode cX3_readStatement 98 = .ok (.aload_n 0, 1) := by decide +kernel
theorem dX3_readStatement_99 : decode cX3_readStatement 99 = .ok (.getfield 21, 3) := by decide +kernel
theorem dX3_readStatement_102 : decode cX3_readStatement 102 = .ok (.invokevirtual 75, 3) := by decide +kernel
theorem dX3_readStatement_105 : decode cX3_readStatement 105 = .ok (.iload_n 1, 1) := by decide +kernel
theorem dX3_readStatement_106 : decode cX3_readStatement 106 = .ok (.ifCond .eq 10, 3) := by decide +kernel
theorem dX3_readStatement_109 : decode cX3_readStatement 109 = .ok (.aload_n 0, 1) := by decide +kernel
theorem dX3_readStatement_110 : decode cX3_readStatement 110 = .ok (.invokevirtual 107, 3) := by decide +kernel
theorem dX3_readStatement_113 : decode cX3_readStatement 113 = .ok (.goto 18, 3) := by decide +kernel
theorem dX3_readStatement_116 : decode cX3_readStatement 116 = .ok (.iload_n 2, 1) := by decide +kernel
theorem dX3_readStatement_117 : decode cX3_readStatement 117 = .ok (.ifCond .eq 10, 3) := by decide +kernel
theorem dX3_readStatement_120 : decode cX3_readStatement 120 = .ok (.aload_n 0, 1) := by decide +kernel
theorem dX3_readStatement_121 : decode cX3_readStatement 121 = .ok (.invokevirtual 110, 3) := by decide +kernel
theorem dX3_readStatement_124 : decode cX3_readStatement 124 = .ok (.goto 7, 3) := by decide +kernel
theorem dX3_readStatement_127 : decode cX3_readStatement 127 = .ok (.aload_n 0, 1) := by decide +kernel
theorem dX3_readStatement_128 : decode cX3_readStatement 128 = .ok (.invokevirtual 113, 3) := by decide +kernel
theorem dX3_readStatement_131 : decode cX3_readStatement 131 = .ok (.ireturn, 1) := by decide +kernel
theorem dX3_readSet_0 : decode cX3_readSet 0 = .ok (.aload_n 0, 1) := by decide +kernel
theorem dX3_readSet_1 : decode cX3_readSet 1 = .ok (.getfield 21, 3) := by decide +kernel
theorem dX3_readSet_4 : decode cX3_readSet 4 = .ok (.invokevirtual 75, 3) := by decide +kernel
theorem dX3_readSet_7 : decode cX3_readSet 7 = .ok (.aload_n 0, 1) := by decide +kernel
theorem dX3_readSet_8 : decode cX3_readSet 8 = .ok (.iconst 0, 1) := by decide +kernel
theorem dX3_readSet_9 : decode cX3_readSet 9 = .ok (.iconst 5, 1) := by decide +kernel
theorem dX3_readSet_10 : decode cX3_readSet 10 = .ok (.invokevirtual 78, 3) := by decide +kernel
theorem dX3_readSet_13 : decode cX3_readSet 13 = .ok (.ifCond .ne 5, 3) := by decide +kernel
theorem dX3_readSet_16 : decode cX3_readSet 16 = .ok (.iconst 0, 1) := by decide +kernel
theorem dX3_readSet_17 : decode cX3_readSet 17 = .ok (.ireturn, 1) := by decide +kernel
theorem dX3_readSet_18 : decode cX3_readSet 18 = .ok (.aload_n 0, 1) := by decide +kernel
theorem dX3_readSet_19 : decode cX3_readSet 19 = .ok (.getfield 21, 3) := by decide +kernel
theorem dX3_readSet_22 : decode cX3_readSet 22 = .ok (.invokevirtual 71, 3) := by decide +kernel
theorem dX3_readSet_25 : decode cX3_readSet 25 = .ok (.istore_n 1, 1) := by decide +kernel
theorem dX3_readSet_26 : decode cX3_readSet 26 = .ok (.aload_n 0, 1) := by decide +kernel
theorem dX3_readSet_27 : decode cX3_readSet 27 = .ok (.getfield 21, 3) := by decide +kernel
theorem dX3_readSet_30 : decode cX3_readSet 30 = .ok (.invokevirtual 75, 3) := by decide +kernel
theorem dX3_readSet_33 : decode cX3_readSet 33 = .ok (.iload_n 1, 1) := by decide +kernel
theorem dX3_readSet_34 : decode cX3_readSet 34 = .ok (.ifCond .lt 26, 3) := by decide +kernel
theorem dX3_readSet_37 : decode cX3_readSet 37 = .ok (.iload_n 1, 1) := by decide +kernel
theorem dX3_readSet_38 : decode cX3_readSet 38 = .ok (.bipush 6, 2) := by decide +kernel
theorem dX3_readSet_40 : decode cX3_readSet 40 = .ok (.if_icmp .ge 20, 3) := by decide +kernel
theorem dX3_readSet_43 : decode cX3_readSet 43 = .ok (.aload_n 0, 1) := by decide +kernel
theorem dX3_readSet_44 : decode cX3_readSet 44 = .ok (.getstatic 116, 3) := by decide +kernel
theorem dX3_readSet_47 : decode cX3_readSet 47 = .ok (.iload_n 1, 1) := by decide +kernel
theorem dX3_readSet_48 : decode cX3_readSet 48 = .ok (.iaload, 1) := by decide +kernel
theorem dX3_readSet_49 : decode cX3_readSet 49 = .ok (.getstatic 120, 3) := by decide +kernel
theorem dX3_readSet_52 : decode cX3_readSet 52 = .ok (.iload_n 1, 1) := by decide +kernel
theorem dX3_readSet_53 : decode cX3_readSet 53 = .ok (.iaload, 1) := by decide +kernel
theorem dX3_readSet_54 : decode cX3_readSet 54 = .ok (.invokevirtual 78, 3) := by decide +kernel
theorem dX3_readSet_57 : decode cX3_readSet 57 = .ok (.ifCond .ne 5, 3) := by decide +kernel
theorem dX3_readSet_60 : decode cX3_readSet 60 = .ok (.iconst 0, 1) := by decide +kernel
theorem dX3_readSet_61 : decode cX3_readSet 61 = .ok (.ireturn, 1) := by decide +kernel
theorem dX3_readSet_62 : decode cX3_readSet 62 = .ok (.aload_n 0, 1) := by decide +kernel
theorem dX3_readSet_63 : decode cX3_readSet 63 = .ok (.getfield 28, 3) := by decide +kernel
theorem dX3_readSet_66 : decode cX3_readSet 66 = .ok (.getfield 123, 3) := by decide +kernel
theorem dX3_readSet_69 : decode cX3_readSet 69 = .ok (.iload_n 1, 1) := by decide +kernel
theorem dX3_readSet_70 : decode cX3_readSet 70 = .ok (.aload_n 0, 1) := by decide +kernel
theorem dX3_readSet_71 : decode cX3_readSet 71 = .ok (.getfield 21, 3) := by decide +kernel
theorem dX3_readSet_74 : decode cX3_readSet 74 = .ok (.invokevirtual 71, 3) := by decide +kernel
theorem dX3_readSet_77 : decode cX3_readSet 77 = .ok (.iastore, 1) := by decide +kernel
theorem dX3_readSet_78 : decode cX3_readSet 78 = .ok (.aload_n 0, 1) := by decide +kernel
theorem dX3_readSet_79 : decode cX3_readSet 79 = .ok (.getfield 21, 3) := by decide +kernel
theorem dX3_readSet_82 : decode cX3_readSet 82 = .ok (.invokevirtual 75, 3) := by decide +kernel
theorem dX3_readSet_85 : decode cX3_readSet 85 = .ok (.aload_n 0, 1) := by decide +kernel
theorem dX3_readSet_86 : decode cX3_readSet 86 = .ok (.invokevirtual 85, 3) := by decide +kernel
theorem dX3_readSet_89 : decode cX3_readSet 89 = .ok (.ireturn, 1) := by decide +kernel
theorem dX3_readLoss_0 : decode cX3_readLoss 0 = .ok (.aload_n 0, 1) := by decide +kernel
theorem dX3_readLoss_1 : decode cX3_readLoss 1 = .ok (.getfield 21, 3) := by decide +kernel
theorem dX3_readLoss_4 : decode cX3_readLoss 4 = .ok (.invokevirtual 75, 3) := by decide +kernel
theorem dX3_readLoss_7 : decode cX3_readLoss 7 = .ok (.aload_n 0, 1) := by decide +kernel
theorem dX3_readLoss_8 : decode cX3_readLoss 8 = .ok (.iconst 0, 1) := by decide +kernel
theorem dX3_readLoss_9 : decode cX3_readLoss 9 = .ok (.bipush 19, 2) := by decide +kernel
theorem dX3_readLoss_11 : decode cX3_readLoss 11 = .ok (.invokevirtual 78, 3) := by decide +kernel
theorem dX3_readLoss_14 : decode cX3_readLoss 14 = .ok (.ifCond .ne 5, 3) := by decide +kernel
theorem dX3_readLoss_17 : decode cX3_readLoss 17 = .ok (.iconst 0, 1) := by decide +kernel
theorem dX3_readLoss_18 : decode cX3_readLoss 18 = .ok (.ireturn, 1) := by decide +kernel
theorem dX3_readLoss_19 : decode cX3_readLoss 19 = .ok (.aload_n 0, 1) := by decide +kernel
theorem dX3_readLoss_20 : decode cX3_readLoss 20 = .ok (.getfield 21, 3) := by decide +kernel
theorem dX3_readLoss_23 : decode cX3_readLoss 23 = .ok (.invokevirtual 71, 3) := by decide +kernel
theorem dX3_readLoss_26 : decode cX3_readLoss 26 = .ok (.istore_n 1, 1) := by decide +kernel
theorem dX3_readLoss_27 : decode cX3_readLoss 27 = .ok (.aload_n 0, 1) := by decide +kernel
theorem dX3_readLoss_28 : decode cX3_readLoss 28 = .ok (.getfield 21, 3) := by decide +kernel
theorem dX3_readLoss_31 : decode cX3_readLoss 31 = .ok (.invokevirtual 75, 3) := by decide +kernel
theorem dX3_readLoss_34 : decode cX3_readLoss 34 = .ok (.iload_n 1, 1) := by decide +kernel
theorem dX3_readLoss_35 : decode cX3_readLoss 35 = .ok (.ifCond .lt 18, 3) := by decide +kernel
theorem dX3_readLoss_38 : decode cX3_readLoss 38 = .ok (.iload_n 1, 1) := by decide +kernel
theorem dX3_readLoss_39 : decode cX3_readLoss 39 = .ok (.bipush 20, 2) := by decide +kernel
theorem dX3_readLoss_41 : decode cX3_readLoss 41 = .ok (.if_icmp .ge 12, 3) := by decide +kernel
theorem dX3_readLoss_44 : decode cX3_readLoss 44 = .ok (.aload_n 0, 1) := by decide +kernel
theorem dX3_readLoss_45 : decode cX3_readLoss 45 = .ok (.iconst 0, 1) := by decide +kernel
theorem dX3_readLoss_46 : decode cX3_readLoss 46 = .ok (.iconst 5, 1) := by decide +kernel
theorem dX3_readLoss_47 : decode cX3_readLoss 47 = .ok (.invokevirtual 78, 3) := by decide +kernel
theorem dX3_readLoss_50 : decode cX3_readLoss 50 = .ok (.ifCond .ne 5, 3) := by decide +kernel
theorem dX3_readLoss_53 : decode cX3_readLoss 53 = .ok (.iconst 0, 1) := by decide +kernel
theorem dX3_readLoss_54 : decode cX3_readLoss 54 = .ok (.ireturn, 1) := by decide +kernel
theorem dX3_readLoss_55 : decode cX3_readLoss 55 = .ok (.aload_n 0, 1) := by decide +kernel
theorem dX3_readLoss_56 : decode cX3_readLoss 56 = .ok (.getfield 28, 3) := by decide +kernel
theorem dX3_readLoss_59 : decode cX3_readLoss 59 = .ok (.getfield 126, 3) := by decide +kernel
theorem dX3_readLoss_62 : decode cX3_readLoss 62 = .ok (.iload_n 1, 1) := by decide +kernel
theorem dX3_readLoss_63 : decode cX3_readLoss 63 = .ok (.aload_n 0, 1) := by decide +kernel
theorem dX3_readLoss_64 : decode cX3_readLoss 64 = .ok (.getfield 21, 3) := by decide +kernel
theorem dX3_readLoss_67 : decode cX3_readLoss 67 = .ok (.invokevirtual 71, 3) := by decide +kernel
theorem dX3_readLoss_70 : decode cX3_readLoss 70 = .ok (.iastore, 1) := by decide +kernel
theorem dX3_readLoss_71 : decode cX3_readLoss 71 = .ok (.aload_n 0, 1) := by decide +kernel
theorem dX3_readLoss_72 : decode cX3_readLoss 72 = .ok (.getfield 21, 3) := by decide +kernel
theorem dX3_readLoss_75 : decode cX3_readLoss 75 = .ok (.invokevirtual 75, 3) := by decide +kernel
theorem dX3_readLoss_78 : decode cX3_readLoss 78 = .ok (.aload_n 0, 1) := by decide +kernel
theorem dX3_readLoss_79 : decode cX3_readLoss 79 = .ok (.invokevirtual 85, 3) := by decide +kernel
theorem dX3_readLoss_82 : decode cX3_readLoss 82 = .ok (.ireturn, 1) := by decide +kernel
theorem dX3_readRow_0 : decode cX3_readRow 0 = .ok (.aload_n 0, 1) := by decide +kernel
theorem dX3_readRow_1 : decode cX3_readRow 1 = .ok (.getfield 21, 3) := by decide +kernel
theorem dX3_readRow_4 : decode cX3_readRow 4 = .ok (.getfield 58, 3) := by decide +kernel
theorem dX3_readRow_7 : decode cX3_readRow 7 = .ok (.iconst 3, 1) := by decide +kernel
theorem dX3_readRow_8 : decode cX3_readRow 8 = .ok (.if_icmp .eq 9, 3) := by decide +kernel
theorem dX3_readRow_11 : decode cX3_readRow 11 = .ok (.aload_n 0, 1) := by decide +kernel
theorem dX3_readRow_12 : decode cX3_readRow 12 = .ok (.iconst 1, 1) := by decide +kernel
theorem dX3_readRow_13 : decode cX3_readRow 13 = .ok (.invokevirtual 67, 3) := by decide +kernel
theorem dX3_readRow_16 : decode cX3_readRow 16 = .ok (.ireturn, 1) := by decide +kernel
theorem dX3_readRow_17 : decode cX3_readRow 17 = .ok (.aload_n 0, 1) := by decide +kernel
theorem dX3_readRow_18 : decode cX3_readRow 18 = .ok (.getfield 21, 3) := by decide +kernel
theorem dX3_readRow_21 : decode cX3_readRow 21 = .ok (.invokevirtual 129, 3) := by decide +kernel
theorem dX3_readRow_24 : decode cX3_readRow 24 = .ok (.aload_n 0, 1) := by decide +kernel
theorem dX3_readRow_25 : decode cX3_readRow 25 = .ok (.getfield 28, 3) := by decide +kernel
theorem dX3_readRow_28 : decode cX3_readRow 28 = .ok (.getfield 82, 3) := by decide +kernel
theorem dX3_readRow_31 : decode cX3_readRow 31 = .ok (.if_icmp .eq 9, 3) := by decide +kernel
theorem dX3_readRow_34 : decode cX3_readRow 34 = .ok (.aload_n 0, 1) := by decide +kernel
theorem dX3_readRow_35 : decode cX3_readRow 35 = .ok (.iconst 3, 1) := by decide +kernel
theorem dX3_readRow_36 : decode cX3_readRow 36 = .ok (.invokevirtual 67, 3) := by decide +kernel
theorem dX3_readRow_39 : decode cX3_readRow 39 = .ok (.ireturn, 1) := by decide +kernel
theorem dX3_readRow_40 : decode cX3_readRow 40 = .ok (.aload_n 0, 1) := by decide +kernel
theorem dX3_readRow_41 : decode cX3_readRow 41 = .ok (.getfield 28, 3) := by decide +kernel
theorem dX3_readRow_44 : decode cX3_readRow 44 = .ok (.aload_n 0, 1) := by decide +kernel
theorem dX3_readRow_45 : decode cX3_readRow 45 = .ok (.getfield 28, 3) := by decide +kernel
theorem dX3_readRow_48 : decode cX3_readRow 48 = .ok (.getfield 104, 3) := by decide +kernel
theorem dX3_readRow_51 : decode cX3_readRow 51 = .ok (.aload_n 0, 1) := by decide +kernel
theorem dX3_readRow_52 : decode cX3_readRow 52 = .ok (.getfield 21, 3) := by decide +kernel
theorem dX3_readRow_55 : decode cX3_readRow 55 = .ok (.invokevirtual 132, 3) := by decide +kernel
theorem dX3_readRow_58 : decode cX3_readRow 58 = .ok (.invokevirtual 136, 3) := by decide +kernel
theorem dX3_readRow_61 : decode cX3_readRow 61 = .ok (.aload_n 0, 1) := by decide +kernel
theorem dX3_readRow_62 : decode cX3_readRow 62 = .ok (.getfield 21, 3) := by decide +kernel
theorem dX3_readRow_65 : decode cX3_readRow 65 = .ok (.invokevirtual 75, 3) := by decide +kernel
theorem dX3_readRow_68 : decode cX3_readRow 68 = .ok (.aload_n 0, 1) := by decide +kernel
theorem dX3_readRow_69 : decode cX3_readRow 69 = .ok (.invokevirtual 85, 3) := by decide +kernel
theorem dX3_readRow_72 : decode cX3_readRow 72 = .ok (.ireturn, 1) := by decide +kernel
theorem dX3_readAlone_0 : decode cX3_readAlone 0 = .ok (.lconst 0, 1) := by decide +kernel
theorem dX3_readAlone_1 : decode cX3_readAlone 1 = .ok (.lstore_n 1, 1) := by decide +kernel
theorem dX3_readAlone_2 : decode cX3_readAlone 2 = .ok (.iconst 0, 1) := by decide +kernel
theorem dX3_readAlone_3 : decode cX3_readAlone 3 = .ok (.istore_n 3, 1) := by decide +kernel
theorem dX3_readAlone_4 : decode cX3_readAlone 4 = .ok (.iconst 0, 1) := by decide +kernel
theorem dX3_readAlone_5 : decode cX3_readAlone 5 = .ok (.istore 4, 2) := by decide +kernel
theorem dX3_readAlone_7 : decode cX3_readAlone 7 = .ok (.iconst 0, 1) := by decide +kernel
theorem dX3_readAlone_8 : decode cX3_readAlone 8 = .ok (.istore 5, 2) := by decide +kernel
theorem dX3_readAlone_10 : decode cX3_readAlone 10 = .ok (.aload_n 0, 1) := by decide +kernel
theorem dX3_readAlone_11 : decode cX3_readAlone 11 = .ok (.iconst 0, 1) := by decide +kernel
theorem dX3_readAlone_12 : decode cX3_readAlone 12 = .ok (.aload_n 0, 1) := by decide +kernel
theorem dX3_readAlone_13 : decode cX3_readAlone 13 = .ok (.getfield 28, 3) := by decide +kernel
theorem dX3_readAlone_16 : decode cX3_readAlone 16 = .ok (.getfield 82, 3) := by decide +kernel
theorem dX3_readAlone_19 : decode cX3_readAlone 19 = .ok (.invokevirtual 78, 3) := by decide +kernel
theorem dX3_readAlone_22 : decode cX3_readAlone 22 = .ok (.ifCond .ne 5, 3) := by decide +kernel
theorem dX3_readAlone_25 : decode cX3_readAlone 25 = .ok (.iconst 0, 1) := by decide +kernel
theorem dX3_readAlone_26 : decode cX3_readAlone 26 = .ok (.ireturn, 1) := by decide +kernel
theorem dX3_readAlone_27 : decode cX3_readAlone 27 = .ok (.aload_n 0, 1) := by decide +kernel
theorem dX3_readAlone_28 : decode cX3_readAlone 28 = .ok (.getfield 21, 3) := by decide +kernel
theorem dX3_readAlone_31 : decode cX3_readAlone 31 = .ok (.getfield 55, 3) := by decide +kernel
theorem dX3_readAlone_34 : decode cX3_readAlone 34 = .ok (.istore 6, 2) := by decide +kernel
theorem dX3_readAlone_36 : decode cX3_readAlone 36 = .ok (.iload 6, 2) := by decide +kernel
theorem dX3_readAlone_38 : decode cX3_readAlone 38 = .ok (.ifCond .le 110, 3) := by decide +kernel
theorem dX3_readAlone_41 : decode cX3_readAlone 41 = .ok (.aload_n 0, 1) := by decide +kernel
theorem dX3_readAlone_42 : decode cX3_readAlone 42 = .ok (.getfield 21, 3) := by decide +kernel
theorem dX3_readAlone_45 : decode cX3_readAlone 45 = .ok (.getfield 58, 3) := by decide +kernel
theorem dX3_readAlone_48 : decode cX3_readAlone 48 = .ok (.iconst 2, 1) := by decide +kernel
theorem dX3_readAlone_49 : decode cX3_readAlone 49 = .ok (.if_icmp .ne 99, 3) := by decide +kernel
theorem dX3_readAlone_52 : decode cX3_readAlone 52 = .ok (.aload_n 0, 1) := by decide +kernel
theorem dX3_readAlone_53 : decode cX3_readAlone 53 = .ok (.iload 5, 2) := by decide +kernel
theorem dX3_readAlone_55 : decode cX3_readAlone 55 = .ok (.aload_n 0, 1) := by decide +kernel
theorem dX3_readAlone_56 : decode cX3_readAlone 56 = .ok (.getfield 28, 3) := by decide +kernel
theorem dX3_readAlone_59 : decode cX3_readAlone 59 = .ok (.getfield 82, 3) := by decide +kernel
theorem dX3_readAlone_62 : decode cX3_readAlone 62 = .ok (.invokevirtual 78, 3) := by decide +kernel
theorem dX3_readAlone_65 : decode cX3_readAlone 65 = .ok (.ifCond .ne 5, 3) := by decide +kernel
theorem dX3_readAlone_68 : decode cX3_readAlone 68 = .ok (.iconst 0, 1) := by decide +kernel
theorem dX3_readAlone_69 : decode cX3_readAlone 69 = .ok (.ireturn, 1) := by decide +kernel
theorem dX3_readAlone_70 : decode cX3_readAlone 70 = .ok (.iload_n 3, 1) := by decide +kernel
theorem dX3_readAlone_71 : decode cX3_readAlone 71 = .ok (.aload_n 0, 1) := by decide +kernel
theorem dX3_readAlone_72 : decode cX3_readAlone 72 = .ok (.getfield 21, 3) := by decide +kernel
theorem dX3_readAlone_75 : decode cX3_readAlone 75 = .ok (.invokevirtual 71, 3) := by decide +kernel
theorem dX3_readAlone_78 : decode cX3_readAlone 78 = .ok (.iadd, 1) := by decide +kernel
theorem dX3_readAlone_79 : decode cX3_readAlone 79 = .ok (.istore 7, 2) := by decide +kernel
theorem dX3_readAlone_81 : decode cX3_readAlone 81 = .ok (.iload 7, 2) := by decide +kernel
theorem dX3_readAlone_83 : decode cX3_readAlone 83 = .ok (.aload_n 0, 1) := by decide +kernel
theorem dX3_readAlone_84 : decode cX3_readAlone 84 = .ok (.getfield 28, 3) := by decide +kernel
theorem dX3_readAlone_87 : decode cX3_readAlone 87 = .ok (.getfield 82, 3) := by decide +kernel
theorem dX3_readAlone_90 : decode cX3_readAlone 90 = .ok (.if_icmp .le 9, 3) := by decide +kernel
theorem dX3_readAlone_93 : decode cX3_readAlone 93 = .ok (.aload_n 0, 1) := by decide +kernel
theorem dX3_readAlone_94 : decode cX3_readAlone 94 = .ok (.iconst 4, 1) := by decide +kernel
theorem dX3_readAlone_95 : decode cX3_readAlone 95 = .ok (.invokevirtual 67, 3) := by decide +kernel
theorem dX3_readAlone_98 : decode cX3_readAlone 98 = .ok (.ireturn, 1) := by decide +kernel
theorem dX3_readAlone_99 : decode cX3_readAlone 99 = .ok (.lload_n 1, 1) := by decide +kernel
theorem dX3_readAlone_100 : decode cX3_readAlone 100 = .ok (.iload 4, 2) := by decide +kernel
theorem dX3_readAlone_102 : decode cX3_readAlone 102 = .ok (.ifCond .eq 12, 3) := by decide +kernel
theorem dX3_readAlone_105 : decode cX3_readAlone 105 = .ok (.iload_n 3, 1) := by decide +kernel
theorem dX3_readAlone_106 : decode cX3_readAlone 106 = .ok (.iload 7, 2) := by decide +kernel
theorem dX3_readAlone_108 : decode cX3_readAlone 108 = .ok (.invokestatic 140, 3) := by decide +kernel
theorem dX3_readAlone_111 : decode cX3_readAlone 111 = .ok (.goto 4, 3) := by decide +kernel
theorem dX3_readAlone_114 : decode cX3_readAlone 114 = .ok (.lconst 0, 1) := by decide +kernel
theorem dX3_readAlone_115 : decode cX3_readAlone 115 = .ok (.lor, 1) := by decide +kernel
theorem dX3_readAlone_116 : decode cX3_readAlone 116 = .ok (.lstore_n 1, 1) := by decide +kernel
theorem dX3_readAlone_117 : decode cX3_readAlone 117 = .ok (.iload 7, 2) := by decide +kernel
theorem dX3_readAlone_119 : decode cX3_readAlone 119 = .ok (.istore_n 3, 1) := by decide +kernel
theorem dX3_readAlone_120 : decode cX3_readAlone 120 = .ok (.iload 4, 2) := by decide +kernel
theorem dX3_readAlone_122 : decode cX3_readAlone 122 = .ok (.ifCond .ne 7, 3) := by decide +kernel
theorem dX3_readAlone_125 : decode cX3_readAlone 125 = .ok (.iconst 1, 1) := by decide +kernel
theorem dX3_readAlone_126 : decode cX3_readAlone 126 = .ok (.goto 4, 3) := by decide +kernel
theorem dX3_readAlone_129 : decode cX3_readAlone 129 = .ok (.iconst 0, 1) := by decide +kernel
theorem dX3_readAlone_130 : decode cX3_readAlone 130 = .ok (.istore 4, 2) := by decide +kernel
theorem dX3_readAlone_132 : decode cX3_readAlone 132 = .ok (.iconst 1, 1) := by decide +kernel
theorem dX3_readAlone_133 : decode cX3_readAlone 133 = .ok (.istore 5, 2) := by decide +kernel
theorem dX3_readAlone_135 : decode cX3_readAlone 135 = .ok (.aload_n 0, 1) := by decide +kernel
theorem dX3_readAlone_136 : decode cX3_readAlone 136 = .ok (.getfield 21, 3) := by decide +kernel
theorem dX3_readAlone_139 : decode cX3_readAlone 139 = .ok (.invokevirtual 75, 3) := by decide +kernel
theorem dX3_readAlone_142 : decode cX3_readAlone 142 = .ok (.iinc 6 (-1), 3) := by decide +kernel
theorem dX3_readAlone_145 : decode cX3_readAlone 145 = .ok (.goto (-109), 3) := by decide +kernel
theorem dX3_readAlone_148 : decode cX3_readAlone 148 = .ok (.aload_n 0, 1) := by decide +kernel
theorem dX3_readAlone_149 : decode cX3_readAlone 149 = .ok (.iload_n 3, 1) := by decide +kernel
theorem dX3_readAlone_150 : decode cX3_readAlone 150 = .ok (.aload_n 0, 1) := by decide +kernel
theorem dX3_readAlone_151 : decode cX3_readAlone 151 = .ok (.getfield 28, 3) := by decide +kernel
theorem dX3_readAlone_154 : decode cX3_readAlone 154 = .ok (.getfield 82, 3) := by decide +kernel
theorem dX3_readAlone_157 : decode cX3_readAlone 157 = .ok (.if_icmp .ne 7, 3) := by decide +kernel
theorem dX3_readAlone_160 : decode cX3_readAlone 160 = .ok (.iconst 1, 1) := by decide +kernel
theorem dX3_readAlone_161 : decode cX3_readAlone 161 = .ok (.goto 4, 3) := by decide +kernel
theorem dX3_readAlone_164 : decode cX3_readAlone 164 = .ok (.iconst 0, 1) := by decide +kernel
theorem dX3_readAlone_165 : decode cX3_readAlone 165 = .ok (.lload_n 1, 1) := by decide +kernel
theorem dX3_readAlone_166 : decode cX3_readAlone 166 = .ok (.invokevirtual 144, 3) := by decide +kernel
theorem dX3_readAlone_169 : decode cX3_readAlone 169 = .ok (.ireturn, 1) := by decide +kernel
theorem dX3_readAbove_0 : decode cX3_readAbove 0 = .ok (.aload_n 0, 1) := by decide +kernel
theorem dX3_readAbove_1 : decode cX3_readAbove 1 = .ok (.getfield 35, 3) := by decide +kernel
theorem dX3_readAbove_4 : decode cX3_readAbove 4 = .ok (.aload_n 0, 1) := by decide +kernel
theorem dX3_readAbove_5 : decode cX3_readAbove 5 = .ok (.getfield 28, 3) := by decide +kernel
theorem dX3_readAbove_8 : decode cX3_readAbove 8 = .ok (.aload_n 0, 1) := by decide +kernel
theorem dX3_readAbove_9 : decode cX3_readAbove 9 = .ok (.getfield 28, 3) := by decide +kernel
theorem dX3_readAbove_12 : decode cX3_readAbove 12 = .ok (.getfield 104, 3) := by decide +kernel
theorem dX3_readAbove_15 : decode cX3_readAbove 15 = .ok (.iconst 1, 1) := by decide +kernel
theorem dX3_readAbove_16 : decode cX3_readAbove 16 = .ok (.isub, 1) := by decide +kernel
theorem dX3_readAbove_17 : decode cX3_readAbove 17 = .ok (.invokevirtual 148, 3) := by decide +kernel
theorem dX3_readAbove_20 : decode cX3_readAbove 20 = .ok (.aload_n 0, 1) := by decide +kernel
theorem dX3_readAbove_21 : decode cX3_readAbove 21 = .ok (.getfield 28, 3) := by decide +kernel
theorem dX3_readAbove_24 : decode cX3_readAbove 24 = .ok (.getfield 82, 3) := by decide +kernel
theorem dX3_readAbove_27 : decode cX3_readAbove 27 = .ok (.invokevirtual 152, 3) := by decide +kernel
theorem dX3_readAbove_30 : decode cX3_readAbove 30 = .ok (.iconst 1, 1) := by decide +kernel
theorem dX3_readAbove_31 : decode cX3_readAbove 31 = .ok (.istore_n 1, 1) := by decide +kernel
theorem dX3_readAbove_32 : decode cX3_readAbove 32 = .ok (.aload_n 0, 1) := by decide +kernel
theorem dX3_readAbove_33 : decode cX3_readAbove 33 = .ok (.getfield 21, 3) := by decide +kernel
theorem dX3_readAbove_36 : decode cX3_readAbove 36 = .ok (.getfield 55, 3) := by decide +kernel
theorem dX3_readAbove_39 : decode cX3_readAbove 39 = .ok (.istore_n 2, 1) := by decide +kernel
theorem dX3_readAbove_40 : decode cX3_readAbove 40 = .ok (.iload_n 2, 1) := by decide +kernel
theorem dX3_readAbove_41 : decode cX3_readAbove 41 = .ok (.ifCond .le 97, 3) := by decide +kernel
theorem dX3_readAbove_44 : decode cX3_readAbove 44 = .ok (.iload_n 1, 1) := by decide +kernel
theorem dX3_readAbove_45 : decode cX3_readAbove 45 = .ok (.ifCond .eq 93, 3) := by decide +kernel
theorem dX3_readAbove_48 : decode cX3_readAbove 48 = .ok (.aload_n 0, 1) := by decide +kernel
theorem dX3_readAbove_49 : decode cX3_readAbove 49 = .ok (.getfield 21, 3) := by decide +kernel
theorem dX3_readAbove_52 : decode cX3_readAbove 52 = .ok (.getfield 58, 3) := by decide +kernel
theorem dX3_readAbove_55 : decode cX3_readAbove 55 = .ok (.iconst 1, 1) := by decide +kernel
theorem dX3_readAbove_56 : decode cX3_readAbove 56 = .ok (.if_icmp .ne 82, 3) := by decide +kernel
theorem dX3_readAbove_59 : decode cX3_readAbove 59 = .ok (.aload_n 0, 1) := by decide +kernel
theorem dX3_readAbove_60 : decode cX3_readAbove 60 = .ok (.getfield 35, 3) := by decide +kernel
theorem dX3_readAbove_63 : decode cX3_readAbove 63 = .ok (.invokevirtual 155, 3) := by decide +kernel
theorem dX3_readAbove_66 : decode cX3_readAbove 66 = .ok (.aload_n 0, 1) := by decide +kernel
theorem dX3_readAbove_67 : decode cX3_readAbove 67 = .ok (.getfield 21, 3) := by decide +kernel
theorem dX3_readAbove_70 : decode cX3_readAbove 70 = .ok (.ldc 158, 2) := by decide +kernel
theorem dX3_readAbove_72 : decode cX3_readAbove 72 = .ok (.invokevirtual 47, 3) := by decide +kernel
theorem dX3_readAbove_75 : decode cX3_readAbove 75 = .ok (.ifCond .eq 11, 3) := by decide +kernel
theorem dX3_readAbove_78 : decode cX3_readAbove 78 = .ok (.aload_n 0, 1) := by decide +kernel
theorem dX3_readAbove_79 : decode cX3_readAbove 79 = .ok (.invokevirtual 160, 3) := by decide +kernel
theorem dX3_readAbove_82 : decode cX3_readAbove 82 = .ok (.istore_n 1, 1) := by decide +kernel
theorem dX3_readAbove_83 : decode cX3_readAbove 83 = .ok (.goto 49, 3) := by decide +kernel
theorem dX3_readAbove_86 : decode cX3_readAbove 86 = .ok (.aload_n 0, 1) := by decide +kernel
theorem dX3_readAbove_87 : decode cX3_readAbove 87 = .ok (.getfield 21, 3) := by decide +kernel
theorem dX3_readAbove_90 : decode cX3_readAbove 90 = .ok (.ldc 163, 2) := by decide +kernel
theorem dX3_readAbove_92 : decode cX3_readAbove 92 = .ok (.invokevirtual 47, 3) := by decide +kernel
theorem dX3_readAbove_95 : decode cX3_readAbove 95 = .ok (.ifCond .eq 11, 3) := by decide +kernel
theorem dX3_readAbove_98 : decode cX3_readAbove 98 = .ok (.aload_n 0, 1) := by decide +kernel
theorem dX3_readAbove_99 : decode cX3_readAbove 99 = .ok (.invokevirtual 165, 3) := by decide +kernel
theorem dX3_readAbove_102 : decode cX3_readAbove 102 = .ok (.istore_n 1, 1) := by decide +kernel
theorem dX3_readAbove_103 : decode cX3_readAbove 103 = .ok (.goto 29, 3) := by decide +kernel
theorem dX3_readAbove_106 : decode cX3_readAbove 106 = .ok (.aload_n 0, 1) := by decide +kernel
theorem dX3_readAbove_107 : decode cX3_readAbove 107 = .ok (.getfield 21, 3) := by decide +kernel
theorem dX3_readAbove_110 : decode cX3_readAbove 110 = .ok (.ldc 168, 2) := by decide +kernel
theorem dX3_readAbove_112 : decode cX3_readAbove 112 = .ok (.invokevirtual 47, 3) := by decide +kernel
theorem dX3_readAbove_115 : decode cX3_readAbove 115 = .ok (.ifCond .eq 11, 3) := by decide +kernel
theorem dX3_readAbove_118 : decode cX3_readAbove 118 = .ok (.aload_n 0, 1) := by decide +kernel
theorem dX3_readAbove_119 : decode cX3_readAbove 119 = .ok (.invokevirtual 170, 3) := by decide +kernel
theorem dX3_readAbove_122 : decode cX3_readAbove 122 = .ok (.istore_n 1, 1) := by decide +kernel
theorem dX3_readAbove_123 : decode cX3_readAbove 123 = .ok (.goto 9, 3) := by decide +kernel
theorem dX3_readAbove_126 : decode cX3_readAbove 126 = .ok (.aload_n 0, 1) := by decide +kernel
theorem dX3_readAbove_127 : decode cX3_readAbove 127 = .ok (.iconst 1, 1) := by decide +kernel
theorem dX3_readAbove_128 : decode cX3_readAbove 128 = .ok (.invokevirtual 67, 3) := by decide +kernel
theorem dX3_readAbove_131 : decode cX3_readAbove 131 = .ok (.istore_n 1, 1) := by decide +kernel
theorem dX3_readAbove_132 : decode cX3_readAbove 132 = .ok (.iinc 2 (-1), 3) := by decide +kernel
theorem dX3_readAbove_135 : decode cX3_readAbove 135 = .ok (.goto (-95), 3) := by decide +kernel
theorem dX3_readAbove_138 : decode cX3_readAbove 138 = .ok (.iload_n 1, 1) := by decide +kernel
theorem dX3_readAbove_139 : decode cX3_readAbove 139 = .ok (.ifCond .eq 28, 3) := by decide +kernel
theorem dX3_readAbove_142 : decode cX3_readAbove 142 = .ok (.aload_n 0, 1) := by decide +kernel
theorem dX3_readAbove_143 : decode cX3_readAbove 143 = .ok (.aload_n 0, 1) := by decide +kernel
theorem dX3_readAbove_144 : decode cX3_readAbove 144 = .ok (.getfield 35, 3) := by decide +kernel
theorem dX3_readAbove_147 : decode cX3_readAbove 147 = .ok (.invokevirtual 173, 3) := by decide +kernel
theorem dX3_readAbove_150 : decode cX3_readAbove 150 = .ok (.aload_n 0, 1) := by decide +kernel
theorem dX3_readAbove_151 : decode cX3_readAbove 151 = .ok (.getfield 35, 3) := by decide +kernel
theorem dX3_readAbove_154 : decode cX3_readAbove 154 = .ok (.getfield 176, 3) := by decide +kernel
theorem dX3_readAbove_157 : decode cX3_readAbove 157 = .ok (.invokevirtual 144, 3) := by decide +kernel
theorem dX3_readAbove_160 : decode cX3_readAbove 160 = .ok (.ifCond .eq 7, 3) := by decide +kernel
theorem dX3_readAbove_163 : decode cX3_readAbove 163 = .ok (.iconst 1, 1) := by decide +kernel
theorem dX3_readAbove_164 : decode cX3_readAbove 164 = .ok (.goto 4, 3) := by decide +kernel
theorem dX3_readAbove_167 : decode cX3_readAbove 167 = .ok (.iconst 0, 1) := by decide +kernel
theorem dX3_readAbove_168 : decode cX3_readAbove 168 = .ok (.ireturn, 1) := by decide +kernel
theorem dX3_endCode_0 : decode cX3_endCode 0 = .ok (.aload_n 0, 1) := by decide +kernel
theorem dX3_endCode_1 : decode cX3_endCode 1 = .ok (.getfield 21, 3) := by decide +kernel
theorem dX3_endCode_4 : decode cX3_endCode 4 = .ok (.getfield 58, 3) := by decide +kernel
theorem dX3_endCode_7 : decode cX3_endCode 7 = .ok (.iconst 5, 1) := by decide +kernel
theorem dX3_endCode_8 : decode cX3_endCode 8 = .ok (.if_icmp .eq 9, 3) := by decide +kernel
theorem dX3_endCode_11 : decode cX3_endCode 11 = .ok (.aload_n 0, 1) := by decide +kernel
theorem dX3_endCode_12 : decode cX3_endCode 12 = .ok (.iconst 1, 1) := by decide +kernel
theorem dX3_endCode_13 : decode cX3_endCode 13 = .ok (.invokevirtual 67, 3) := by decide +kernel
theorem dX3_endCode_16 : decode cX3_endCode 16 = .ok (.ireturn, 1) := by decide +kernel
theorem dX3_endCode_17 : decode cX3_endCode 17 = .ok (.iload_n 1, 1) := by decide +kernel
theorem dX3_endCode_18 : decode cX3_endCode 18 = .ok (.ifCond .ne 9, 3) := by decide +kernel
theorem dX3_endCode_21 : decode cX3_endCode 21 = .ok (.aload_n 0, 1) := by decide +kernel
theorem dX3_endCode_22 : decode cX3_endCode 22 = .ok (.iconst 3, 1) := by decide +kernel
theorem dX3_endCode_23 : decode cX3_endCode 23 = .ok (.invokevirtual 67, 3) := by decide +kernel
theorem dX3_endCode_26 : decode cX3_endCode 26 = .ok (.ireturn, 1) := by decide +kernel
theorem dX3_endCode_27 : decode cX3_endCode 27 = .ok (.aload_n 0, 1) := by decide +kernel
theorem dX3_endCode_28 : decode cX3_endCode 28 = .ok (.getfield 28, 3) := by decide +kernel
theorem dX3_endCode_31 : decode cX3_endCode 31 = .ok (.aload_n 0, 1) := by decide +kernel
theorem dX3_endCode_32 : decode cX3_endCode 32 = .ok (.getfield 28, 3) := by decide +kernel
theorem dX3_endCode_35 : decode cX3_endCode 35 = .ok (.getfield 104, 3) := by decide +kernel
theorem dX3_endCode_38 : decode cX3_endCode 38 = .ok (.lload_n 2, 1) := by decide +kernel
theorem dX3_endCode_39 : decode cX3_endCode 39 = .ok (.invokevirtual 136, 3) := by decide +kernel
theorem dX3_endCode_42 : decode cX3_endCode 42 = .ok (.aload_n 0, 1) := by decide +kernel
theorem dX3_endCode_43 : decode cX3_endCode 43 = .ok (.getfield 21, 3) := by decide +kernel
theorem dX3_endCode_46 : decode cX3_endCode 46 = .ok (.invokevirtual 75, 3) := by decide +kernel
theorem dX3_endCode_49 : decode cX3_endCode 49 = .ok (.iconst 1, 1) := by decide +kernel
theorem dX3_endCode_50 : decode cX3_endCode 50 = .ok (.ireturn, 1) := by decide +kernel
theorem dX3_readPass_0 : decode cX3_readPass 0 = .ok (.aload_n 0, 1) := by decide +kernel
theorem dX3_readPass_1 : decode cX3_readPass 1 = .ok (.getfield 35, 3) := by decide +kernel
theorem dX3_readPass_4 : decode cX3_readPass 4 = .ok (.invokevirtual 173, 3) := by decide +kernel
theorem dX3_readPass_7 : decode cX3_readPass 7 = .ok (.ifCond .eq 9, 3) := by decide +kernel
theorem dX3_readPass_10 : decode cX3_readPass 10 = .ok (.aload_n 0, 1) := by decide +kernel
theorem dX3_readPass_11 : decode cX3_readPass 11 = .ok (.iconst 4, 1) := by decide +kernel
theorem dX3_readPass_12 : decode cX3_readPass 12 = .ok (.invokevirtual 67, 3) := by decide +kernel
theorem dX3_readPass_15 : decode cX3_readPass 15 = .ok (.ireturn, 1) := by decide +kernel
theorem dX3_readPass_16 : decode cX3_readPass 16 = .ok (.aload_n 0, 1) := by decide +kernel
theorem dX3_readPass_17 : decode cX3_readPass 17 = .ok (.getfield 21, 3) := by decide +kernel
theorem dX3_readPass_20 : decode cX3_readPass 20 = .ok (.getfield 64, 3) := by decide +kernel
theorem dX3_readPass_23 : decode cX3_readPass 23 = .ok (.istore_n 1, 1) := by decide +kernel
theorem dX3_readPass_24 : decode cX3_readPass 24 = .ok (.aload_n 0, 1) := by decide +kernel
theorem dX3_readPass_25 : decode cX3_readPass 25 = .ok (.getfield 21, 3) := by decide +kernel
theorem dX3_readPass_28 : decode cX3_readPass 28 = .ok (.invokevirtual 75, 3) := by decide +kernel
theorem dX3_readPass_31 : decode cX3_readPass 31 = .ok (.aload_n 0, 1) := by decide +kernel
theorem dX3_readPass_32 : decode cX3_readPass 32 = .ok (.aload_n 0, 1) := by decide +kernel
theorem dX3_readPass_33 : decode cX3_readPass 33 = .ok (.getfield 35, 3) := by decide +kernel
theorem dX3_readPass_36 : decode cX3_readPass 36 = .ok (.invokevirtual 180, 3) := by decide +kernel
theorem dX3_readPass_39 : decode cX3_readPass 39 = .ok (.iload_n 1, 1) := by decide +kernel
theorem dX3_readPass_40 : decode cX3_readPass 40 = .ok (.invokevirtual 183, 3) := by decide +kernel
theorem dX3_readPass_43 : decode cX3_readPass 43 = .ok (.ireturn, 1) := by decide +kernel
theorem dX3_readVertical_0 : decode cX3_readVertical 0 = .ok (.aload_n 0, 1) := by decide +kernel
theorem dX3_readVertical_1 : decode cX3_readVertical 1 = .ok (.getfield 35, 3) := by decide +kernel
theorem dX3_readVertical_4 : decode cX3_readVertical 4 = .ok (.invokevirtual 173, 3) := by decide +kernel
theorem dX3_readVertical_7 : decode cX3_readVertical 7 = .ok (.ifCond .eq 9, 3) := by decide +kernel
theorem dX3_readVertical_10 : decode cX3_readVertical 10 = .ok (.aload_n 0, 1) := by decide +kernel
theorem dX3_readVertical_11 : decode cX3_readVertical 11 = .ok (.iconst 4, 1) := by decide +kernel
theorem dX3_readVertical_12 : decode cX3_readVertical 12 = .ok (.invokevirtual 67, 3) := by decide +kernel
theorem dX3_readVertical_15 : decode cX3_readVertical 15 = .ok (.ireturn, 1) := by decide +kernel
theorem dX3_readVertical_16 : decode cX3_readVertical 16 = .ok (.aload_n 0, 1) := by decide +kernel
theorem dX3_readVertical_17 : decode cX3_readVertical 17 = .ok (.getfield 21, 3) := by decide +kernel
theorem dX3_readVertical_20 : decode cX3_readVertical 20 = .ok (.getfield 64, 3) := by decide +kernel
theorem dX3_readVertical_23 : decode cX3_readVertical 23 = .ok (.istore_n 1, 1) := by decide +kernel
theorem dX3_readVertical_24 : decode cX3_readVertical 24 = .ok (.aload_n 0, 1) := by decide +kernel
theorem dX3_readVertical_25 : decode cX3_readVertical 25 = .ok (.getfield 21, 3) := by decide +kernel
theorem dX3_readVertical_28 : decode cX3_readVertical 28 = .ok (.invokevirtual 75, 3) := by decide +kernel
theorem dX3_readVertical_31 : decode cX3_readVertical 31 = .ok (.aload_n 0, 1) := by decide +kernel
theorem dX3_readVertical_32 : decode cX3_readVertical 32 = .ok (.getfield 21, 3) := by decide +kernel
theorem dX3_readVertical_35 : decode cX3_readVertical 35 = .ok (.getfield 58, 3) := by decide +kernel
theorem dX3_readVertical_38 : decode cX3_readVertical 38 = .ok (.iconst 4, 1) := by decide +kernel
theorem dX3_readVertical_39 : decode cX3_readVertical 39 = .ok (.if_icmp .ne 7, 3) := by decide +kernel
theorem dX3_readVertical_42 : decode cX3_readVertical 42 = .ok (.iconst 1, 1) := by decide +kernel
theorem dX3_readVertical_43 : decode cX3_readVertical 43 = .ok (.goto 4, 3) := by decide +kernel
theorem dX3_readVertical_46 : decode cX3_readVertical 46 = .ok (.iconst 0, 1) := by decide +kernel
theorem dX3_readVertical_47 : decode cX3_readVertical 47 = .ok (.istore_n 2, 1) := by decide +kernel
theorem dX3_readVertical_48 : decode cX3_readVertical 48 = .ok (.iload_n 2, 1) := by decide +kernel
theorem dX3_readVertical_49 : decode cX3_readVertical 49 = .ok (.ifCond .eq 10, 3) := by decide +kernel
theorem dX3_readVertical_52 : decode cX3_readVertical 52 = .ok (.aload_n 0, 1) := by decide +kernel
theorem dX3_readVertical_53 : decode cX3_readVertical 53 = .ok (.getfield 21, 3) := by decide +kernel
theorem dX3_readVertical_56 : decode cX3_readVertical 56 = .ok (.invokevirtual 75, 3) := by decide +kernel
theorem dX3_readVertical_59 : decode cX3_readVertical 59 = .ok (.aload_n 0, 1) := by decide +kernel
theorem dX3_readVertical_60 : decode cX3_readVertical 60 = .ok (.iconst 0, 1) := by decide +kernel
theorem dX3_readVertical_61 : decode cX3_readVertical 61 = .ok (.iconst 3, 1) := by decide +kernel
theorem dX3_readVertical_62 : decode cX3_readVertical 62 = .ok (.invokevirtual 78, 3) := by decide +kernel
theorem dX3_readVertical_65 : decode cX3_readVertical 65 = .ok (.ifCond .ne 5, 3) := by decide +kernel
theorem dX3_readVertical_68 : decode cX3_readVertical 68 = .ok (.iconst 0, 1) := by decide +kernel
theorem dX3_readVertical_69 : decode cX3_readVertical 69 = .ok (.ireturn, 1) := by decide +kernel
theorem dX3_readVertical_70 : decode cX3_readVertical 70 = .ok (.iload_n 2, 1) := by decide +kernel
theorem dX3_readVertical_71 : decode cX3_readVertical 71 = .ok (.ifCond .eq 14, 3) := by decide +kernel
theorem dX3_readVertical_74 : decode cX3_readVertical 74 = .ok (.aload_n 0, 1) := by decide +kernel
theorem dX3_readVertical_75 : decode cX3_readVertical 75 = .ok (.getfield 21, 3) := by decide +kernel
theorem dX3_readVertical_78 : decode cX3_readVertical 78 = .ok (.invokevirtual 71, 3) := by decide +kernel
theorem dX3_readVertical_81 : decode cX3_readVertical 81 = .ok (.ineg, 1) := by decide +kernel
theorem dX3_readVertical_82 : decode cX3_readVertical 82 = .ok (.goto 10, 3) := by decide +kernel
theorem dX3_readVertical_85 : decode cX3_readVertical 85 = .ok (.aload_n 0, 1) := by decide +kernel
theorem dX3_readVertical_86 : decode cX3_readVertical 86 = .ok (.getfield 21, 3) := by decide +kernel
theorem dX3_readVertical_89 : decode cX3_readVertical 89 = .ok (.invokevirtual 71, 3) := by decide +kernel
theorem dX3_readVertical_92 : decode cX3_readVertical 92 = .ok (.istore_n 3, 1) := by decide +kernel
theorem dX3_readVertical_93 : decode cX3_readVertical 93 = .ok (.aload_n 0, 1) := by decide +kernel
theorem dX3_readVertical_94 : decode cX3_readVertical 94 = .ok (.getfield 21, 3) := by decide +kernel
theorem dX3_readVertical_97 : decode cX3_readVertical 97 = .ok (.invokevirtual 75, 3) := by decide +kernel
theorem dX3_readVertical_100 : decode cX3_readVertical 100 = .ok (.aload_n 0, 1) := by decide +kernel
theorem dX3_readVertical_101 : decode cX3_readVertical 101 = .ok (.aload_n 0, 1) := by decide +kernel
theorem dX3_readVertical_102 : decode cX3_readVertical 102 = .ok (.getfield 35, 3) := by decide +kernel
theorem dX3_readVertical_105 : decode cX3_readVertical 105 = .ok (.iload_n 3, 1) := by decide +kernel
theorem dX3_readVertical_106 : decode cX3_readVertical 106 = .ok (.invokevirtual 187, 3) := by decide +kernel
theorem dX3_readVertical_109 : decode cX3_readVertical 109 = .ok (.iload_n 1, 1) := by decide +kernel
theorem dX3_readVertical_110 : decode cX3_readVertical 110 = .ok (.invokevirtual 183, 3) := by decide +kernel
theorem dX3_readVertical_113 : decode cX3_readVertical 113 = .ok (.ireturn, 1) := by decide +kernel
theorem dX3_readHorizontal_0 : decode cX3_readHorizontal 0 = .ok (.aload_n 0, 1) := by decide +kernel
theorem dX3_readHorizontal_1 : decode cX3_readHorizontal 1 = .ok (.getfield 35, 3) := by decide +kernel
theorem dX3_readHorizontal_4 : decode cX3_readHorizontal 4 = .ok (.invokevirtual 173, 3) := by decide +kernel
theorem dX3_readHorizontal_7 : decode cX3_readHorizontal 7 = .ok (.ifCond .eq 9, 3) := by decide +kernel
theorem dX3_readHorizontal_10 : decode cX3_readHorizontal 10 = .ok (.aload_n 0, 1) := by decide +kernel
theorem dX3_readHorizontal_11 : decode cX3_readHorizontal 11 = .ok (.iconst 4, 1) := by decide +kernel
theorem dX3_readHorizontal_12 : decode cX3_readHorizontal 12 = .ok (.invokevirtual 67, 3) := by decide +kernel
theorem dX3_readHorizontal_15 : decode cX3_readHorizontal 15 = .ok (.ireturn, 1) := by decide +kernel
theorem dX3_readHorizontal_16 : decode cX3_readHorizontal 16 = .ok (.aload_n 0, 1) := by decide +kernel
theorem dX3_readHorizontal_17 : decode cX3_readHorizontal 17 = .ok (.getfield 21, 3) := by decide +kernel
theorem dX3_readHorizontal_20 : decode cX3_readHorizontal 20 = .ok (.getfield 64, 3) := by decide +kernel
theorem dX3_readHorizontal_23 : decode cX3_readHorizontal 23 = .ok (.istore_n 1, 1) := by decide +kernel
theorem dX3_readHorizontal_24 : decode cX3_readHorizontal 24 = .ok (.aload_n 0, 1) := by decide +kernel
theorem dX3_readHorizontal_25 : decode cX3_readHorizontal 25 = .ok (.getfield 21, 3) := by decide +kernel
theorem dX3_readHorizontal_28 : decode cX3_readHorizontal 28 = .ok (.invokevirtual 75, 3) := by decide +kernel
theorem dX3_readHorizontal_31 : decode cX3_readHorizontal 31 = .ok (.aload_n 0, 1) := by decide +kernel
theorem dX3_readHorizontal_32 : decode cX3_readHorizontal 32 = .ok (.iconst 0, 1) := by decide +kernel
theorem dX3_readHorizontal_33 : decode cX3_readHorizontal 33 = .ok (.aload_n 0, 1) := by decide +kernel
theorem dX3_readHorizontal_34 : decode cX3_readHorizontal 34 = .ok (.getfield 28, 3) := by decide +kernel
theorem dX3_readHorizontal_37 : decode cX3_readHorizontal 37 = .ok (.getfield 82, 3) := by decide +kernel
theorem dX3_readHorizontal_40 : decode cX3_readHorizontal 40 = .ok (.invokevirtual 78, 3) := by decide +kernel
theorem dX3_readHorizontal_43 : decode cX3_readHorizontal 43 = .ok (.ifCond .ne 5, 3) := by decide +kernel
theorem dX3_readHorizontal_46 : decode cX3_readHorizontal 46 = .ok (.iconst 0, 1) := by decide +kernel
theorem dX3_readHorizontal_47 : decode cX3_readHorizontal 47 = .ok (.ireturn, 1) := by decide +kernel
theorem dX3_readHorizontal_48 : decode cX3_readHorizontal 48 = .ok (.aload_n 0, 1) := by decide +kernel
theorem dX3_readHorizontal_49 : decode cX3_readHorizontal 49 = .ok (.getfield 21, 3) := by decide +kernel
theorem dX3_readHorizontal_52 : decode cX3_readHorizontal 52 = .ok (.invokevirtual 71, 3) := by decide +kernel
theorem dX3_readHorizontal_55 : decode cX3_readHorizontal 55 = .ok (.istore_n 2, 1) := by decide +kernel
theorem dX3_readHorizontal_56 : decode cX3_readHorizontal 56 = .ok (.aload_n 0, 1) := by decide +kernel
theorem dX3_readHorizontal_57 : decode cX3_readHorizontal 57 = .ok (.getfield 21, 3) := by decide +kernel
theorem dX3_readHorizontal_60 : decode cX3_readHorizontal 60 = .ok (.invokevirtual 75, 3) := by decide +kernel
theorem dX3_readHorizontal_63 : decode cX3_readHorizontal 63 = .ok (.aload_n 0, 1) := by decide +kernel
theorem dX3_readHorizontal_64 : decode cX3_readHorizontal 64 = .ok (.iconst 0, 1) := by decide +kernel
theorem dX3_readHorizontal_65 : decode cX3_readHorizontal 65 = .ok (.aload_n 0, 1) := by decide +kernel
theorem dX3_readHorizontal_66 : decode cX3_readHorizontal 66 = .ok (.getfield 28, 3) := by decide +kernel
theorem dX3_readHorizontal_69 : decode cX3_readHorizontal 69 = .ok (.getfield 82, 3) := by decide +kernel
theorem dX3_readHorizontal_72 : decode cX3_readHorizontal 72 = .ok (.invokevirtual 78, 3) := by decide +kernel
theorem dX3_readHorizontal_75 : decode cX3_readHorizontal 75 = .ok (.ifCond .ne 5, 3) := by decide +kernel
theorem dX3_readHorizontal_78 : decode cX3_readHorizontal 78 = .ok (.iconst 0, 1) := by decide +kernel
theorem dX3_readHorizontal_79 : decode cX3_readHorizontal 79 = .ok (.ireturn, 1) := by decide +kernel
theorem dX3_readHorizontal_80 : decode cX3_readHorizontal 80 = .ok (.aload_n 0, 1) := by decide +kernel
theorem dX3_readHorizontal_81 : decode cX3_readHorizontal 81 = .ok (.getfield 21, 3) := by decide +kernel
theorem dX3_readHorizontal_84 : decode cX3_readHorizontal 84 = .ok (.invokevirtual 71, 3) := by decide +kernel
theorem dX3_readHorizontal_87 : decode cX3_readHorizontal 87 = .ok (.istore_n 3, 1) := by decide +kernel
theorem dX3_readHorizontal_88 : decode cX3_readHorizontal 88 = .ok (.aload_n 0, 1) := by decide +kernel
theorem dX3_readHorizontal_89 : decode cX3_readHorizontal 89 = .ok (.getfield 21, 3) := by decide +kernel
theorem dX3_readHorizontal_92 : decode cX3_readHorizontal 92 = .ok (.invokevirtual 75, 3) := by decide +kernel
theorem dX3_readHorizontal_95 : decode cX3_readHorizontal 95 = .ok (.aload_n 0, 1) := by decide +kernel
theorem dX3_readHorizontal_96 : decode cX3_readHorizontal 96 = .ok (.aload_n 0, 1) := by decide +kernel
theorem dX3_readHorizontal_97 : decode cX3_readHorizontal 97 = .ok (.getfield 35, 3) := by decide +kernel
theorem dX3_readHorizontal_100 : decode cX3_readHorizontal 100 = .ok (.iload_n 2, 1) := by decide +kernel
theorem dX3_readHorizontal_101 : decode cX3_readHorizontal 101 = .ok (.iload_n 3, 1) := by decide +kernel
theorem dX3_readHorizontal_102 : decode cX3_readHorizontal 102 = .ok (.invokevirtual 190, 3) := by decide +kernel
theorem dX3_readHorizontal_105 : decode cX3_readHorizontal 105 = .ok (.iload_n 1, 1) := by decide +kernel
theorem dX3_readHorizontal_106 : decode cX3_readHorizontal 106 = .ok (.invokevirtual 183, 3) := by decide +kernel
theorem dX3_readHorizontal_109 : decode cX3_readHorizontal 109 = .ok (.ireturn, 1) := by decide +kernel
theorem dX4_init_0 : decode cX4_init 0 = .ok (.aload_n 0, 1) := by decide +kernel
theorem dX4_init_1 : decode cX4_init 1 = .ok (.invokespecial 1, 3) := by decide +kernel
theorem dX4_init_4 : decode cX4_init 4 = .ok (.return_, 1) := by decide +kernel
theorem dX4_begin_0 : decode cX4_begin 0 = .ok (.aload_n 0, 1) := by decide +kernel
theorem dX4_begin_1 : decode cX4_begin 1 = .ok (.iload_n 3, 1) := by decide +kernel
theorem dX4_begin_2 : decode cX4_begin 2 = .ok (.putfield 7, 3) := by decide +kernel
theorem dX4_begin_5 : decode cX4_begin 5 = .ok (.aload_n 0, 1) := by decide +kernel
theorem dX4_begin_6 : decode cX4_begin 6 = .ok (.iconst (-1), 1) := by decide +kernel
theorem dX4_begin_7 : decode cX4_begin 7 = .ok (.putfield 13, 3) := by decide +kernel
theorem dX4_begin_10 : decode cX4_begin 10 = .ok (.aload_n 0, 1) := by decide +kernel
theorem dX4_begin_11 : decode cX4_begin 11 = .ok (.iconst 0, 1) := by decide +kernel
theorem dX4_begin_12 : decode cX4_begin 12 = .ok (.putfield 16, 3) := by decide +kernel
theorem dX4_begin_15 : decode cX4_begin 15 = .ok (.aload_n 0, 1) := by decide +kernel
theorem dX4_begin_16 : decode cX4_begin 16 = .ok (.lconst 0, 1) := by decide +kernel
theorem dX4_begin_17 : decode cX4_begin 17 = .ok (.putfield 20, 3) := by decide +kernel
theorem dX4_begin_20 : decode cX4_begin 20 = .ok (.aload_n 0, 1) := by decide +kernel
theorem dX4_begin_21 : decode cX4_begin 21 = .ok (.iload_n 3, 1) := by decide +kernel
theorem dX4_begin_22 : decode cX4_begin 22 = .ok (.putfield 24, 3) := by decide +kernel
theorem dX4_begin_25 : decode cX4_begin 25 = .ok (.aload_n 0, 1) := by decide +kernel
theorem dX4_begin_26 : decode cX4_begin 26 = .ok (.iload_n 3, 1) := by decide +kernel
theorem dX4_begin_27 : decode cX4_begin 27 = .ok (.putfield 27, 3) := by decide +kernel
theorem dX4_begin_30 : decode cX4_begin 30 = .ok (.aload_n 0, 1) := by decide +kernel
theorem dX4_begin_31 : decode cX4_begin 31 = .ok (.lload_n 1, 1) := by decide +kernel
theorem dX4_begin_32 : decode cX4_begin 32 = .ok (.putfield 30, 3) := by decide +kernel
theorem dX4_begin_35 : decode cX4_begin 35 = .ok (.aload_n 0, 1) := by decide +kernel
theorem dX4_begin_36 : decode cX4_begin 36 = .ok (.lload_n 1, 1) := by decide +kernel
theorem dX4_begin_37 : decode cX4_begin 37 = .ok (.iload_n 3, 1) := by decide +kernel
theorem dX4_begin_38 : decode cX4_begin 38 = .ok (.invokestatic 33, 3) := by decide +kernel
theorem dX4_begin_41 : decode cX4_begin 41 = .ok (.putfield 39, 3) := by decide +kernel
theorem dX4_begin_44 : decode cX4_begin 44 = .ok (.return_, 1) := by decide +kernel
theorem dX4_hasEnded_0 : decode cX4_hasEnded 0 = .ok (.aload_n 0, 1) := by decide +kernel
theorem dX4_hasEnded_1 : decode cX4_hasEnded 1 = .ok (.getfield 13, 3) := by decide +kernel
theorem dX4_hasEnded_4 : decode cX4_hasEnded 4 = .ok (.aload_n 0, 1) := by decide +kernel
theorem dX4_hasEnded_5 : decode cX4_hasEnded 5 = .ok (.getfield 7, 3) := by decide +kernel
theorem dX4_hasEnded_8 : decode cX4_hasEnded 8 = .ok (.if_icmp .lt 7, 3) := by decide +kernel
theorem dX4_hasEnded_11 : decode cX4_hasEnded 11 = .ok (.iconst 1, 1) := by decide +kernel
theorem dX4_hasEnded_12 : decode cX4_hasEnded 12 = .ok (.goto 4, 3) := by decide +kernel
theorem dX4_hasEnded_15 : decode cX4_hasEnded 15 = .ok (.iconst 0, 1) := by decide +kernel
theorem dX4_hasEnded_16 : decode cX4_hasEnded 16 = .ok (.ireturn, 1) := by decide +kernel
theorem dX4_look_0 : decode cX4_look 0 = .ok (.aload_n 0, 1) := by decide +kernel
theorem dX4_look_1 : decode cX4_look 1 = .ok (.aload_n 0, 1) := by decide +kernel
theorem dX4_look_2 : decode cX4_look 2 = .ok (.getfield 39, 3) := by decide +kernel
theorem dX4_look_5 : decode cX4_look 5 = .ok (.aload_n 0, 1) := by decide +kernel
theorem dX4_look_6 : decode cX4_look 6 = .ok (.getfield 16, 3) := by decide +kernel
theorem dX4_look_9 : decode cX4_look 9 = .ok (.ifCond .eq 14, 3) := by decide +kernel
theorem dX4_look_12 : decode cX4_look 12 = .ok (.aload_n 0, 1) := by decide +kernel
theorem dX4_look_13 : decode cX4_look 13 = .ok (.getfield 30, 3) := by decide +kernel
theorem dX4_look_16 : decode cX4_look 16 = .ok (.ldc2_w 42, 3) := by decide +kernel
theorem dX4_look_19 : decode cX4_look 19 = .ok (.lxor, 1) := by decide +kernel
theorem dX4_look_20 : decode cX4_look 20 = .ok (.goto 7, 3) := by decide +kernel
theorem dX4_look_23 : decode cX4_look 23 = .ok (.aload_n 0, 1) := by decide +kernel
theorem dX4_look_24 : decode cX4_look 24 = .ok (.getfield 30, 3) := by decide +kernel
theorem dX4_look_27 : decode cX4_look 27 = .ok (.land, 1) := by decide +kernel
theorem dX4_look_28 : decode cX4_look 28 = .ok (.aload_n 0, 1) := by decide +kernel
theorem dX4_look_29 : decode cX4_look 29 = .ok (.getfield 13, 3) := by decide +kernel
theorem dX4_look_32 : decode cX4_look 32 = .ok (.aload_n 0, 1) := by decide +kernel
theorem dX4_look_33 : decode cX4_look 33 = .ok (.getfield 7, 3) := by decide +kernel
theorem dX4_look_36 : decode cX4_look 36 = .ok (.invokestatic 44, 3) := by decide +kernel
theorem dX4_look_39 : decode cX4_look 39 = .ok (.putfield 24, 3) := by decide +kernel
theorem dX4_look_42 : decode cX4_look 42 = .ok (.aload_n 0, 1) := by decide +kernel
theorem dX4_look_43 : decode cX4_look 43 = .ok (.aload_n 0, 1) := by decide +kernel
theorem dX4_look_44 : decode cX4_look 44 = .ok (.getfield 39, 3) := by decide +kernel
theorem dX4_look_47 : decode cX4_look 47 = .ok (.aload_n 0, 1) := by decide +kernel
theorem dX4_look_48 : decode cX4_look 48 = .ok (.getfield 24, 3) := by decide +kernel
theorem dX4_look_51 : decode cX4_look 51 = .ok (.aload_n 0, 1) := by decide +kernel
theorem dX4_look_52 : decode cX4_look 52 = .ok (.getfield 7, 3) := by decide +kernel
theorem dX4_look_55 : decode cX4_look 55 = .ok (.invokestatic 44, 3) := by decide +kernel
theorem dX4_look_58 : decode cX4_look 58 = .ok (.putfield 27, 3) := by decide +kernel
theorem dX4_look_61 : decode cX4_look 61 = .ok (.return_, 1) := by decide +kernel
theorem dX4_pass_0 : decode cX4_pass 0 = .ok (.aload_n 0, 1) := by decide +kernel
theorem dX4_pass_1 : decode cX4_pass 1 = .ok (.aload_n 0, 1) := by decide +kernel
theorem dX4_pass_2 : decode cX4_pass 2 = .ok (.getfield 27, 3) := by decide +kernel
theorem dX4_pass_5 : decode cX4_pass 5 = .ok (.aload_n 0, 1) := by decide +kernel
theorem dX4_pass_6 : decode cX4_pass 6 = .ok (.getfield 16, 3) := by decide +kernel
theorem dX4_pass_9 : decode cX4_pass 9 = .ok (.invokevirtual 48, 3) := by decide +kernel
theorem dX4_pass_12 : decode cX4_pass 12 = .ok (.ireturn, 1) := by decide +kernel
theorem dX4_goVertical_0 : decode cX4_goVertical 0 = .ok (.aload_n 0, 1) := by decide +kernel
theorem dX4_goVertical_1 : decode cX4_goVertical 1 = .ok (.aload_n 0, 1) := by decide +kernel
theorem dX4_goVertical_2 : decode cX4_goVertical 2 = .ok (.getfield 24, 3) := by decide +kernel
theorem dX4_goVertical_5 : decode cX4_goVertical 5 = .ok (.iload_n 1, 1) := by decide +kernel
theorem dX4_goVertical_6 : decode cX4_goVertical 6 = .ok (.iadd, 1) := by decide +kernel
theorem dX4_goVertical_7 : decode cX4_goVertical 7 = .ok (.aload_n 0, 1) := by decide +kernel
theorem dX4_goVertical_8 : decode cX4_goVertical 8 = .ok (.getfield 16, 3) := by decide +kernel
theorem dX4_goVertical_11 : decode cX4_goVertical 11 = .ok (.ifCond .ne 7, 3) := by decide +kernel
theorem dX4_goVertical_14 : decode cX4_goVertical 14 = .ok (.iconst 1, 1) := by decide +kernel
theorem dX4_goVertical_15 : decode cX4_goVertical 15 = .ok (.goto 4, 3) := by decide +kernel
theorem dX4_goVertical_18 : decode cX4_goVertical 18 = .ok (.iconst 0, 1) := by decide +kernel
theorem dX4_goVertical_19 : decode cX4_goVertical 19 = .ok (.invokevirtual 48, 3) := by decide +kernel
theorem dX4_goVertical_22 : decode cX4_goVertical 22 = .ok (.ireturn, 1) := by decide +kernel
theorem dX4_goHorizontal_0 : decode cX4_goHorizontal 0 = .ok (.aload_n 0, 1) := by decide +kernel
theorem dX4_goHorizontal_1 : decode cX4_goHorizontal 1 = .ok (.getfield 13, 3) := by decide +kernel
theorem dX4_goHorizontal_4 : decode cX4_goHorizontal 4 = .ok (.ifCond .ge 7, 3) := by decide +kernel
theorem dX4_goHorizontal_7 : decode cX4_goHorizontal 7 = .ok (.iconst 0, 1) := by decide +kernel
theorem dX4_goHorizontal_8 : decode cX4_goHorizontal 8 = .ok (.goto 7, 3) := by decide +kernel
theorem dX4_goHorizontal_11 : decode cX4_goHorizontal 11 = .ok (.aload_n 0, 1) := by decide +kernel
theorem dX4_goHorizontal_12 : decode cX4_goHorizontal 12 = .ok (.getfield 13, 3) := by decide +kernel
theorem dX4_goHorizontal_15 : decode cX4_goHorizontal 15 = .ok (.istore_n 3, 1) := by decide +kernel
theorem dX4_goHorizontal_16 : decode cX4_goHorizontal 16 = .ok (.iload_n 3, 1) := by decide +kernel
theorem dX4_goHorizontal_17 : decode cX4_goHorizontal 17 = .ok (.iload_n 1, 1) := by decide +kernel
theorem dX4_goHorizontal_18 : decode cX4_goHorizontal 18 = .ok (.iadd, 1) := by decide +kernel
theorem dX4_goHorizontal_19 : decode cX4_goHorizontal 19 = .ok (.istore 4, 2) := by decide +kernel
theorem dX4_goHorizontal_21 : decode cX4_goHorizontal 21 = .ok (.iload 4, 2) := by decide +kernel
theorem dX4_goHorizontal_23 : decode cX4_goHorizontal 23 = .ok (.iload_n 2, 1) := by decide +kernel
theorem dX4_goHorizontal_24 : decode cX4_goHorizontal 24 = .ok (.iadd, 1) := by decide +kernel
theorem dX4_goHorizontal_25 : decode cX4_goHorizontal 25 = .ok (.istore 5, 2) := by decide +kernel
theorem dX4_goHorizontal_27 : decode cX4_goHorizontal 27 = .ok (.iload 5, 2) := by decide +kernel
theorem dX4_goHorizontal_29 : decode cX4_goHorizontal 29 = .ok (.aload_n 0, 1) := by decide +kernel
theorem dX4_goHorizontal_30 : decode cX4_goHorizontal 30 = .ok (.getfield 13, 3) := by decide +kernel
theorem dX4_goHorizontal_33 : decode cX4_goHorizontal 33 = .ok (.if_icmp .le 12, 3) := by decide +kernel
theorem dX4_goHorizontal_36 : decode cX4_goHorizontal 36 = .ok (.iload 5, 2) := by decide +kernel
theorem dX4_goHorizontal_38 : decode cX4_goHorizontal 38 = .ok (.aload_n 0, 1) := by decide +kernel
theorem dX4_goHorizontal_39 : decode cX4_goHorizontal 39 = .ok (.getfield 7, 3) := by decide +kernel
theorem dX4_goHorizontal_42 : decode cX4_goHorizontal 42 = .ok (.if_icmp .le 5, 3) := by decide +kernel
theorem dX4_goHorizontal_45 : decode cX4_goHorizontal 45 = .ok (.iconst 0, 1) := by decide +kernel
theorem dX4_goHorizontal_46 : decode cX4_goHorizontal 46 = .ok (.ireturn, 1) := by decide +kernel
theorem dX4_goHorizontal_47 : decode cX4_goHorizontal 47 = .ok (.aload_n 0, 1) := by decide +kernel
theorem dX4_goHorizontal_48 : decode cX4_goHorizontal 48 = .ok (.dup, 1) := by decide +kernel
theorem dX4_goHorizontal_49 : decode cX4_goHorizontal 49 = .ok (.getfield 20, 3) := by decide +kernel
theorem dX4_goHorizontal_52 : decode cX4_goHorizontal 52 = .ok (.aload_n 0, 1) := by decide +kernel
theorem dX4_goHorizontal_53 : decode cX4_goHorizontal 53 = .ok (.getfield 16, 3) := by decide +kernel
theorem dX4_goHorizontal_56 : decode cX4_goHorizontal 56 = .ok (.ifCond .eq 12, 3) := by decide +kernel
theorem dX4_goHorizontal_59 : decode cX4_goHorizontal 59 = .ok (.iload_n 3, 1) := by decide +kernel
theorem dX4_goHorizontal_60 : decode cX4_goHorizontal 60 = .ok (.iload 4, 2) := by decide +kernel
theorem dX4_goHorizontal_62 : decode cX4_goHorizontal 62 = .ok (.invokestatic 52, 3) := by decide +kernel
theorem dX4_goHorizontal_65 : decode cX4_goHorizontal 65 = .ok (.goto 10, 3) := by decide +kernel
theorem dX4_goHorizontal_68 : decode cX4_goHorizontal 68 = .ok (.iload 4, 2) := by decide +kernel
theorem dX4_goHorizontal_70 : decode cX4_goHorizontal 70 = .ok (.iload 5, 2) := by decide +kernel
theorem dX4_goHorizontal_72 : decode cX4_goHorizontal 72 = .ok (.invokestatic 52, 3) := by decide +kernel
theorem dX4_goHorizontal_75 : decode cX4_goHorizontal 75 = .ok (.lor, 1) := by decide +kernel
theorem dX4_goHorizontal_76 : decode cX4_goHorizontal 76 = .ok (.putfield 20, 3) := by decide +kernel
theorem dX4_goHorizontal_79 : decode cX4_goHorizontal 79 = .ok (.aload_n 0, 1) := by decide +kernel
theorem dX4_goHorizontal_80 : decode cX4_goHorizontal 80 = .ok (.iload 5, 2) := by decide +kernel
theorem dX4_goHorizontal_82 : decode cX4_goHorizontal 82 = .ok (.putfield 13, 3) := by decide +kernel
theorem dX4_goHorizontal_85 : decode cX4_goHorizontal 85 = .ok (.iconst 1, 1) := by decide +kernel
theorem dX4_goHorizontal_86 : decode cX4_goHorizontal 86 = .ok (.ireturn, 1) := by decide +kernel
theorem dX4_goTo_0 : decode cX4_goTo 0 = .ok (.iload_n 1, 1) := by decide +kernel
theorem dX4_goTo_1 : decode cX4_goTo 1 = .ok (.aload_n 0, 1) := by decide +kernel
theorem dX4_goTo_2 : decode cX4_goTo 2 = .ok (.getfield 13, 3) := by decide +kernel
theorem dX4_goTo_5 : decode cX4_goTo 5 = .ok (.if_icmp .le 11, 3) := by decide +kernel
theorem dX4_goTo_8 : decode cX4_goTo 8 = .ok (.iload_n 1, 1) := by decide +kernel
theorem dX4_goTo_9 : decode cX4_goTo 9 = .ok (.aload_n 0, 1) := by decide +kernel
theorem dX4_goTo_10 : decode cX4_goTo 10 = .ok (.getfield 7, 3) := by decide +kernel
theorem dX4_goTo_13 : decode cX4_goTo 13 = .ok (.if_icmp .le 5, 3) := by decide +kernel
theorem dX4_goTo_16 : decode cX4_goTo 16 = .ok (.iconst 0, 1) := by decide +kernel
theorem dX4_goTo_17 : decode cX4_goTo 17 = .ok (.ireturn, 1) := by decide +kernel
theorem dX4_goTo_18 : decode cX4_goTo 18 = .ok (.aload_n 0, 1) := by decide +kernel
theorem dX4_goTo_19 : decode cX4_goTo 19 = .ok (.getfield 16, 3) := by decide +kernel
theorem dX4_goTo_22 : decode cX4_goTo 22 = .ok (.ifCond .eq 31, 3) := by decide +kernel
theorem dX4_goTo_25 : decode cX4_goTo 25 = .ok (.aload_n 0, 1) := by decide +kernel
theorem dX4_goTo_26 : decode cX4_goTo 26 = .ok (.dup, 1) := by decide +kernel
theorem dX4_goTo_27 : decode cX4_goTo 27 = .ok (.getfield 20, 3) := by decide +kernel
theorem dX4_goTo_30 : decode cX4_goTo 30 = .ok (.aload_n 0, 1) := by decide +kernel
theorem dX4_goTo_31 : decode cX4_goTo 31 = .ok (.getfield 13, 3) := by decide +kernel
theorem dX4_goTo_34 : decode cX4_goTo 34 = .ok (.ifCond .ge 7, 3) := by decide +kernel
theorem dX4_goTo_37 : decode cX4_goTo 37 = .ok (.iconst 0, 1) := by decide +kernel
theorem dX4_goTo_38 : decode cX4_goTo 38 = .ok (.goto 7, 3) := by decide +kernel
theorem dX4_goTo_41 : decode cX4_goTo 41 = .ok (.aload_n 0, 1) := by decide +kernel
theorem dX4_goTo_42 : decode cX4_goTo 42 = .ok (.getfield 13, 3) := by decide +kernel
theorem dX4_goTo_45 : decode cX4_goTo 45 = .ok (.iload_n 1, 1) := by decide +kernel
theorem dX4_goTo_46 : decode cX4_goTo 46 = .ok (.invokestatic 52, 3) := by decide +kernel
theorem dX4_goTo_49 : decode cX4_goTo 49 = .ok (.lor, 1) := by decide +kernel
theorem dX4_goTo_50 : decode cX4_goTo 50 = .ok (.putfield 20, 3) := by decide +kernel
theorem dX4_goTo_53 : decode cX4_goTo 53 = .ok (.aload_n 0, 1) := by decide +kernel
theorem dX4_goTo_54 : decode cX4_goTo 54 = .ok (.iload_n 1, 1) := by decide +kernel
theorem dX4_goTo_55 : decode cX4_goTo 55 = .ok (.putfield 13, 3) := by decide +kernel
theorem dX4_goTo_58 : decode cX4_goTo 58 = .ok (.aload_n 0, 1) := by decide +kernel
theorem dX4_goTo_59 : decode cX4_goTo 59 = .ok (.iload_n 2, 1) := by decide +kernel
theorem dX4_goTo_60 : decode cX4_goTo 60 = .ok (.putfield 16, 3) := by decide +kernel
theorem dX4_goTo_63 : decode cX4_goTo 63 = .ok (.iconst 1, 1) := by decide +kernel
theorem dX4_goTo_64 : decode cX4_goTo 64 = .ok (.ireturn, 1) := by decide +kernel
theorem dX5_init_0 : decode cX5_init 0 = .ok (.aload_n 0, 1) := by decide +kernel
theorem dX5_init_1 : decode cX5_init 1 = .ok (.invokespecial 3, 3) := by decide +kernel
theorem dX5_init_4 : decode cX5_init 4 = .ok (.aload_n 0, 1) := by decide +kernel
theorem dX5_init_5 : decode cX5_init 5 = .ok (.bipush 20, 2) := by decide +kernel
theorem dX5_init_7 : decode cX5_init 7 = .ok (.newarray .long, 2) := by decide +kernel
theorem dX5_init_9 : decode cX5_init 9 = .ok (.putfield 9, 3) := by decide +kernel
theorem dX5_init_12 : decode cX5_init 12 = .ok (.aload_n 0, 1) := by decide +kernel
theorem dX5_init_13 : decode cX5_init 13 = .ok (.bipush 20, 2) := by decide +kernel
theorem dX5_init_15 : decode cX5_init 15 = .ok (.newarray .int, 2) := by decide +kernel
theorem dX5_init_17 : decode cX5_init 17 = .ok (.putfield 15, 3) := by decide +kernel
theorem dX5_init_20 : decode cX5_init 20 = .ok (.aload_n 0, 1) := by decide +kernel
theorem dX5_init_21 : decode cX5_init 21 = .ok (.bipush 20, 2) := by decide +kernel
theorem dX5_init_23 : decode cX5_init 23 = .ok (.newarray .int, 2) := by decide +kernel
theorem dX5_init_25 : decode cX5_init 25 = .ok (.putfield 19, 3) := by decide +kernel
theorem dX5_init_28 : decode cX5_init 28 = .ok (.aload_n 0, 1) := by decide +kernel
theorem dX5_init_29 : decode cX5_init 29 = .ok (.bipush 20, 2) := by decide +kernel
theorem dX5_init_31 : decode cX5_init 31 = .ok (.newarray .int, 2) := by decide +kernel
theorem dX5_init_33 : decode cX5_init 33 = .ok (.putfield 22, 3) := by decide +kernel
theorem dX5_init_36 : decode cX5_init 36 = .ok (.aload_n 0, 1) := by decide +kernel
theorem dX5_init_37 : decode cX5_init 37 = .ok (.bipush 20, 2) := by decide +kernel
theorem dX5_init_39 : decode cX5_init 39 = .ok (.newarray .int, 2) := by decide +kernel
theorem dX5_init_41 : decode cX5_init 41 = .ok (.putfield 25, 3) := by decide +kernel
theorem dX5_init_44 : decode cX5_init 44 = .ok (.aload_n 0, 1) := by decide +kernel
theorem dX5_init_45 : decode cX5_init 45 = .ok (.bipush 20, 2) := by decide +kernel
theorem dX5_init_47 : decode cX5_init 47 = .ok (.newarray .int, 2) := by decide +kernel
theorem dX5_init_49 : decode cX5_init 49 = .ok (.putfield 28, 3) := by decide +kernel
theorem dX5_init_52 : decode cX5_init 52 = .ok (.aload_n 0, 1) := by decide +kernel
theorem dX5_init_53 : decode cX5_init 53 = .ok (.bipush 20, 2) := by decide +kernel
theorem dX5_init_55 : decode cX5_init 55 = .ok (.newarray .int, 2) := by decide +kernel
theorem dX5_init_57 : decode cX5_init 57 = .ok (.putfield 31, 3) := by decide +kernel
theorem dX5_init_60 : decode cX5_init 60 = .ok (.aload_n 0, 1) := by decide +kernel
theorem dX5_init_61 : decode cX5_init 61 = .ok (.bipush 20, 2) := by decide +kernel
theorem dX5_init_63 : decode cX5_init 63 = .ok (.newarray .int, 2) := by decide +kernel
theorem dX5_init_65 : decode cX5_init 65 = .ok (.putfield 34, 3) := by decide +kernel
theorem dX5_init_68 : decode cX5_init 68 = .ok (.aload_n 0, 1) := by decide +kernel
theorem dX5_init_69 : decode cX5_init 69 = .ok (.new 37, 3) := by decide +kernel
theorem dX5_init_72 : decode cX5_init 72 = .ok (.dup, 1) := by decide +kernel
theorem dX5_init_73 : decode cX5_init 73 = .ok (.invokespecial 39, 3) := by decide +kernel
theorem dX5_init_76 : decode cX5_init 76 = .ok (.putfield 40, 3) := by decide +kernel
theorem dX5_init_79 : decode cX5_init 79 = .ok (.return_, 1) := by decide +kernel
theorem dX5_prepare_0 : decode cX5_prepare 0 = .ok (.aload_n 0, 1) := by decide +kernel
theorem dX5_prepare_1 : decode cX5_prepare 1 = .ok (.aload_n 1, 1) := by decide +kernel
theorem dX5_prepare_2 : decode cX5_prepare 2 = .ok (.getfield 44, 3) := by decide +kernel
theorem dX5_prepare_5 : decode cX5_prepare 5 = .ok (.iconst 0, 1) := by decide +kernel
theorem dX5_prepare_6 : decode cX5_prepare 6 = .ok (.iaload, 1) := by decide +kernel
theorem dX5_prepare_7 : decode cX5_prepare 7 = .ok (.putfield 49, 3) := by decide +kernel
theorem dX5_prepare_10 : decode cX5_prepare 10 = .ok (.aload_n 0, 1) := by decide +kernel
theorem dX5_prepare_11 : decode cX5_prepare 11 = .ok (.aload_n 1, 1) := by decide +kernel
theorem dX5_prepare_12 : decode cX5_prepare 12 = .ok (.getfield 44, 3) := by decide +kernel
theorem dX5_prepare_15 : decode cX5_prepare 15 = .ok (.iconst 3, 1) := by decide +kernel
theorem dX5_prepare_16 : decode cX5_prepare 16 = .ok (.iaload, 1) := by decide +kernel
theorem dX5_prepare_17 : decode cX5_prepare 17 = .ok (.putfield 53, 3) := by decide +kernel
theorem dX5_prepare_20 : decode cX5_prepare 20 = .ok (.iconst 0, 1) := by decide +kernel
theorem dX5_prepare_21 : decode cX5_prepare 21 = .ok (.istore_n 2, 1) := by decide +kernel
theorem dX5_prepare_22 : decode cX5_prepare 22 = .ok (.iload_n 2, 1) := by decide +kernel
theorem dX5_prepare_23 : decode cX5_prepare 23 = .ok (.bipush 20, 2) := by decide +kernel
theorem dX5_prepare_25 : decode cX5_prepare 25 = .ok (.if_icmp .ge 21, 3) := by decide +kernel
theorem dX5_prepare_28 : decode cX5_prepare 28 = .ok (.aload_n 0, 1) := by decide +kernel
theorem dX5_prepare_29 : decode cX5_prepare 29 = .ok (.getfield 28, 3) := by decide +kernel
theorem dX5_prepare_32 : decode cX5_prepare 32 = .ok (.iload_n 2, 1) := by decide +kernel
theorem dX5_prepare_33 : decode cX5_prepare 33 = .ok (.aload_n 1, 1) := by decide +kernel
theorem dX5_prepare_34 : decode cX5_prepare 34 = .ok (.getfield 56, 3) := by decide +kernel
theorem dX5_prepare_37 : decode cX5_prepare 37 = .ok (.iload_n 2, 1) := by decide +kernel
theorem dX5_prepare_38 : decode cX5_prepare 38 = .ok (.iaload, 1) := by decide +kernel
theorem dX5_prepare_39 : decode cX5_prepare 39 = .ok (.iastore, 1) := by decide +kernel
theorem dX5_prepare_40 : decode cX5_prepare 40 = .ok (.iinc 2 1, 3) := by decide +kernel
theorem dX5_prepare_43 : decode cX5_prepare 43 = .ok (.goto (-21), 3) := by decide +kernel
theorem dX5_prepare_46 : decode cX5_prepare 46 = .ok (.iconst 0, 1) := by decide +kernel
theorem dX5_prepare_47 : decode cX5_prepare 47 = .ok (.istore_n 2, 1) := by decide +kernel
theorem dX5_prepare_48 : decode cX5_prepare 48 = .ok (.iload_n 2, 1) := by decide +kernel
theorem dX5_prepare_49 : decode cX5_prepare 49 = .ok (.aload_n 1, 1) := by decide +kernel
theorem dX5_prepare_50 : decode cX5_prepare 50 = .ok (.getfield 57, 3) := by decide +kernel
theorem dX5_prepare_53 : decode cX5_prepare 53 = .ok (.if_icmp .ge 69, 3) := by decide +kernel
theorem dX5_prepare_56 : decode cX5_prepare 56 = .ok (.iload_n 2, 1) := by decide +kernel
theorem dX5_prepare_57 : decode cX5_prepare 57 = .ok (.bipush 20, 2) := by decide +kernel
theorem dX5_prepare_59 : decode cX5_prepare 59 = .ok (.if_icmp .ge 63, 3) := by decide +kernel
theorem dX5_prepare_62 : decode cX5_prepare 62 = .ok (.aload_n 0, 1) := by decide +kernel
theorem dX5_prepare_63 : decode cX5_prepare 63 = .ok (.getfield 40, 3) := by decide +kernel
theorem dX5_prepare_66 : decode cX5_prepare 66 = .ok (.aload_n 1, 1) := by decide +kernel
theorem dX5_prepare_67 : decode cX5_prepare 67 = .ok (.iload_n 2, 1) := by decide +kernel
theorem dX5_prepare_68 : decode cX5_prepare 68 = .ok (.invokevirtual 60, 3) := by decide +kernel
theorem dX5_prepare_71 : decode cX5_prepare 71 = .ok (.aload_n 1, 1) := by decide +kernel
theorem dX5_prepare_72 : decode cX5_prepare 72 = .ok (.iload_n 2, 1) := by decide +kernel
theorem dX5_prepare_73 : decode cX5_prepare 73 = .ok (.iconst 1, 1) := by decide +kernel
theorem dX5_prepare_74 : decode cX5_prepare 74 = .ok (.isub, 1) := by decide +kernel
theorem dX5_prepare_75 : decode cX5_prepare 75 = .ok (.invokevirtual 60, 3) := by decide +kernel
theorem dX5_prepare_78 : decode cX5_prepare 78 = .ok (.aload_n 1, 1) := by decide +kernel
theorem dX5_prepare_79 : decode cX5_prepare 79 = .ok (.getfield 64, 3) := by decide +kernel
theorem dX5_prepare_82 : decode cX5_prepare 82 = .ok (.invokevirtual 67, 3) := by decide +kernel
theorem dX5_prepare_85 : decode cX5_prepare 85 = .ok (.aload_n 0, 1) := by decide +kernel
theorem dX5_prepare_86 : decode cX5_prepare 86 = .ok (.getfield 34, 3) := by decide +kernel
theorem dX5_prepare_89 : decode cX5_prepare 89 = .ok (.iload_n 2, 1) := by decide +kernel
theorem dX5_prepare_90 : decode cX5_prepare 90 = .ok (.aload_n 0, 1) := by decide +kernel
theorem dX5_prepare_91 : decode cX5_prepare 91 = .ok (.getfield 40, 3) := by decide +kernel
theorem dX5_prepare_94 : decode cX5_prepare 94 = .ok (.getfield 71, 3) := by decide +kernel
theorem dX5_prepare_97 : decode cX5_prepare 97 = .ok (.iastore, 1) := by decide +kernel
theorem dX5_prepare_98 : decode cX5_prepare 98 = .ok (.aload_n 0, 1) := by decide +kernel
theorem dX5_prepare_99 : decode cX5_prepare 99 = .ok (.getfield 31, 3) := by decide +kernel
theorem dX5_prepare_102 : decode cX5_prepare 102 = .ok (.iload_n 2, 1) := by decide +kernel
theorem dX5_prepare_103 : decode cX5_prepare 103 = .ok (.aload_n 1, 1) := by decide +kernel
theorem dX5_prepare_104 : decode cX5_prepare 104 = .ok (.iload_n 2, 1) := by decide +kernel
theorem dX5_prepare_105 : decode cX5_prepare 105 = .ok (.invokevirtual 60, 3) := by decide +kernel
theorem dX5_prepare_108 : decode cX5_prepare 108 = .ok (.aload_n 1, 1) := by decide +kernel
theorem dX5_prepare_109 : decode cX5_prepare 109 = .ok (.getfield 64, 3) := by decide +kernel
theorem dX5_prepare_112 : decode cX5_prepare 112 = .ok (.invokestatic 74, 3) := by decide +kernel
theorem dX5_prepare_115 : decode cX5_prepare 115 = .ok (.iastore, 1) := by decide +kernel
theorem dX5_prepare_116 : decode cX5_prepare 116 = .ok (.iinc 2 1, 3) := by decide +kernel
theorem dX5_prepare_119 : decode cX5_prepare 119 = .ok (.goto (-71), 3) := by decide +kernel
theorem dX5_prepare_122 : decode cX5_prepare 122 = .ok (.return_, 1) := by decide +kernel
theorem dX5_loseOnly_0 : decode cX5_loseOnly 0 = .ok (.aload_n 0, 1) := by decide +kernel
theorem dX5_loseOnly_1 : decode cX5_loseOnly 1 = .ok (.iconst 0, 1) := by decide +kernel
theorem dX5_loseOnly_2 : decode cX5_loseOnly 2 = .ok (.putfield 53, 3) := by decide +kernel
theorem dX5_loseOnly_5 : decode cX5_loseOnly 5 = .ok (.iconst 0, 1) := by decide +kernel
theorem dX5_loseOnly_6 : decode cX5_loseOnly 6 = .ok (.istore_n 2, 1) := by decide +kernel
theorem dX5_loseOnly_7 : decode cX5_loseOnly 7 = .ok (.iload_n 2, 1) := by decide +kernel
theorem dX5_loseOnly_8 : decode cX5_loseOnly 8 = .ok (.bipush 20, 2) := by decide +kernel
theorem dX5_loseOnly_10 : decode cX5_loseOnly 10 = .ok (.if_icmp .ge 25, 3) := by decide +kernel
theorem dX5_loseOnly_13 : decode cX5_loseOnly 13 = .ok (.aload_n 0, 1) := by decide +kernel
theorem dX5_loseOnly_14 : decode cX5_loseOnly 14 = .ok (.getfield 28, 3) := by decide +kernel
theorem dX5_loseOnly_17 : decode cX5_loseOnly 17 = .ok (.iload_n 2, 1) := by decide +kernel
theorem dX5_loseOnly_18 : decode cX5_loseOnly 18 = .ok (.iload_n 2, 1) := by decide +kernel
theorem dX5_loseOnly_19 : decode cX5_loseOnly 19 = .ok (.iload_n 1, 1) := by decide +kernel
theorem dX5_loseOnly_20 : decode cX5_loseOnly 20 = .ok (.if_icmp .ne 7, 3) := by decide +kernel
theorem dX5_loseOnly_23 : decode cX5_loseOnly 23 = .ok (.iconst 1, 1) := by decide +kernel
theorem dX5_loseOnly_24 : decode cX5_loseOnly 24 = .ok (.goto 4, 3) := by decide +kernel
theorem dX5_loseOnly_27 : decode cX5_loseOnly 27 = .ok (.iconst 0, 1) := by decide +kernel
theorem dX5_loseOnly_28 : decode cX5_loseOnly 28 = .ok (.iastore, 1) := by decide +kernel
theorem dX5_loseOnly_29 : decode cX5_loseOnly 29 = .ok (.iinc 2 1, 3) := by decide +kernel
theorem dX5_loseOnly_32 : decode cX5_loseOnly 32 = .ok (.goto (-25), 3) := by decide +kernel
theorem dX5_loseOnly_35 : decode cX5_loseOnly 35 = .ok (.return_, 1) := by decide +kernel
theorem dX5_sendPage_0 : decode cX5_sendPage 0 = .ok (.aload_n 0, 1) := by decide +kernel
theorem dX5_sendPage_1 : decode cX5_sendPage 1 = .ok (.invokevirtual 78, 3) := by decide +kernel
theorem dX5_sendPage_4 : decode cX5_sendPage 4 = .ok (.iconst 0, 1) := by decide +kernel
theorem dX5_sendPage_5 : decode cX5_sendPage 5 = .ok (.istore_n 2, 1) := by decide +kernel
theorem dX5_sendPage_6 : decode cX5_sendPage 6 = .ok (.sipush 1000, 3) := by decide +kernel
theorem dX5_sendPage_9 : decode cX5_sendPage 9 = .ok (.istore_n 3, 1) := by decide +kernel
theorem dX5_sendPage_10 : decode cX5_sendPage 10 = .ok (.iload_n 3, 1) := by decide +kernel
theorem dX5_sendPage_11 : decode cX5_sendPage 11 = .ok (.ifCond .le 24, 3) := by decide +kernel
theorem dX5_sendPage_14 : decode cX5_sendPage 14 = .ok (.aload_n 1, 1) := by decide +kernel
theorem dX5_sendPage_15 : decode cX5_sendPage 15 = .ok (.iload_n 2, 1) := by decide +kernel
theorem dX5_sendPage_16 : decode cX5_sendPage 16 = .ok (.invokevirtual 81, 3) := by decide +kernel
theorem dX5_sendPage_19 : decode cX5_sendPage 19 = .ok (.ifCond .eq 16, 3) := by decide +kernel
theorem dX5_sendPage_22 : decode cX5_sendPage 22 = .ok (.aload_n 0, 1) := by decide +kernel
theorem dX5_sendPage_23 : decode cX5_sendPage 23 = .ok (.aload_n 1, 1) := by decide +kernel
theorem dX5_sendPage_24 : decode cX5_sendPage 24 = .ok (.iload_n 2, 1) := by decide +kernel
theorem dX5_sendPage_25 : decode cX5_sendPage 25 = .ok (.invokevirtual 85, 3) := by decide +kernel
theorem dX5_sendPage_28 : decode cX5_sendPage 28 = .ok (.istore_n 2, 1) := by decide +kernel
theorem dX5_sendPage_29 : decode cX5_sendPage 29 = .ok (.iinc 3 (-1), 3) := by decide +kernel
theorem dX5_sendPage_32 : decode cX5_sendPage 32 = .ok (.goto (-22), 3) := by decide +kernel
theorem dX5_sendPage_35 : decode cX5_sendPage 35 = .ok (.return_, 1) := by decide +kernel
theorem dX5_clear_0 : decode cX5_clear 0 = .ok (.aload_n 0, 1) := by decide +kernel
theorem dX5_clear_1 : decode cX5_clear 1 = .ok (.iconst 0, 1) := by decide +kernel
theorem dX5_clear_2 : decode cX5_clear 2 = .ok (.putfield 89, 3) := by decide +kernel
theorem dX5_clear_5 : decode cX5_clear 5 = .ok (.aload_n 0, 1) := by decide +kernel
theorem dX5_clear_6 : decode cX5_clear 6 = .ok (.iconst 0, 1) := by decide +kernel
theorem dX5_clear_7 : decode cX5_clear 7 = .ok (.putfield 90, 3) := by decide +kernel
theorem dX5_clear_10 : decode cX5_clear 10 = .ok (.aload_n 0, 1) := by decide +kernel
theorem dX5_clear_11 : decode cX5_clear 11 = .ok (.iconst 0, 1) := by decide +kernel
theorem dX5_clear_12 : decode cX5_clear 12 = .ok (.putfield 93, 3) := by decide +kernel
theorem dX5_clear_15 : decode cX5_clear 15 = .ok (.aload_n 0, 1) := by decide +kernel
theorem dX5_clear_16 : decode cX5_clear 16 = .ok (.iconst 0, 1) := by decide +kernel
theorem dX5_clear_17 : decode cX5_clear 17 = .ok (.putfield 96, 3) := by decide +kernel
theorem dX5_clear_20 : decode cX5_clear 20 = .ok (.aload_n 0, 1) := by decide +kernel
theorem dX5_clear_21 : decode cX5_clear 21 = .ok (.iconst 0, 1) := by decide +kernel
theorem dX5_clear_22 : decode cX5_clear 22 = .ok (.putfield 99, 3) := by decide +kernel
theorem dX5_clear_25 : decode cX5_clear 25 = .ok (.iconst 0, 1) := by decide +kernel
theorem dX5_clear_26 : decode cX5_clear 26 = .ok (.istore_n 1, 1) := by decide +kernel
theorem dX5_clear_27 : decode cX5_clear 27 = .ok (.iload_n 1, 1) := by decide +kernel
theorem dX5_clear_28 : decode cX5_clear 28 = .ok (.bipush 20, 2) := by decide +kernel
theorem dX5_clear_30 : decode cX5_clear 30 = .ok (.if_icmp .ge 44, 3) := by decide +kernel
theorem dX5_clear_33 : decode cX5_clear 33 = .ok (.aload_n 0, 1) := by decide +kernel
theorem dX5_clear_34 : decode cX5_clear 34 = .ok (.getfield 9, 3) := by decide +kernel
theorem dX5_clear_37 : decode cX5_clear 37 = .ok (.iload_n 1, 1) := by decide +kernel
theorem dX5_clear_38 : decode cX5_clear 38 = .ok (.lconst 0, 1) := by decide +kernel
theorem dX5_clear_39 : decode cX5_clear 39 = .ok (.lastore, 1) := by decide +kernel
theorem dX5_clear_40 : decode cX5_clear 40 = .ok (.aload_n 0, 1) := by decide +kernel
theorem dX5_clear_41 : decode cX5_clear 41 = .ok (.getfield 15, 3) := by decide +kernel
theorem dX5_clear_44 : decode cX5_clear 44 = .ok (.iload_n 1, 1) := by decide +kernel
theorem dX5_clear_45 : decode cX5_clear 45 = .ok (.iconst 0, 1) := by decide +kernel
theorem dX5_clear_46 : decode cX5_clear 46 = .ok (.iastore, 1) := by decide +kernel
theorem dX5_clear_47 : decode cX5_clear 47 = .ok (.aload_n 0, 1) := by decide +kernel
theorem dX5_clear_48 : decode cX5_clear 48 = .ok (.getfield 19, 3) := by decide +kernel
theorem dX5_clear_51 : decode cX5_clear 51 = .ok (.iload_n 1, 1) := by decide +kernel
theorem dX5_clear_52 : decode cX5_clear 52 = .ok (.iconst 0, 1) := by decide +kernel
theorem dX5_clear_53 : decode cX5_clear 53 = .ok (.iastore, 1) := by decide +kernel
theorem dX5_clear_54 : decode cX5_clear 54 = .ok (.aload_n 0, 1) := by decide +kernel
theorem dX5_clear_55 : decode cX5_clear 55 = .ok (.getfield 22, 3) := by decide +kernel
theorem dX5_clear_58 : decode cX5_clear 58 = .ok (.iload_n 1, 1) := by decide +kernel
theorem dX5_clear_59 : decode cX5_clear 59 = .ok (.iconst 0, 1) := by decide +kernel
theorem dX5_clear_60 : decode cX5_clear 60 = .ok (.iastore, 1) := by decide +kernel
theorem dX5_clear_61 : decode cX5_clear 61 = .ok (.aload_n 0, 1) := by decide +kernel
theorem dX5_clear_62 : decode cX5_clear 62 = .ok (.getfield 25, 3) := by decide +kernel
theorem dX5_clear_65 : decode cX5_clear 65 = .ok (.iload_n 1, 1) := by decide +kernel
theorem dX5_clear_66 : decode cX5_clear 66 = .ok (.iconst 0, 1) := by decide +kernel
theorem dX5_clear_67 : decode cX5_clear 67 = .ok (.iastore, 1) := by decide +kernel
theorem dX5_clear_68 : decode cX5_clear 68 = .ok (.iinc 1 1, 3) := by decide +kernel
theorem dX5_clear_71 : decode cX5_clear 71 = .ok (.goto (-44), 3) := by decide +kernel
theorem dX5_clear_74 : decode cX5_clear 74 = .ok (.return_, 1) := by decide +kernel
theorem dX5_sendOne_0 : decode cX5_sendOne 0 = .ok (.aload_n 0, 1) := by decide +kernel
theorem dX5_sendOne_1 : decode cX5_sendOne 1 = .ok (.aload_n 1, 1) := by decide +kernel
theorem dX5_sendOne_2 : decode cX5_sendOne 2 = .ok (.iload_n 2, 1) := by decide +kernel
theorem dX5_sendOne_3 : decode cX5_sendOne 3 = .ok (.invokevirtual 102, 3) := by decide +kernel
theorem dX5_sendOne_6 : decode cX5_sendOne 6 = .ok (.istore_n 3, 1) := by decide +kernel
theorem dX5_sendOne_7 : decode cX5_sendOne 7 = .ok (.aload_n 1, 1) := by decide +kernel
theorem dX5_sendOne_8 : decode cX5_sendOne 8 = .ok (.getfield 44, 3) := by decide +kernel
theorem dX5_sendOne_11 : decode cX5_sendOne 11 = .ok (.iconst 4, 1) := by decide +kernel
theorem dX5_sendOne_12 : decode cX5_sendOne 12 = .ok (.iaload, 1) := by decide +kernel
theorem dX5_sendOne_13 : decode cX5_sendOne 13 = .ok (.iload_n 3, 1) := by decide +kernel
theorem dX5_sendOne_14 : decode cX5_sendOne 14 = .ok (.ifCond .eq 12, 3) := by decide +kernel
theorem dX5_sendOne_17 : decode cX5_sendOne 17 = .ok (.aload_n 0, 1) := by decide +kernel
theorem dX5_sendOne_18 : decode cX5_sendOne 18 = .ok (.getfield 31, 3) := by decide +kernel
theorem dX5_sendOne_21 : decode cX5_sendOne 21 = .ok (.iload_n 2, 1) := by decide +kernel
theorem dX5_sendOne_22 : decode cX5_sendOne 22 = .ok (.iaload, 1) := by decide +kernel
theorem dX5_sendOne_23 : decode cX5_sendOne 23 = .ok (.goto 9, 3) := by decide +kernel
theorem dX5_sendOne_26 : decode cX5_sendOne 26 = .ok (.aload_n 0, 1) := by decide +kernel
theorem dX5_sendOne_27 : decode cX5_sendOne 27 = .ok (.getfield 34, 3) := by decide +kernel
theorem dX5_sendOne_30 : decode cX5_sendOne 30 = .ok (.iload_n 2, 1) := by decide +kernel
theorem dX5_sendOne_31 : decode cX5_sendOne 31 = .ok (.iaload, 1) := by decide +kernel
theorem dX5_sendOne_32 : decode cX5_sendOne 32 = .ok (.iadd, 1) := by decide +kernel
theorem dX5_sendOne_33 : decode cX5_sendOne 33 = .ok (.istore 4, 2) := by decide +kernel
theorem dX5_sendOne_35 : decode cX5_sendOne 35 = .ok (.aload_n 0, 1) := by decide +kernel
theorem dX5_sendOne_36 : decode cX5_sendOne 36 = .ok (.dup, 1) := by decide +kernel
theorem dX5_sendOne_37 : decode cX5_sendOne 37 = .ok (.getfield 90, 3) := by decide +kernel
theorem dX5_sendOne_40 : decode cX5_sendOne 40 = .ok (.iconst 1, 1) := by decide +kernel
theorem dX5_sendOne_41 : decode cX5_sendOne 41 = .ok (.iadd, 1) := by decide +kernel
theorem dX5_sendOne_42 : decode cX5_sendOne 42 = .ok (.putfield 90, 3) := by decide +kernel
theorem dX5_sendOne_45 : decode cX5_sendOne 45 = .ok (.aload_n 0, 1) := by decide +kernel
theorem dX5_sendOne_46 : decode cX5_sendOne 46 = .ok (.getfield 19, 3) := by decide +kernel
theorem dX5_sendOne_49 : decode cX5_sendOne 49 = .ok (.iload_n 2, 1) := by decide +kernel
theorem dX5_sendOne_50 : decode cX5_sendOne 50 = .ok (.dup2, 1) := by decide +kernel
theorem dX5_sendOne_51 : decode cX5_sendOne 51 = .ok (.iaload, 1) := by decide +kernel
theorem dX5_sendOne_52 : decode cX5_sendOne 52 = .ok (.iconst 1, 1) := by decide +kernel
theorem dX5_sendOne_53 : decode cX5_sendOne 53 = .ok (.iadd, 1) := by decide +kernel
theorem dX5_sendOne_54 : decode cX5_sendOne 54 = .ok (.iastore, 1) := by decide +kernel
theorem dX5_sendOne_55 : decode cX5_sendOne 55 = .ok (.aload_n 0, 1) := by decide +kernel
theorem dX5_sendOne_56 : decode cX5_sendOne 56 = .ok (.getfield 22, 3) := by decide +kernel
theorem dX5_sendOne_59 : decode cX5_sendOne 59 = .ok (.iload_n 2, 1) := by decide +kernel
theorem dX5_sendOne_60 : decode cX5_sendOne 60 = .ok (.dup2, 1) := by decide +kernel
theorem dX5_sendOne_61 : decode cX5_sendOne 61 = .ok (.iaload, 1) := by decide +kernel
theorem dX5_sendOne_62 : decode cX5_sendOne 62 = .ok (.iload 4, 2) := by decide +kernel
theorem dX5_sendOne_64 : decode cX5_sendOne 64 = .ok (.iadd, 1) := by decide +kernel
theorem dX5_sendOne_65 : decode cX5_sendOne 65 = .ok (.iastore, 1) := by decide +kernel
theorem dX5_sendOne_66 : decode cX5_sendOne 66 = .ok (.aload_n 0, 1) := by decide +kernel
theorem dX5_sendOne_67 : decode cX5_sendOne 67 = .ok (.dup, 1) := by decide +kernel
theorem dX5_sendOne_68 : decode cX5_sendOne 68 = .ok (.getfield 89, 3) := by decide +kernel
theorem dX5_sendOne_71 : decode cX5_sendOne 71 = .ok (.iload 4, 2) := by decide +kernel
theorem dX5_sendOne_73 : decode cX5_sendOne 73 = .ok (.iadd, 1) := by decide +kernel
theorem dX5_sendOne_74 : decode cX5_sendOne 74 = .ok (.putfield 89, 3) := by decide +kernel
theorem dX5_sendOne_77 : decode cX5_sendOne 77 = .ok (.aload_n 0, 1) := by decide +kernel
theorem dX5_sendOne_78 : decode cX5_sendOne 78 = .ok (.getfield 19, 3) := by decide +kernel
theorem dX5_sendOne_81 : decode cX5_sendOne 81 = .ok (.iload_n 2, 1) := by decide +kernel
theorem dX5_sendOne_82 : decode cX5_sendOne 82 = .ok (.iaload, 1) := by decide +kernel
theorem dX5_sendOne_83 : decode cX5_sendOne 83 = .ok (.aload_n 0, 1) := by decide +kernel
theorem dX5_sendOne_84 : decode cX5_sendOne 84 = .ok (.getfield 28, 3) := by decide +kernel
theorem dX5_sendOne_87 : decode cX5_sendOne 87 = .ok (.iload_n 2, 1) := by decide +kernel
theorem dX5_sendOne_88 : decode cX5_sendOne 88 = .ok (.iaload, 1) := by decide +kernel
theorem dX5_sendOne_89 : decode cX5_sendOne 89 = .ok (.if_icmp .gt 7, 3) := by decide +kernel
theorem dX5_sendOne_92 : decode cX5_sendOne 92 = .ok (.iconst 1, 1) := by decide +kernel
theorem dX5_sendOne_93 : decode cX5_sendOne 93 = .ok (.goto 4, 3) := by decide +kernel
theorem dX5_sendOne_96 : decode cX5_sendOne 96 = .ok (.iconst 0, 1) := by decide +kernel
theorem dX5_sendOne_97 : decode cX5_sendOne 97 = .ok (.istore 5, 2) := by decide +kernel
theorem dX5_sendOne_99 : decode cX5_sendOne 99 = .ok (.iload 5, 2) := by decide +kernel
theorem dX5_sendOne_101 : decode cX5_sendOne 101 = .ok (.ifCond .eq 9, 3) := by decide +kernel
theorem dX5_sendOne_104 : decode cX5_sendOne 104 = .ok (.ldc2_w 106, 3) := by decide +kernel
theorem dX5_sendOne_107 : decode cX5_sendOne 107 = .ok (.goto 21, 3) := by decide +kernel
theorem dX5_sendOne_110 : decode cX5_sendOne 110 = .ok (.iload_n 3, 1) := by decide +kernel
theorem dX5_sendOne_111 : decode cX5_sendOne 111 = .ok (.ifCond .eq 11, 3) := by decide +kernel
theorem dX5_sendOne_114 : decode cX5_sendOne 114 = .ok (.aload_n 1, 1) := by decide +kernel
theorem dX5_sendOne_115 : decode cX5_sendOne 115 = .ok (.iload_n 2, 1) := by decide +kernel
theorem dX5_sendOne_116 : decode cX5_sendOne 116 = .ok (.invokevirtual 60, 3) := by decide +kernel
theorem dX5_sendOne_119 : decode cX5_sendOne 119 = .ok (.goto 9, 3) := by decide +kernel
theorem dX5_sendOne_122 : decode cX5_sendOne 122 = .ok (.aload_n 0, 1) := by decide +kernel
theorem dX5_sendOne_123 : decode cX5_sendOne 123 = .ok (.aload_n 1, 1) := by decide +kernel
theorem dX5_sendOne_124 : decode cX5_sendOne 124 = .ok (.iload_n 2, 1) := by decide +kernel
theorem dX5_sendOne_125 : decode cX5_sendOne 125 = .ok (.invokevirtual 108, 3) := by decide +kernel
theorem dX5_sendOne_128 : decode cX5_sendOne 128 = .ok (.lstore 6, 2) := by decide +kernel
theorem dX5_sendOne_130 : decode cX5_sendOne 130 = .ok (.lload 6, 2) := by decide +kernel
theorem dX5_sendOne_132 : decode cX5_sendOne 132 = .ok (.ldc2_w 106, 3) := by decide +kernel
theorem dX5_sendOne_135 : decode cX5_sendOne 135 = .ok (.lcmp, 1) := by decide +kernel
theorem dX5_sendOne_136 : decode cX5_sendOne 136 = .ok (.ifCond .eq 37, 3) := by decide +kernel
theorem dX5_sendOne_139 : decode cX5_sendOne 139 = .ok (.aload_n 0, 1) := by decide +kernel
theorem dX5_sendOne_140 : decode cX5_sendOne 140 = .ok (.getfield 9, 3) := by decide +kernel
theorem dX5_sendOne_143 : decode cX5_sendOne 143 = .ok (.iload_n 2, 1) := by decide +kernel
theorem dX5_sendOne_144 : decode cX5_sendOne 144 = .ok (.lload 6, 2) := by decide +kernel
theorem dX5_sendOne_146 : decode cX5_sendOne 146 = .ok (.lastore, 1) := by decide +kernel
theorem dX5_sendOne_147 : decode cX5_sendOne 147 = .ok (.aload_n 0, 1) := by decide +kernel
theorem dX5_sendOne_148 : decode cX5_sendOne 148 = .ok (.getfield 15, 3) := by decide +kernel
theorem dX5_sendOne_151 : decode cX5_sendOne 151 = .ok (.iload_n 2, 1) := by decide +kernel
theorem dX5_sendOne_152 : decode cX5_sendOne 152 = .ok (.lload 6, 2) := by decide +kernel
theorem dX5_sendOne_154 : decode cX5_sendOne 154 = .ok (.aload_n 1, 1) := by decide +kernel
theorem dX5_sendOne_155 : decode cX5_sendOne 155 = .ok (.iload_n 2, 1) := by decide +kernel
theorem dX5_sendOne_156 : decode cX5_sendOne 156 = .ok (.invokevirtual 60, 3) := by decide +kernel
theorem dX5_sendOne_159 : decode cX5_sendOne 159 = .ok (.lcmp, 1) := by decide +kernel
theorem dX5_sendOne_160 : decode cX5_sendOne 160 = .ok (.ifCond .ne 7, 3) := by decide +kernel
theorem dX5_sendOne_163 : decode cX5_sendOne 163 = .ok (.iconst 0, 1) := by decide +kernel
theorem dX5_sendOne_164 : decode cX5_sendOne 164 = .ok (.goto 4, 3) := by decide +kernel
theorem dX5_sendOne_167 : decode cX5_sendOne 167 = .ok (.iconst 3, 1) := by decide +kernel
theorem dX5_sendOne_168 : decode cX5_sendOne 168 = .ok (.iastore, 1) := by decide +kernel
theorem dX5_sendOne_169 : decode cX5_sendOne 169 = .ok (.iload_n 2, 1) := by decide +kernel
theorem dX5_sendOne_170 : decode cX5_sendOne 170 = .ok (.iconst 1, 1) := by decide +kernel
theorem dX5_sendOne_171 : decode cX5_sendOne 171 = .ok (.iadd, 1) := by decide +kernel
theorem dX5_sendOne_172 : decode cX5_sendOne 172 = .ok (.ireturn, 1) := by decide +kernel
theorem dX5_sendOne_173 : decode cX5_sendOne 173 = .ok (.iload 5, 2) := by decide +kernel
theorem dX5_sendOne_175 : decode cX5_sendOne 175 = .ok (.ifCond .eq 16, 3) := by decide +kernel
theorem dX5_sendOne_178 : decode cX5_sendOne 178 = .ok (.aload_n 0, 1) := by decide +kernel
theorem dX5_sendOne_179 : decode cX5_sendOne 179 = .ok (.dup, 1) := by decide +kernel
theorem dX5_sendOne_180 : decode cX5_sendOne 180 = .ok (.getfield 96, 3) := by decide +kernel
theorem dX5_sendOne_183 : decode cX5_sendOne 183 = .ok (.iconst 1, 1) := by decide +kernel
theorem dX5_sendOne_184 : decode cX5_sendOne 184 = .ok (.iadd, 1) := by decide +kernel
theorem dX5_sendOne_185 : decode cX5_sendOne 185 = .ok (.putfield 96, 3) := by decide +kernel
theorem dX5_sendOne_188 : decode cX5_sendOne 188 = .ok (.goto 13, 3) := by decide +kernel
theorem dX5_sendOne_191 : decode cX5_sendOne 191 = .ok (.aload_n 0, 1) := by decide +kernel
theorem dX5_sendOne_192 : decode cX5_sendOne 192 = .ok (.dup, 1) := by decide +kernel
theorem dX5_sendOne_193 : decode cX5_sendOne 193 = .ok (.getfield 99, 3) := by decide +kernel
theorem dX5_sendOne_196 : decode cX5_sendOne 196 = .ok (.iconst 1, 1) := by decide +kernel
theorem dX5_sendOne_197 : decode cX5_sendOne 197 = .ok (.iadd, 1) := by decide +kernel
theorem dX5_sendOne_198 : decode cX5_sendOne 198 = .ok (.putfield 99, 3) := by decide +kernel
theorem dX5_sendOne_201 : decode cX5_sendOne 201 = .ok (.aload_n 0, 1) := by decide +kernel
theorem dX5_sendOne_202 : decode cX5_sendOne 202 = .ok (.getfield 93, 3) := by decide +kernel
theorem dX5_sendOne_205 : decode cX5_sendOne 205 = .ok (.aload_n 0, 1) := by decide +kernel
theorem dX5_sendOne_206 : decode cX5_sendOne 206 = .ok (.getfield 53, 3) := by decide +kernel
theorem dX5_sendOne_209 : decode cX5_sendOne 209 = .ok (.if_icmp .ge 10, 3) := by decide +kernel
theorem dX5_sendOne_212 : decode cX5_sendOne 212 = .ok (.aload_n 0, 1) := by decide +kernel
theorem dX5_sendOne_213 : decode cX5_sendOne 213 = .ok (.aload_n 1, 1) := by decide +kernel
theorem dX5_sendOne_214 : decode cX5_sendOne 214 = .ok (.iload_n 2, 1) := by decide +kernel
theorem dX5_sendOne_215 : decode cX5_sendOne 215 = .ok (.invokevirtual 112, 3) := by decide +kernel
theorem dX5_sendOne_218 : decode cX5_sendOne 218 = .ok (.ireturn, 1) := by decide +kernel
theorem dX5_sendOne_219 : decode cX5_sendOne 219 = .ok (.aload_n 0, 1) := by decide +kernel
theorem dX5_sendOne_220 : decode cX5_sendOne 220 = .ok (.getfield 9, 3) := by decide +kernel
theorem dX5_sendOne_223 : decode cX5_sendOne 223 = .ok (.iload_n 2, 1) := by decide +kernel
theorem dX5_sendOne_224 : decode cX5_sendOne 224 = .ok (.aload_n 1, 1) := by decide +kernel
theorem dX5_sendOne_225 : decode cX5_sendOne 225 = .ok (.getfield 44, 3) := by decide +kernel
theorem dX5_sendOne_228 : decode cX5_sendOne 228 = .ok (.iconst 2, 1) := by decide +kernel
theorem dX5_sendOne_229 : decode cX5_sendOne 229 = .ok (.iaload, 1) := by decide +kernel
theorem dX5_sendOne_230 : decode cX5_sendOne 230 = .ok (.ifCond .ne 11, 3) := by decide +kernel
theorem dX5_sendOne_233 : decode cX5_sendOne 233 = .ok (.aload_n 0, 1) := by decide +kernel
theorem dX5_sendOne_234 : decode cX5_sendOne 234 = .ok (.iload_n 2, 1) := by decide +kernel
theorem dX5_sendOne_235 : decode cX5_sendOne 235 = .ok (.invokevirtual 115, 3) := by decide +kernel
theorem dX5_sendOne_238 : decode cX5_sendOne 238 = .ok (.goto 4, 3) := by decide +kernel
theorem dX5_sendOne_241 : decode cX5_sendOne 241 = .ok (.lconst 0, 1) := by decide +kernel
theorem dX5_sendOne_242 : decode cX5_sendOne 242 = .ok (.lastore, 1) := by decide +kernel
theorem dX5_sendOne_243 : decode cX5_sendOne 243 = .ok (.aload_n 0, 1) := by decide +kernel
theorem dX5_sendOne_244 : decode cX5_sendOne 244 = .ok (.getfield 15, 3) := by decide +kernel
theorem dX5_sendOne_247 : decode cX5_sendOne 247 = .ok (.iload_n 2, 1) := by decide +kernel
theorem dX5_sendOne_248 : decode cX5_sendOne 248 = .ok (.iload 5, 2) := by decide +kernel
theorem dX5_sendOne_250 : decode cX5_sendOne 250 = .ok (.ifCond .eq 7, 3) := by decide +kernel
theorem dX5_sendOne_253 : decode cX5_sendOne 253 = .ok (.iconst 1, 1) := by decide +kernel
theorem dX5_sendOne_254 : decode cX5_sendOne 254 = .ok (.goto 4, 3) := by decide +kernel
theorem dX5_sendOne_257 : decode cX5_sendOne 257 = .ok (.iconst 2, 1) := by decide +kernel
theorem dX5_sendOne_258 : decode cX5_sendOne 258 = .ok (.iastore, 1) := by decide +kernel
theorem dX5_sendOne_259 : decode cX5_sendOne 259 = .ok (.iload_n 2, 1) := by decide +kernel
theorem dX5_sendOne_260 : decode cX5_sendOne 260 = .ok (.iconst 1, 1) := by decide +kernel
theorem dX5_sendOne_261 : decode cX5_sendOne 261 = .ok (.iadd, 1) := by decide +kernel
theorem dX5_sendOne_262 : decode cX5_sendOne 262 = .ok (.ireturn, 1) := by decide +kernel
theorem dX5_stepBack_0 : decode cX5_stepBack 0 = .ok (.aload_n 0, 1) := by decide +kernel
theorem dX5_stepBack_1 : decode cX5_stepBack 1 = .ok (.dup, 1) := by decide +kernel
theorem dX5_stepBack_2 : decode cX5_stepBack 2 = .ok (.getfield 93, 3) := by decide +kernel
theorem dX5_stepBack_5 : decode cX5_stepBack 5 = .ok (.iconst 1, 1) := by decide +kernel
theorem dX5_stepBack_6 : decode cX5_stepBack 6 = .ok (.iadd, 1) := by decide +kernel
theorem dX5_stepBack_7 : decode cX5_stepBack 7 = .ok (.putfield 93, 3) := by decide +kernel
theorem dX5_stepBack_10 : decode cX5_stepBack 10 = .ok (.aload_n 0, 1) := by decide +kernel
theorem dX5_stepBack_11 : decode cX5_stepBack 11 = .ok (.getfield 25, 3) := by decide +kernel
theorem dX5_stepBack_14 : decode cX5_stepBack 14 = .ok (.iload_n 2, 1) := by decide +kernel
theorem dX5_stepBack_15 : decode cX5_stepBack 15 = .ok (.dup2, 1) := by decide +kernel
theorem dX5_stepBack_16 : decode cX5_stepBack 16 = .ok (.iaload, 1) := by decide +kernel
theorem dX5_stepBack_17 : decode cX5_stepBack 17 = .ok (.iconst 1, 1) := by decide +kernel
theorem dX5_stepBack_18 : decode cX5_stepBack 18 = .ok (.iadd, 1) := by decide +kernel
theorem dX5_stepBack_19 : decode cX5_stepBack 19 = .ok (.iastore, 1) := by decide +kernel
theorem dX5_stepBack_20 : decode cX5_stepBack 20 = .ok (.aload_n 0, 1) := by decide +kernel
theorem dX5_stepBack_21 : decode cX5_stepBack 21 = .ok (.dup, 1) := by decide +kernel
theorem dX5_stepBack_22 : decode cX5_stepBack 22 = .ok (.getfield 89, 3) := by decide +kernel
theorem dX5_stepBack_25 : decode cX5_stepBack 25 = .ok (.aload_n 1, 1) := by decide +kernel
theorem dX5_stepBack_26 : decode cX5_stepBack 26 = .ok (.getfield 44, 3) := by decide +kernel
theorem dX5_stepBack_29 : decode cX5_stepBack 29 = .ok (.iconst 5, 1) := by decide +kernel
theorem dX5_stepBack_30 : decode cX5_stepBack 30 = .ok (.iaload, 1) := by decide +kernel
theorem dX5_stepBack_31 : decode cX5_stepBack 31 = .ok (.iadd, 1) := by decide +kernel
theorem dX5_stepBack_32 : decode cX5_stepBack 32 = .ok (.putfield 89, 3) := by decide +kernel
theorem dX5_stepBack_35 : decode cX5_stepBack 35 = .ok (.iload_n 2, 1) := by decide +kernel
theorem dX5_stepBack_36 : decode cX5_stepBack 36 = .ok (.istore_n 3, 1) := by decide +kernel
theorem dX5_stepBack_37 : decode cX5_stepBack 37 = .ok (.iload_n 3, 1) := by decide +kernel
theorem dX5_stepBack_38 : decode cX5_stepBack 38 = .ok (.ifCond .le 18, 3) := by decide +kernel
theorem dX5_stepBack_41 : decode cX5_stepBack 41 = .ok (.aload_n 0, 1) := by decide +kernel
theorem dX5_stepBack_42 : decode cX5_stepBack 42 = .ok (.aload_n 1, 1) := by decide +kernel
theorem dX5_stepBack_43 : decode cX5_stepBack 43 = .ok (.iload_n 3, 1) := by decide +kernel
theorem dX5_stepBack_44 : decode cX5_stepBack 44 = .ok (.invokevirtual 102, 3) := by decide +kernel
theorem dX5_stepBack_47 : decode cX5_stepBack 47 = .ok (.ifCond .ne 9, 3) := by decide +kernel
theorem dX5_stepBack_50 : decode cX5_stepBack 50 = .ok (.iinc 3 (-1), 3) := by decide +kernel
theorem dX5_stepBack_53 : decode cX5_stepBack 53 = .ok (.goto (-16), 3) := by decide +kernel
theorem dX5_stepBack_56 : decode cX5_stepBack 56 = .ok (.iload_n 3, 1) := by decide +kernel
theorem dX5_stepBack_57 : decode cX5_stepBack 57 = .ok (.ireturn, 1) := by decide +kernel
theorem dX5_isSentAlone_0 : decode cX5_isSentAlone 0 = .ok (.iload_n 2, 1) := by decide +kernel
theorem dX5_isSentAlone_1 : decode cX5_isSentAlone 1 = .ok (.aload_n 0, 1) := by decide +kernel
theorem dX5_isSentAlone_2 : decode cX5_isSentAlone 2 = .ok (.getfield 49, 3) := by decide +kernel
theorem dX5_isSentAlone_5 : decode cX5_isSentAlone 5 = .ok (.invokestatic 118, 3) := by decide +kernel
theorem dX5_isSentAlone_8 : decode cX5_isSentAlone 8 = .ok (.ifCond .ne 28, 3) := by decide +kernel
theorem dX5_isSentAlone_11 : decode cX5_isSentAlone 11 = .ok (.aload_n 1, 1) := by decide +kernel
theorem dX5_isSentAlone_12 : decode cX5_isSentAlone 12 = .ok (.getfield 44, 3) := by decide +kernel
theorem dX5_isSentAlone_15 : decode cX5_isSentAlone 15 = .ok (.iconst 1, 1) := by decide +kernel
theorem dX5_isSentAlone_16 : decode cX5_isSentAlone 16 = .ok (.iaload, 1) := by decide +kernel
theorem dX5_isSentAlone_17 : decode cX5_isSentAlone 17 = .ok (.iconst 1, 1) := by decide +kernel
theorem dX5_isSentAlone_18 : decode cX5_isSentAlone 18 = .ok (.if_icmp .ne 22, 3) := by decide +kernel
theorem dX5_isSentAlone_21 : decode cX5_isSentAlone 21 = .ok (.aload_n 0, 1) := by decide +kernel
theorem dX5_isSentAlone_22 : decode cX5_isSentAlone 22 = .ok (.getfield 31, 3) := by decide +kernel
theorem dX5_isSentAlone_25 : decode cX5_isSentAlone 25 = .ok (.iload_n 2, 1) := by decide +kernel
theorem dX5_isSentAlone_26 : decode cX5_isSentAlone 26 = .ok (.iaload, 1) := by decide +kernel
theorem dX5_isSentAlone_27 : decode cX5_isSentAlone 27 = .ok (.aload_n 0, 1) := by decide +kernel
theorem dX5_isSentAlone_28 : decode cX5_isSentAlone 28 = .ok (.getfield 34, 3) := by decide +kernel
theorem dX5_isSentAlone_31 : decode cX5_isSentAlone 31 = .ok (.iload_n 2, 1) := by decide +kernel
theorem dX5_isSentAlone_32 : decode cX5_isSentAlone 32 = .ok (.iaload, 1) := by decide +kernel
theorem dX5_isSentAlone_33 : decode cX5_isSentAlone 33 = .ok (.if_icmp .ge 7, 3) := by decide +kernel
theorem dX5_isSentAlone_36 : decode cX5_isSentAlone 36 = .ok (.iconst 1, 1) := by decide +kernel
theorem dX5_isSentAlone_37 : decode cX5_isSentAlone 37 = .ok (.goto 4, 3) := by decide +kernel
theorem dX5_isSentAlone_40 : decode cX5_isSentAlone 40 = .ok (.iconst 0, 1) := by decide +kernel
theorem dX5_isSentAlone_41 : decode cX5_isSentAlone 41 = .ok (.ireturn, 1) := by decide +kernel
theorem dX5_rowAbove_0 : decode cX5_rowAbove 0 = .ok (.iload_n 1, 1) := by decide +kernel
theorem dX5_rowAbove_1 : decode cX5_rowAbove 1 = .ok (.ifCond .le 20, 3) := by decide +kernel
theorem dX5_rowAbove_4 : decode cX5_rowAbove 4 = .ok (.iload_n 1, 1) := by decide +kernel
theorem dX5_rowAbove_5 : decode cX5_rowAbove 5 = .ok (.bipush 20, 2) := by decide +kernel
theorem dX5_rowAbove_7 : decode cX5_rowAbove 7 = .ok (.if_icmp .gt 14, 3) := by decide +kernel
theorem dX5_rowAbove_10 : decode cX5_rowAbove 10 = .ok (.aload_n 0, 1) := by decide +kernel
theorem dX5_rowAbove_11 : decode cX5_rowAbove 11 = .ok (.getfield 9, 3) := by decide +kernel
theorem dX5_rowAbove_14 : decode cX5_rowAbove 14 = .ok (.iload_n 1, 1) := by decide +kernel
theorem dX5_rowAbove_15 : decode cX5_rowAbove 15 = .ok (.iconst 1, 1) := by decide +kernel
theorem dX5_rowAbove_16 : decode cX5_rowAbove 16 = .ok (.isub, 1) := by decide +kernel
theorem dX5_rowAbove_17 : decode cX5_rowAbove 17 = .ok (.laload, 1) := by decide +kernel
theorem dX5_rowAbove_18 : decode cX5_rowAbove 18 = .ok (.goto 4, 3) := by decide +kernel
theorem dX5_rowAbove_21 : decode cX5_rowAbove 21 = .ok (.lconst 0, 1) := by decide +kernel
theorem dX5_rowAbove_22 : decode cX5_rowAbove 22 = .ok (.lreturn, 1) := by decide +kernel
theorem dX5_readByAbove_0 : decode cX5_readByAbove 0 = .ok (.aload_n 0, 1) := by decide +kernel
theorem dX5_readByAbove_1 : decode cX5_readByAbove 1 = .ok (.iload_n 2, 1) := by decide +kernel
theorem dX5_readByAbove_2 : decode cX5_readByAbove 2 = .ok (.invokevirtual 115, 3) := by decide +kernel
theorem dX5_readByAbove_5 : decode cX5_readByAbove 5 = .ok (.aload_n 1, 1) := by decide +kernel
theorem dX5_readByAbove_6 : decode cX5_readByAbove 6 = .ok (.iload_n 2, 1) := by decide +kernel
theorem dX5_readByAbove_7 : decode cX5_readByAbove 7 = .ok (.iconst 1, 1) := by decide +kernel
theorem dX5_readByAbove_8 : decode cX5_readByAbove 8 = .ok (.isub, 1) := by decide +kernel
theorem dX5_readByAbove_9 : decode cX5_readByAbove 9 = .ok (.invokevirtual 60, 3) := by decide +kernel
theorem dX5_readByAbove_12 : decode cX5_readByAbove 12 = .ok (.lcmp, 1) := by decide +kernel
theorem dX5_readByAbove_13 : decode cX5_readByAbove 13 = .ok (.ifCond .ne 9, 3) := by decide +kernel
theorem dX5_readByAbove_16 : decode cX5_readByAbove 16 = .ok (.aload_n 1, 1) := by decide +kernel
theorem dX5_readByAbove_17 : decode cX5_readByAbove 17 = .ok (.iload_n 2, 1) := by decide +kernel
theorem dX5_readByAbove_18 : decode cX5_readByAbove 18 = .ok (.invokevirtual 60, 3) := by decide +kernel
theorem dX5_readByAbove_21 : decode cX5_readByAbove 21 = .ok (.lreturn, 1) := by decide +kernel
theorem dX5_readByAbove_22 : decode cX5_readByAbove 22 = .ok (.aload_n 0, 1) := by decide +kernel
theorem dX5_readByAbove_23 : decode cX5_readByAbove 23 = .ok (.getfield 40, 3) := by decide +kernel
theorem dX5_readByAbove_26 : decode cX5_readByAbove 26 = .ok (.aload_n 1, 1) := by decide +kernel
theorem dX5_readByAbove_27 : decode cX5_readByAbove 27 = .ok (.iload_n 2, 1) := by decide +kernel
theorem dX5_readByAbove_28 : decode cX5_readByAbove 28 = .ok (.invokevirtual 60, 3) := by decide +kernel
theorem dX5_readByAbove_31 : decode cX5_readByAbove 31 = .ok (.aload_n 1, 1) := by decide +kernel
theorem dX5_readByAbove_32 : decode cX5_readByAbove 32 = .ok (.iload_n 2, 1) := by decide +kernel
theorem dX5_readByAbove_33 : decode cX5_readByAbove 33 = .ok (.iconst 1, 1) := by decide +kernel
theorem dX5_readByAbove_34 : decode cX5_readByAbove 34 = .ok (.isub, 1) := by decide +kernel
theorem dX5_readByAbove_35 : decode cX5_readByAbove 35 = .ok (.invokevirtual 60, 3) := by decide +kernel
theorem dX5_readByAbove_38 : decode cX5_readByAbove 38 = .ok (.aload_n 1, 1) := by decide +kernel
theorem dX5_readByAbove_39 : decode cX5_readByAbove 39 = .ok (.getfield 64, 3) := by decide +kernel
theorem dX5_readByAbove_42 : decode cX5_readByAbove 42 = .ok (.invokevirtual 67, 3) := by decide +kernel
theorem dX5_readByAbove_45 : decode cX5_readByAbove 45 = .ok (.aload_n 0, 1) := by decide +kernel
theorem dX5_readByAbove_46 : decode cX5_readByAbove 46 = .ok (.getfield 40, 3) := by decide +kernel
theorem dX5_readByAbove_49 : decode cX5_readByAbove 49 = .ok (.aload_n 0, 1) := by decide +kernel
theorem dX5_readByAbove_50 : decode cX5_readByAbove 50 = .ok (.iload_n 2, 1) := by decide +kernel
theorem dX5_readByAbove_51 : decode cX5_readByAbove 51 = .ok (.invokevirtual 115, 3) := by decide +kernel
theorem dX5_readByAbove_54 : decode cX5_readByAbove 54 = .ok (.aload_n 1, 1) := by decide +kernel
theorem dX5_readByAbove_55 : decode cX5_readByAbove 55 = .ok (.getfield 64, 3) := by decide +kernel
theorem dX5_readByAbove_58 : decode cX5_readByAbove 58 = .ok (.invokevirtual 122, 3) := by decide +kernel
theorem dX5_readByAbove_61 : decode cX5_readByAbove 61 = .ok (.lreturn, 1) := by decide +kernel
theorem dX5_linesOfState_0 : decode cX5_linesOfState 0 = .ok (.iconst 0, 1) := by decide +kernel
theorem dX5_linesOfState_1 : decode cX5_linesOfState 1 = .ok (.istore_n 3, 1) := by decide +kernel
theorem dX5_linesOfState_2 : decode cX5_linesOfState 2 = .ok (.iconst 0, 1) := by decide +kernel
theorem dX5_linesOfState_3 : decode cX5_linesOfState 3 = .ok (.istore 4, 2) := by decide +kernel
theorem dX5_linesOfState_5 : decode cX5_linesOfState 5 = .ok (.iload 4, 2) := by decide +kernel
theorem dX5_linesOfState_7 : decode cX5_linesOfState 7 = .ok (.iload_n 2, 1) := by decide +kernel
theorem dX5_linesOfState_8 : decode cX5_linesOfState 8 = .ok (.if_icmp .ge 30, 3) := by decide +kernel
theorem dX5_linesOfState_11 : decode cX5_linesOfState 11 = .ok (.iload 4, 2) := by decide +kernel
theorem dX5_linesOfState_13 : decode cX5_linesOfState 13 = .ok (.bipush 20, 2) := by decide +kernel
theorem dX5_linesOfState_15 : decode cX5_linesOfState 15 = .ok (.if_icmp .ge 23, 3) := by decide +kernel
theorem dX5_linesOfState_18 : decode cX5_linesOfState 18 = .ok (.aload_n 0, 1) := by decide +kernel
theorem dX5_linesOfState_19 : decode cX5_linesOfState 19 = .ok (.getfield 15, 3) := by decide +kernel
theorem dX5_linesOfState_22 : decode cX5_linesOfState 22 = .ok (.iload 4, 2) := by decide +kernel
theorem dX5_linesOfState_24 : decode cX5_linesOfState 24 = .ok (.iaload, 1) := by decide +kernel
theorem dX5_linesOfState_25 : decode cX5_linesOfState 25 = .ok (.iload_n 1, 1) := by decide +kernel
theorem dX5_linesOfState_26 : decode cX5_linesOfState 26 = .ok (.if_icmp .ne 6, 3) := by decide +kernel
theorem dX5_linesOfState_29 : decode cX5_linesOfState 29 = .ok (.iinc 3 1, 3) := by decide +kernel
theorem dX5_linesOfState_32 : decode cX5_linesOfState 32 = .ok (.iinc 4 1, 3) := by decide +kernel
theorem dX5_linesOfState_35 : decode cX5_linesOfState 35 = .ok (.goto (-30), 3) := by decide +kernel
theorem dX5_linesOfState_38 : decode cX5_linesOfState 38 = .ok (.iload_n 3, 1) := by decide +kernel
theorem dX5_linesOfState_39 : decode cX5_linesOfState 39 = .ok (.ireturn, 1) := by decide +kernel
theorem dX5_wrongDotsOf_0 : decode cX5_wrongDotsOf 0 = .ok (.aload_n 2, 1) := by decide +kernel
theorem dX5_wrongDotsOf_1 : decode cX5_wrongDotsOf 1 = .ok (.iload_n 1, 1) := by decide +kernel
theorem dX5_wrongDotsOf_2 : decode cX5_wrongDotsOf 2 = .ok (.invokevirtual 81, 3) := by decide +kernel
theorem dX5_wrongDotsOf_5 : decode cX5_wrongDotsOf 5 = .ok (.ifCond .eq 21, 3) := by decide +kernel
theorem dX5_wrongDotsOf_8 : decode cX5_wrongDotsOf 8 = .ok (.aload_n 0, 1) := by decide +kernel
theorem dX5_wrongDotsOf_9 : decode cX5_wrongDotsOf 9 = .ok (.getfield 9, 3) := by decide +kernel
theorem dX5_wrongDotsOf_12 : decode cX5_wrongDotsOf 12 = .ok (.iload_n 1, 1) := by decide +kernel
theorem dX5_wrongDotsOf_13 : decode cX5_wrongDotsOf 13 = .ok (.laload, 1) := by decide +kernel
theorem dX5_wrongDotsOf_14 : decode cX5_wrongDotsOf 14 = .ok (.aload_n 2, 1) := by decide +kernel
theorem dX5_wrongDotsOf_15 : decode cX5_wrongDotsOf 15 = .ok (.iload_n 1, 1) := by decide +kernel
theorem dX5_wrongDotsOf_16 : decode cX5_wrongDotsOf 16 = .ok (.invokevirtual 60, 3) := by decide +kernel
theorem dX5_wrongDotsOf_19 : decode cX5_wrongDotsOf 19 = .ok (.lxor, 1) := by decide +kernel
theorem dX5_wrongDotsOf_20 : decode cX5_wrongDotsOf 20 = .ok (.invokestatic 126, 3) := by decide +kernel
theorem dX5_wrongDotsOf_23 : decode cX5_wrongDotsOf 23 = .ok (.goto 4, 3) := by decide +kernel
theorem dX5_wrongDotsOf_26 : decode cX5_wrongDotsOf 26 = .ok (.iconst 0, 1) := by decide +kernel
theorem dX5_wrongDotsOf_27 : decode cX5_wrongDotsOf 27 = .ok (.ireturn, 1) := by decide +kernel
theorem dX5_wrongDots_0 : decode cX5_wrongDots 0 = .ok (.iconst 0, 1) := by decide +kernel
theorem dX5_wrongDots_1 : decode cX5_wrongDots 1 = .ok (.istore_n 2, 1) := by decide +kernel
theorem dX5_wrongDots_2 : decode cX5_wrongDots 2 = .ok (.iconst 0, 1) := by decide +kernel
theorem dX5_wrongDots_3 : decode cX5_wrongDots 3 = .ok (.istore_n 3, 1) := by decide +kernel
theorem dX5_wrongDots_4 : decode cX5_wrongDots 4 = .ok (.iload_n 3, 1) := by decide +kernel
theorem dX5_wrongDots_5 : decode cX5_wrongDots 5 = .ok (.aload_n 1, 1) := by decide +kernel
theorem dX5_wrongDots_6 : decode cX5_wrongDots 6 = .ok (.getfield 57, 3) := by decide +kernel
theorem dX5_wrongDots_9 : decode cX5_wrongDots 9 = .ok (.if_icmp .ge 18, 3) := by decide +kernel
theorem dX5_wrongDots_12 : decode cX5_wrongDots 12 = .ok (.iload_n 2, 1) := by decide +kernel
theorem dX5_wrongDots_13 : decode cX5_wrongDots 13 = .ok (.aload_n 0, 1) := by decide +kernel
theorem dX5_wrongDots_14 : decode cX5_wrongDots 14 = .ok (.iload_n 3, 1) := by decide +kernel
theorem dX5_wrongDots_15 : decode cX5_wrongDots 15 = .ok (.aload_n 1, 1) := by decide +kernel
theorem dX5_wrongDots_16 : decode cX5_wrongDots 16 = .ok (.invokevirtual 132, 3) := by decide +kernel
theorem dX5_wrongDots_19 : decode cX5_wrongDots 19 = .ok (.iadd, 1) := by decide +kernel
theorem dX5_wrongDots_20 : decode cX5_wrongDots 20 = .ok (.istore_n 2, 1) := by decide +kernel
theorem dX5_wrongDots_21 : decode cX5_wrongDots 21 = .ok (.iinc 3 1, 3) := by decide +kernel
theorem dX5_wrongDots_24 : decode cX5_wrongDots 24 = .ok (.goto (-20), 3) := by decide +kernel
theorem dX5_wrongDots_27 : decode cX5_wrongDots 27 = .ok (.iload_n 2, 1) := by decide +kernel
theorem dX5_wrongDots_28 : decode cX5_wrongDots 28 = .ok (.ireturn, 1) := by decide +kernel
theorem dX5_wrongLines_0 : decode cX5_wrongLines 0 = .ok (.iconst 0, 1) := by decide +kernel
theorem dX5_wrongLines_1 : decode cX5_wrongLines 1 = .ok (.istore_n 2, 1) := by decide +kernel
theorem dX5_wrongLines_2 : decode cX5_wrongLines 2 = .ok (.iconst 0, 1) := by decide +kernel
theorem dX5_wrongLines_3 : decode cX5_wrongLines 3 = .ok (.istore_n 3, 1) := by decide +kernel
theorem dX5_wrongLines_4 : decode cX5_wrongLines 4 = .ok (.iload_n 3, 1) := by decide +kernel
theorem dX5_wrongLines_5 : decode cX5_wrongLines 5 = .ok (.aload_n 1, 1) := by decide +kernel
theorem dX5_wrongLines_6 : decode cX5_wrongLines 6 = .ok (.getfield 57, 3) := by decide +kernel
theorem dX5_wrongLines_9 : decode cX5_wrongLines 9 = .ok (.if_icmp .ge 21, 3) := by decide +kernel
theorem dX5_wrongLines_12 : decode cX5_wrongLines 12 = .ok (.aload_n 0, 1) := by decide +kernel
theorem dX5_wrongLines_13 : decode cX5_wrongLines 13 = .ok (.iload_n 3, 1) := by decide +kernel
theorem dX5_wrongLines_14 : decode cX5_wrongLines 14 = .ok (.aload_n 1, 1) := by decide +kernel
theorem dX5_wrongLines_15 : decode cX5_wrongLines 15 = .ok (.invokevirtual 132, 3) := by decide +kernel
theorem dX5_wrongLines_18 : decode cX5_wrongLines 18 = .ok (.ifCond .le 6, 3) := by decide +kernel
theorem dX5_wrongLines_21 : decode cX5_wrongLines 21 = .ok (.iinc 2 1, 3) := by decide +kernel
theorem dX5_wrongLines_24 : decode cX5_wrongLines 24 = .ok (.iinc 3 1, 3) := by decide +kernel
theorem dX5_wrongLines_27 : decode cX5_wrongLines 27 = .ok (.goto (-23), 3) := by decide +kernel
theorem dX5_wrongLines_30 : decode cX5_wrongLines 30 = .ok (.iload_n 2, 1) := by decide +kernel
theorem dX5_wrongLines_31 : decode cX5_wrongLines 31 = .ok (.ireturn, 1) := by decide +kernel
theorem dX5_lastWrongLine_0 : decode cX5_lastWrongLine 0 = .ok (.aload_n 1, 1) := by decide +kernel
theorem dX5_lastWrongLine_1 : decode cX5_lastWrongLine 1 = .ok (.getfield 57, 3) := by decide +kernel
theorem dX5_lastWrongLine_4 : decode cX5_lastWrongLine 4 = .ok (.iconst 1, 1) := by decide +kernel
theorem dX5_lastWrongLine_5 : decode cX5_lastWrongLine 5 = .ok (.isub, 1) := by decide +kernel
theorem dX5_lastWrongLine_6 : decode cX5_lastWrongLine 6 = .ok (.istore_n 2, 1) := by decide +kernel
theorem dX5_lastWrongLine_7 : decode cX5_lastWrongLine 7 = .ok (.iload_n 2, 1) := by decide +kernel
theorem dX5_lastWrongLine_8 : decode cX5_lastWrongLine 8 = .ok (.ifCond .lt 20, 3) := by decide +kernel
theorem dX5_lastWrongLine_11 : decode cX5_lastWrongLine 11 = .ok (.aload_n 0, 1) := by decide +kernel
theorem dX5_lastWrongLine_12 : decode cX5_lastWrongLine 12 = .ok (.iload_n 2, 1) := by decide +kernel
theorem dX5_lastWrongLine_13 : decode cX5_lastWrongLine 13 = .ok (.aload_n 1, 1) := by decide +kernel
theorem dX5_lastWrongLine_14 : decode cX5_lastWrongLine 14 = .ok (.invokevirtual 132, 3) := by decide +kernel
theorem dX5_lastWrongLine_17 : decode cX5_lastWrongLine 17 = .ok (.ifCond .le 5, 3) := by decide +kernel
theorem dX5_lastWrongLine_20 : decode cX5_lastWrongLine 20 = .ok (.iload_n 2, 1) := by decide +kernel
theorem dX5_lastWrongLine_21 : decode cX5_lastWrongLine 21 = .ok (.ireturn, 1) := by decide +kernel
theorem dX5_lastWrongLine_22 : decode cX5_lastWrongLine 22 = .ok (.iinc 2 (-1), 3) := by decide +kernel
theorem dX5_lastWrongLine_25 : decode cX5_lastWrongLine 25 = .ok (.goto (-18), 3) := by decide +kernel
theorem dX5_lastWrongLine_28 : decode cX5_lastWrongLine 28 = .ok (.iconst (-1), 1) := by decide +kernel
theorem dX5_lastWrongLine_29 : decode cX5_lastWrongLine 29 = .ok (.ireturn, 1) := by decide +kernel
theorem dX6_init_0 : decode cX6_init 0 = .ok (.aload_n 0, 1) := by decide +kernel
theorem dX6_init_1 : decode cX6_init 1 = .ok (.invokespecial 3, 3) := by decide +kernel
theorem dX6_init_4 : decode cX6_init 4 = .ok (.aload_n 0, 1) := by decide +kernel
theorem dX6_init_5 : decode cX6_init 5 = .ok (.iconst 0, 1) := by decide +kernel
theorem dX6_init_6 : decode cX6_init 6 = .ok (.putfield 9, 3) := by decide +kernel
theorem dX6_init_9 : decode cX6_init 9 = .ok (.aload_n 0, 1) := by decide +kernel
theorem dX6_init_10 : decode cX6_init 10 = .ok (.sipush 900, 3) := by decide +kernel
theorem dX6_init_13 : decode cX6_init 13 = .ok (.newarray .byte, 2) := by decide +kernel
theorem dX6_init_15 : decode cX6_init 15 = .ok (.putfield 15, 3) := by decide +kernel
theorem dX6_init_18 : decode cX6_init 18 = .ok (.return_, 1) := by decide +kernel
theorem dX6_append_0 : decode cX6_append 0 = .ok (.aload_n 0, 1) := by decide +kernel
theorem dX6_append_1 : decode cX6_append 1 = .ok (.getfield 9, 3) := by decide +kernel
theorem dX6_append_4 : decode cX6_append 4 = .ok (.ifCond .lt 34, 3) := by decide +kernel
theorem dX6_append_7 : decode cX6_append 7 = .ok (.aload_n 0, 1) := by decide +kernel
theorem dX6_append_8 : decode cX6_append 8 = .ok (.getfield 9, 3) := by decide +kernel
theorem dX6_append_11 : decode cX6_append 11 = .ok (.sipush 900, 3) := by decide +kernel
theorem dX6_append_14 : decode cX6_append 14 = .ok (.if_icmp .ge 24, 3) := by decide +kernel
theorem dX6_append_17 : decode cX6_append 17 = .ok (.aload_n 0, 1) := by decide +kernel
theorem dX6_append_18 : decode cX6_append 18 = .ok (.getfield 15, 3) := by decide +kernel
theorem dX6_append_21 : decode cX6_append 21 = .ok (.aload_n 0, 1) := by decide +kernel
theorem dX6_append_22 : decode cX6_append 22 = .ok (.getfield 9, 3) := by decide +kernel
theorem dX6_append_25 : decode cX6_append 25 = .ok (.iload_n 1, 1) := by decide +kernel
theorem dX6_append_26 : decode cX6_append 26 = .ok (.i2b, 1) := by decide +kernel
theorem dX6_append_27 : decode cX6_append 27 = .ok (.bastore, 1) := by decide +kernel
theorem dX6_append_28 : decode cX6_append 28 = .ok (.aload_n 0, 1) := by decide +kernel
theorem dX6_append_29 : decode cX6_append 29 = .ok (.dup, 1) := by decide +kernel
theorem dX6_append_30 : decode cX6_append 30 = .ok (.getfield 9, 3) := by decide +kernel
theorem dX6_append_33 : decode cX6_append 33 = .ok (.iconst 1, 1) := by decide +kernel
theorem dX6_append_34 : decode cX6_append 34 = .ok (.iadd, 1) := by decide +kernel
theorem dX6_append_35 : decode cX6_append 35 = .ok (.putfield 9, 3) := by decide +kernel
theorem dX6_append_38 : decode cX6_append 38 = .ok (.return_, 1) := by decide +kernel
theorem dX6_begin_0 : decode cX6_begin 0 = .ok (.aload_n 0, 1) := by decide +kernel
theorem dX6_begin_1 : decode cX6_begin 1 = .ok (.iconst 0, 1) := by decide +kernel
theorem dX6_begin_2 : decode cX6_begin 2 = .ok (.putfield 19, 3) := by decide +kernel
theorem dX6_begin_5 : decode cX6_begin 5 = .ok (.aload_n 0, 1) := by decide +kernel
theorem dX6_begin_6 : decode cX6_begin 6 = .ok (.invokevirtual 22, 3) := by decide +kernel
theorem dX6_begin_9 : decode cX6_begin 9 = .ok (.return_, 1) := by decide +kernel
theorem dX6_next_0 : decode cX6_next 0 = .ok (.aload_n 0, 1) := by decide +kernel
theorem dX6_next_1 : decode cX6_next 1 = .ok (.aload_n 0, 1) := by decide +kernel
theorem dX6_next_2 : decode cX6_next 2 = .ok (.getfield 19, 3) := by decide +kernel
theorem dX6_next_5 : decode cX6_next 5 = .ok (.putfield 25, 3) := by decide +kernel
theorem dX6_next_8 : decode cX6_next 8 = .ok (.aload_n 0, 1) := by decide +kernel
theorem dX6_next_9 : decode cX6_next 9 = .ok (.getfield 25, 3) := by decide +kernel
theorem dX6_next_12 : decode cX6_next 12 = .ok (.aload_n 0, 1) := by decide +kernel
theorem dX6_next_13 : decode cX6_next 13 = .ok (.getfield 9, 3) := by decide +kernel
theorem dX6_next_16 : decode cX6_next 16 = .ok (.if_icmp .ge 30, 3) := by decide +kernel
theorem dX6_next_19 : decode cX6_next 19 = .ok (.aload_n 0, 1) := by decide +kernel
theorem dX6_next_20 : decode cX6_next 20 = .ok (.aload_n 0, 1) := by decide +kernel
theorem dX6_next_21 : decode cX6_next 21 = .ok (.getfield 25, 3) := by decide +kernel
theorem dX6_next_24 : decode cX6_next 24 = .ok (.invokevirtual 28, 3) := by decide +kernel
theorem dX6_next_27 : decode cX6_next 27 = .ok (.invokestatic 32, 3) := by decide +kernel
theorem dX6_next_30 : decode cX6_next 30 = .ok (.ifCond .eq 16, 3) := by decide +kernel
theorem dX6_next_33 : decode cX6_next 33 = .ok (.aload_n 0, 1) := by decide +kernel
theorem dX6_next_34 : decode cX6_next 34 = .ok (.dup, 1) := by decide +kernel
theorem dX6_next_35 : decode cX6_next 35 = .ok (.getfield 25, 3) := by decide +kernel
theorem dX6_next_38 : decode cX6_next 38 = .ok (.iconst 1, 1) := by decide +kernel
theorem dX6_next_39 : decode cX6_next 39 = .ok (.iadd, 1) := by decide +kernel
theorem dX6_next_40 : decode cX6_next 40 = .ok (.putfield 25, 3) := by decide +kernel
theorem dX6_next_43 : decode cX6_next 43 = .ok (.goto (-35), 3) := by decide +kernel
theorem dX6_next_46 : decode cX6_next 46 = .ok (.aload_n 0, 1) := by decide +kernel
theorem dX6_next_47 : decode cX6_next 47 = .ok (.aload_n 0, 1) := by decide +kernel
theorem dX6_next_48 : decode cX6_next 48 = .ok (.aload_n 0, 1) := by decide +kernel
theorem dX6_next_49 : decode cX6_next 49 = .ok (.getfield 25, 3) := by decide +kernel
theorem dX6_next_52 : decode cX6_next 52 = .ok (.invokevirtual 28, 3) := by decide +kernel
theorem dX6_next_55 : decode cX6_next 55 = .ok (.invokestatic 36, 3) := by decide +kernel
theorem dX6_next_58 : decode cX6_next 58 = .ok (.putfield 39, 3) := by decide +kernel
theorem dX6_next_61 : decode cX6_next 61 = .ok (.aload_n 0, 1) := by decide +kernel
theorem dX6_next_62 : decode cX6_next 62 = .ok (.aload_n 0, 1) := by decide +kernel
theorem dX6_next_63 : decode cX6_next 63 = .ok (.getfield 39, 3) := by decide +kernel
theorem dX6_next_66 : decode cX6_next 66 = .ok (.ifCond .ne 10, 3) := by decide +kernel
theorem dX6_next_69 : decode cX6_next 69 = .ok (.aload_n 0, 1) := by decide +kernel
theorem dX6_next_70 : decode cX6_next 70 = .ok (.getfield 25, 3) := by decide +kernel
theorem dX6_next_73 : decode cX6_next 73 = .ok (.goto 9, 3) := by decide +kernel
theorem dX6_next_76 : decode cX6_next 76 = .ok (.aload_n 0, 1) := by decide +kernel
theorem dX6_next_77 : decode cX6_next 77 = .ok (.getfield 25, 3) := by decide +kernel
theorem dX6_next_80 : decode cX6_next 80 = .ok (.iconst 1, 1) := by decide +kernel
theorem dX6_next_81 : decode cX6_next 81 = .ok (.iadd, 1) := by decide +kernel
theorem dX6_next_82 : decode cX6_next 82 = .ok (.putfield 19, 3) := by decide +kernel
theorem dX6_next_85 : decode cX6_next 85 = .ok (.aload_n 0, 1) := by decide +kernel
theorem dX6_next_86 : decode cX6_next 86 = .ok (.getfield 39, 3) := by decide +kernel
theorem dX6_next_89 : decode cX6_next 89 = .ok (.iconst 1, 1) := by decide +kernel
theorem dX6_next_90 : decode cX6_next 90 = .ok (.if_icmp .eq 19, 3) := by decide +kernel
theorem dX6_next_93 : decode cX6_next 93 = .ok (.aload_n 0, 1) := by decide +kernel
theorem dX6_next_94 : decode cX6_next 94 = .ok (.getfield 39, 3) := by decide +kernel
theorem dX6_next_97 : decode cX6_next 97 = .ok (.iconst 2, 1) := by decide +kernel
theorem dX6_next_98 : decode cX6_next 98 = .ok (.if_icmp .eq 11, 3) := by decide +kernel
theorem dX6_next_101 : decode cX6_next 101 = .ok (.aload_n 0, 1) := by decide +kernel
theorem dX6_next_102 : decode cX6_next 102 = .ok (.getfield 39, 3) := by decide +kernel
theorem dX6_next_105 : decode cX6_next 105 = .ok (.iconst 3, 1) := by decide +kernel
theorem dX6_next_106 : decode cX6_next 106 = .ok (.if_icmp .ne 45, 3) := by decide +kernel
theorem dX6_next_109 : decode cX6_next 109 = .ok (.aload_n 0, 1) := by decide +kernel
theorem dX6_next_110 : decode cX6_next 110 = .ok (.getfield 19, 3) := by decide +kernel
theorem dX6_next_113 : decode cX6_next 113 = .ok (.aload_n 0, 1) := by decide +kernel
theorem dX6_next_114 : decode cX6_next 114 = .ok (.getfield 9, 3) := by decide +kernel
theorem dX6_next_117 : decode cX6_next 117 = .ok (.if_icmp .ge 34, 3) := by decide +kernel
theorem dX6_next_120 : decode cX6_next 120 = .ok (.aload_n 0, 1) := by decide +kernel
theorem dX6_next_121 : decode cX6_next 121 = .ok (.aload_n 0, 1) := by decide +kernel
theorem dX6_next_122 : decode cX6_next 122 = .ok (.getfield 19, 3) := by decide +kernel
theorem dX6_next_125 : decode cX6_next 125 = .ok (.invokevirtual 28, 3) := by decide +kernel
theorem dX6_next_128 : decode cX6_next 128 = .ok (.invokestatic 36, 3) := by decide +kernel
theorem dX6_next_131 : decode cX6_next 131 = .ok (.aload_n 0, 1) := by decide +kernel
theorem dX6_next_132 : decode cX6_next 132 = .ok (.getfield 39, 3) := by decide +kernel
theorem dX6_next_135 : decode cX6_next 135 = .ok (.if_icmp .ne 16, 3) := by decide +kernel
theorem dX6_next_138 : decode cX6_next 138 = .ok (.aload_n 0, 1) := by decide +kernel
theorem dX6_next_139 : decode cX6_next 139 = .ok (.dup, 1) := by decide +kernel
theorem dX6_next_140 : decode cX6_next 140 = .ok (.getfield 19, 3) := by decide +kernel
theorem dX6_next_143 : decode cX6_next 143 = .ok (.iconst 1, 1) := by decide +kernel
theorem dX6_next_144 : decode cX6_next 144 = .ok (.iadd, 1) := by decide +kernel
theorem dX6_next_145 : decode cX6_next 145 = .ok (.putfield 19, 3) := by decide +kernel
theorem dX6_next_148 : decode cX6_next 148 = .ok (.goto (-39), 3) := by decide +kernel
theorem dX6_next_151 : decode cX6_next 151 = .ok (.return_, 1) := by decide +kernel
theorem dX6_byteAt_0 : decode cX6_byteAt 0 = .ok (.iload_n 1, 1) := by decide +kernel
theorem dX6_byteAt_1 : decode cX6_byteAt 1 = .ok (.ifCond .lt 31, 3) := by decide +kernel
theorem dX6_byteAt_4 : decode cX6_byteAt 4 = .ok (.iload_n 1, 1) := by decide +kernel
theorem dX6_byteAt_5 : decode cX6_byteAt 5 = .ok (.aload_n 0, 1) := by decide +kernel
theorem dX6_byteAt_6 : decode cX6_byteAt 6 = .ok (.getfield 9, 3) := by decide +kernel
theorem dX6_byteAt_9 : decode cX6_byteAt 9 = .ok (.if_icmp .ge 23, 3) := by decide +kernel
theorem dX6_byteAt_12 : decode cX6_byteAt 12 = .ok (.iload_n 1, 1) := by decide +kernel
theorem dX6_byteAt_13 : decode cX6_byteAt 13 = .ok (.sipush 900, 3) := by decide +kernel
theorem dX6_byteAt_16 : decode cX6_byteAt 16 = .ok (.if_icmp .ge 16, 3) := by decide +kernel
theorem dX6_byteAt_19 : decode cX6_byteAt 19 = .ok (.aload_n 0, 1) := by decide +kernel
theorem dX6_byteAt_20 : decode cX6_byteAt 20 = .ok (.getfield 15, 3) := by decide +kernel
theorem dX6_byteAt_23 : decode cX6_byteAt 23 = .ok (.iload_n 1, 1) := by decide +kernel
theorem dX6_byteAt_24 : decode cX6_byteAt 24 = .ok (.baload, 1) := by decide +kernel
theorem dX6_byteAt_25 : decode cX6_byteAt 25 = .ok (.sipush 255, 3) := by decide +kernel
theorem dX6_byteAt_28 : decode cX6_byteAt 28 = .ok (.iand, 1) := by decide +kernel
theorem dX6_byteAt_29 : decode cX6_byteAt 29 = .ok (.goto 4, 3) := by decide +kernel
theorem dX6_byteAt_32 : decode cX6_byteAt 32 = .ok (.iconst (-1), 1) := by decide +kernel
theorem dX6_byteAt_33 : decode cX6_byteAt 33 = .ok (.ireturn, 1) := by decide +kernel
theorem dX6_isSpace_0 : decode cX6_isSpace 0 = .ok (.iload_n 0, 1) := by decide +kernel
theorem dX6_isSpace_1 : decode cX6_isSpace 1 = .ok (.bipush 32, 2) := by decide +kernel
theorem dX6_isSpace_3 : decode cX6_isSpace 3 = .ok (.if_icmp .eq 9, 3) := by decide +kernel
theorem dX6_isSpace_6 : decode cX6_isSpace 6 = .ok (.iload_n 0, 1) := by decide +kernel
theorem dX6_isSpace_7 : decode cX6_isSpace 7 = .ok (.bipush 10, 2) := by decide +kernel
theorem dX6_isSpace_9 : decode cX6_isSpace 9 = .ok (.if_icmp .ne 7, 3) := by decide +kernel
theorem dX6_isSpace_12 : decode cX6_isSpace 12 = .ok (.iconst 1, 1) := by decide +kernel
theorem dX6_isSpace_13 : decode cX6_isSpace 13 = .ok (.goto 4, 3) := by decide +kernel
theorem dX6_isSpace_16 : decode cX6_isSpace 16 = .ok (.iconst 0, 1) := by decide +kernel
theorem dX6_isSpace_17 : decode cX6_isSpace 17 = .ok (.ireturn, 1) := by decide +kernel
theorem dX6_kindOf_0 : decode cX6_kindOf 0 = .ok (.iload_n 0, 1) := by decide +kernel
theorem dX6_kindOf_1 : decode cX6_kindOf 1 = .ok (.iconst (-1), 1) := by decide +kernel
theorem dX6_kindOf_2 : decode cX6_kindOf 2 = .ok (.if_icmp .ne 5, 3) := by decide +kernel
theorem dX6_kindOf_5 : decode cX6_kindOf 5 = .ok (.iconst 0, 1) := by decide +kernel
theorem dX6_kindOf_6 : decode cX6_kindOf 6 = .ok (.ireturn, 1) := by decide +kernel
theorem dX6_kindOf_7 : decode cX6_kindOf 7 = .ok (.iload_n 0, 1) := by decide +kernel
theorem dX6_kindOf_8 : decode cX6_kindOf 8 = .ok (.bipush 97, 2) := by decide +kernel
theorem dX6_kindOf_10 : decode cX6_kindOf 10 = .ok (.if_icmp .lt 11, 3) := by decide +kernel
theorem dX6_kindOf_13 : decode cX6_kindOf 13 = .ok (.iload_n 0, 1) := by decide +kernel
theorem dX6_kindOf_14 : decode cX6_kindOf 14 = .ok (.bipush 122, 2) := by decide +kernel
theorem dX6_kindOf_16 : decode cX6_kindOf 16 = .ok (.if_icmp .gt 5, 3) := by decide +kernel
theorem dX6_kindOf_19 : decode cX6_kindOf 19 = .ok (.iconst 1, 1) := by decide +kernel
theorem dX6_kindOf_20 : decode cX6_kindOf 20 = .ok (.ireturn, 1) := by decide +kernel
theorem dX6_kindOf_21 : decode cX6_kindOf 21 = .ok (.iload_n 0, 1) := by decide +kernel
theorem dX6_kindOf_22 : decode cX6_kindOf 22 = .ok (.bipush 48, 2) := by decide +kernel
theorem dX6_kindOf_24 : decode cX6_kindOf 24 = .ok (.if_icmp .lt 11, 3) := by decide +kernel
theorem dX6_kindOf_27 : decode cX6_kindOf 27 = .ok (.iload_n 0, 1) := by decide +kernel
theorem dX6_kindOf_28 : decode cX6_kindOf 28 = .ok (.bipush 57, 2) := by decide +kernel
theorem dX6_kindOf_30 : decode cX6_kindOf 30 = .ok (.if_icmp .gt 5, 3) := by decide +kernel
theorem dX6_kindOf_33 : decode cX6_kindOf 33 = .ok (.iconst 2, 1) := by decide +kernel
theorem dX6_kindOf_34 : decode cX6_kindOf 34 = .ok (.ireturn, 1) := by decide +kernel
theorem dX6_kindOf_35 : decode cX6_kindOf 35 = .ok (.iload_n 0, 1) := by decide +kernel
theorem dX6_kindOf_36 : decode cX6_kindOf 36 = .ok (.bipush 46, 2) := by decide +kernel
theorem dX6_kindOf_38 : decode cX6_kindOf 38 = .ok (.if_icmp .eq 9, 3) := by decide +kernel
theorem dX6_kindOf_41 : decode cX6_kindOf 41 = .ok (.iload_n 0, 1) := by decide +kernel
theorem dX6_kindOf_42 : decode cX6_kindOf 42 = .ok (.bipush 35, 2) := by decide +kernel
theorem dX6_kindOf_44 : decode cX6_kindOf 44 = .ok (.if_icmp .ne 5, 3) := by decide +kernel
theorem dX6_kindOf_47 : decode cX6_kindOf 47 = .ok (.iconst 3, 1) := by decide +kernel
theorem dX6_kindOf_48 : decode cX6_kindOf 48 = .ok (.ireturn, 1) := by decide +kernel
theorem dX6_kindOf_49 : decode cX6_kindOf 49 = .ok (.iload_n 0, 1) := by decide +kernel
theorem dX6_kindOf_50 : decode cX6_kindOf 50 = .ok (.bipush 45, 2) := by decide +kernel
theorem dX6_kindOf_52 : decode cX6_kindOf 52 = .ok (.if_icmp .ne 7, 3) := by decide +kernel
theorem dX6_kindOf_55 : decode cX6_kindOf 55 = .ok (.iconst 4, 1) := by decide +kernel
theorem dX6_kindOf_56 : decode cX6_kindOf 56 = .ok (.goto 15, 3) := by decide +kernel
theorem dX6_kindOf_59 : decode cX6_kindOf 59 = .ok (.iload_n 0, 1) := by decide +kernel
theorem dX6_kindOf_60 : decode cX6_kindOf 60 = .ok (.bipush 59, 2) := by decide +kernel
theorem dX6_kindOf_62 : decode cX6_kindOf 62 = .ok (.if_icmp .ne 7, 3) := by decide +kernel
theorem dX6_kindOf_65 : decode cX6_kindOf 65 = .ok (.iconst 5, 1) := by decide +kernel
theorem dX6_kindOf_66 : decode cX6_kindOf 66 = .ok (.goto 5, 3) := by decide +kernel
theorem dX6_kindOf_69 : decode cX6_kindOf 69 = .ok (.bipush 6, 2) := by decide +kernel
theorem dX6_kindOf_71 : decode cX6_kindOf 71 = .ok (.ireturn, 1) := by decide +kernel
theorem dX6_isWord_0 : decode cX6_isWord 0 = .ok (.aload_n 0, 1) := by decide +kernel
theorem dX6_isWord_1 : decode cX6_isWord 1 = .ok (.getfield 39, 3) := by decide +kernel
theorem dX6_isWord_4 : decode cX6_isWord 4 = .ok (.iconst 1, 1) := by decide +kernel
theorem dX6_isWord_5 : decode cX6_isWord 5 = .ok (.if_icmp .ne 19, 3) := by decide +kernel
theorem dX6_isWord_8 : decode cX6_isWord 8 = .ok (.aload_n 0, 1) := by decide +kernel
theorem dX6_isWord_9 : decode cX6_isWord 9 = .ok (.getfield 19, 3) := by decide +kernel
theorem dX6_isWord_12 : decode cX6_isWord 12 = .ok (.aload_n 0, 1) := by decide +kernel
theorem dX6_isWord_13 : decode cX6_isWord 13 = .ok (.getfield 25, 3) := by decide +kernel
theorem dX6_isWord_16 : decode cX6_isWord 16 = .ok (.isub, 1) := by decide +kernel
theorem dX6_isWord_17 : decode cX6_isWord 17 = .ok (.aload_n 1, 1) := by decide +kernel
theorem dX6_isWord_18 : decode cX6_isWord 18 = .ok (.invokevirtual 42, 3) := by decide +kernel
theorem dX6_isWord_21 : decode cX6_isWord 21 = .ok (.if_icmp .eq 5, 3) := by decide +kernel
theorem dX6_isWord_24 : decode cX6_isWord 24 = .ok (.iconst 0, 1) := by decide +kernel
theorem dX6_isWord_25 : decode cX6_isWord 25 = .ok (.ireturn, 1) := by decide +kernel
theorem dX6_isWord_26 : decode cX6_isWord 26 = .ok (.iconst 0, 1) := by decide +kernel
theorem dX6_isWord_27 : decode cX6_isWord 27 = .ok (.istore_n 2, 1) := by decide +kernel
theorem dX6_isWord_28 : decode cX6_isWord 28 = .ok (.iload_n 2, 1) := by decide +kernel
theorem dX6_isWord_29 : decode cX6_isWord 29 = .ok (.aload_n 1, 1) := by decide +kernel
theorem dX6_isWord_30 : decode cX6_isWord 30 = .ok (.invokevirtual 42, 3) := by decide +kernel
theorem dX6_isWord_33 : decode cX6_isWord 33 = .ok (.if_icmp .ge 29, 3) := by decide +kernel
theorem dX6_isWord_36 : decode cX6_isWord 36 = .ok (.aload_n 0, 1) := by decide +kernel
theorem dX6_isWord_37 : decode cX6_isWord 37 = .ok (.aload_n 0, 1) := by decide +kernel
theorem dX6_isWord_38 : decode cX6_isWord 38 = .ok (.getfield 25, 3) := by decide +kernel
theorem dX6_isWord_41 : decode cX6_isWord 41 = .ok (.iload_n 2, 1) := by decide +kernel
theorem dX6_isWord_42 : decode cX6_isWord 42 = .ok (.iadd, 1) := by decide +kernel
theorem dX6_isWord_43 : decode cX6_isWord 43 = .ok (.invokevirtual 28, 3) := by decide +kernel
theorem dX6_isWord_46 : decode cX6_isWord 46 = .ok (.aload_n 1, 1) := by decide +kernel
theorem dX6_isWord_47 : decode cX6_isWord 47 = .ok (.iload_n 2, 1) := by decide +kernel
theorem dX6_isWord_48 : decode cX6_isWord 48 = .ok (.invokevirtual 47, 3) := by decide +kernel
theorem dX6_isWord_51 : decode cX6_isWord 51 = .ok (.if_icmp .eq 5, 3) := by decide +kernel
theorem dX6_isWord_54 : decode cX6_isWord 54 = .ok (.iconst 0, 1) := by decide +kernel
theorem dX6_isWord_55 : decode cX6_isWord 55 = .ok (.ireturn, 1) := by decide +kernel
theorem dX6_isWord_56 : decode cX6_isWord 56 = .ok (.iinc 2 1, 3) := by decide +kernel
theorem dX6_isWord_59 : decode cX6_isWord 59 = .ok (.goto (-31), 3) := by decide +kernel
theorem dX6_isWord_62 : decode cX6_isWord 62 = .ok (.iconst 1, 1) := by decide +kernel
theorem dX6_isWord_63 : decode cX6_isWord 63 = .ok (.ireturn, 1) := by decide +kernel
theorem dX6_number_0 : decode cX6_number 0 = .ok (.iconst 0, 1) := by decide +kernel
theorem dX6_number_1 : decode cX6_number 1 = .ok (.istore_n 1, 1) := by decide +kernel
theorem dX6_number_2 : decode cX6_number 2 = .ok (.aload_n 0, 1) := by decide +kernel
theorem dX6_number_3 : decode cX6_number 3 = .ok (.getfield 25, 3) := by decide +kernel
theorem dX6_number_6 : decode cX6_number 6 = .ok (.istore_n 2, 1) := by decide +kernel
theorem dX6_number_7 : decode cX6_number 7 = .ok (.iload_n 2, 1) := by decide +kernel
theorem dX6_number_8 : decode cX6_number 8 = .ok (.aload_n 0, 1) := by decide +kernel
theorem dX6_number_9 : decode cX6_number 9 = .ok (.getfield 19, 3) := by decide +kernel
theorem dX6_number_12 : decode cX6_number 12 = .ok (.if_icmp .ge 29, 3) := by decide +kernel
theorem dX6_number_15 : decode cX6_number 15 = .ok (.sipush 1000, 3) := by decide +kernel
theorem dX6_number_18 : decode cX6_number 18 = .ok (.iload_n 1, 1) := by decide +kernel
theorem dX6_number_19 : decode cX6_number 19 = .ok (.bipush 10, 2) := by decide +kernel
theorem dX6_number_21 : decode cX6_number 21 = .ok (.imul, 1) := by decide +kernel
theorem dX6_number_22 : decode cX6_number 22 = .ok (.aload_n 0, 1) := by decide +kernel
theorem dX6_number_23 : decode cX6_number 23 = .ok (.iload_n 2, 1) := by decide +kernel
theorem dX6_number_24 : decode cX6_number 24 = .ok (.invokevirtual 28, 3) := by decide +kernel
theorem dX6_number_27 : decode cX6_number 27 = .ok (.iadd, 1) := by decide +kernel
theorem dX6_number_28 : decode cX6_number 28 = .ok (.bipush 48, 2) := by decide +kernel
theorem dX6_number_30 : decode cX6_number 30 = .ok (.isub, 1) := by decide +kernel
theorem dX6_number_31 : decode cX6_number 31 = .ok (.invokestatic 51, 3) := by decide +kernel
theorem dX6_number_34 : decode cX6_number 34 = .ok (.istore_n 1, 1) := by decide +kernel
theorem dX6_number_35 : decode cX6_number 35 = .ok (.iinc 2 1, 3) := by decide +kernel
theorem dX6_number_38 : decode cX6_number 38 = .ok (.goto (-31), 3) := by decide +kernel
theorem dX6_number_41 : decode cX6_number 41 = .ok (.iload_n 1, 1) := by decide +kernel
theorem dX6_number_42 : decode cX6_number 42 = .ok (.ireturn, 1) := by decide +kernel
theorem dX6_signs_0 : decode cX6_signs 0 = .ok (.aload_n 0, 1) := by decide +kernel
theorem dX6_signs_1 : decode cX6_signs 1 = .ok (.getfield 19, 3) := by decide +kernel
theorem dX6_signs_4 : decode cX6_signs 4 = .ok (.aload_n 0, 1) := by decide +kernel
theorem dX6_signs_5 : decode cX6_signs 5 = .ok (.getfield 25, 3) := by decide +kernel
theorem dX6_signs_8 : decode cX6_signs 8 = .ok (.isub, 1) := by decide +kernel
theorem dX6_signs_9 : decode cX6_signs 9 = .ok (.ireturn, 1) := by decide +kernel
theorem dX6_dots_0 : decode cX6_dots 0 = .ok (.lconst 0, 1) := by decide +kernel
theorem dX6_dots_1 : decode cX6_dots 1 = .ok (.lstore_n 1, 1) := by decide +kernel
theorem dX6_dots_2 : decode cX6_dots 2 = .ok (.iconst 0, 1) := by decide +kernel
theorem dX6_dots_3 : decode cX6_dots 3 = .ok (.istore_n 3, 1) := by decide +kernel
theorem dX6_dots_4 : decode cX6_dots 4 = .ok (.iload_n 3, 1) := by decide +kernel
theorem dX6_dots_5 : decode cX6_dots 5 = .ok (.aload_n 0, 1) := by decide +kernel
theorem dX6_dots_6 : decode cX6_dots 6 = .ok (.getfield 19, 3) := by decide +kernel
theorem dX6_dots_9 : decode cX6_dots 9 = .ok (.aload_n 0, 1) := by decide +kernel
theorem dX6_dots_10 : decode cX6_dots 10 = .ok (.getfield 25, 3) := by decide +kernel
theorem dX6_dots_13 : decode cX6_dots 13 = .ok (.isub, 1) := by decide +kernel
theorem dX6_dots_14 : decode cX6_dots 14 = .ok (.if_icmp .ge 36, 3) := by decide +kernel
theorem dX6_dots_17 : decode cX6_dots 17 = .ok (.iload_n 3, 1) := by decide +kernel
theorem dX6_dots_18 : decode cX6_dots 18 = .ok (.bipush 40, 2) := by decide +kernel
theorem dX6_dots_20 : decode cX6_dots 20 = .ok (.if_icmp .ge 30, 3) := by decide +kernel
theorem dX6_dots_23 : decode cX6_dots 23 = .ok (.aload_n 0, 1) := by decide +kernel
theorem dX6_dots_24 : decode cX6_dots 24 = .ok (.aload_n 0, 1) := by decide +kernel
theorem dX6_dots_25 : decode cX6_dots 25 = .ok (.getfield 25, 3) := by decide +kernel
theorem dX6_dots_28 : decode cX6_dots 28 = .ok (.iload_n 3, 1) := by decide +kernel
theorem dX6_dots_29 : decode cX6_dots 29 = .ok (.iadd, 1) := by decide +kernel
theorem dX6_dots_30 : decode cX6_dots 30 = .ok (.invokevirtual 28, 3) := by decide +kernel
theorem dX6_dots_33 : decode cX6_dots 33 = .ok (.bipush 35, 2) := by decide +kernel
theorem dX6_dots_35 : decode cX6_dots 35 = .ok (.if_icmp .ne 9, 3) := by decide +kernel
theorem dX6_dots_38 : decode cX6_dots 38 = .ok (.lload_n 1, 1) := by decide +kernel
theorem dX6_dots_39 : decode cX6_dots 39 = .ok (.lconst 1, 1) := by decide +kernel
theorem dX6_dots_40 : decode cX6_dots 40 = .ok (.iload_n 3, 1) := by decide +kernel
theorem dX6_dots_41 : decode cX6_dots 41 = .ok (.lshl, 1) := by decide +kernel
theorem dX6_dots_42 : decode cX6_dots 42 = .ok (.lor, 1) := by decide +kernel
theorem dX6_dots_43 : decode cX6_dots 43 = .ok (.lstore_n 1, 1) := by decide +kernel
theorem dX6_dots_44 : decode cX6_dots 44 = .ok (.iinc 3 1, 3) := by decide +kernel
theorem dX6_dots_47 : decode cX6_dots 47 = .ok (.goto (-43), 3) := by decide +kernel
theorem dX6_dots_50 : decode cX6_dots 50 = .ok (.lload_n 1, 1) := by decide +kernel
theorem dX6_dots_51 : decode cX6_dots 51 = .ok (.lreturn, 1) := by decide +kernel
theorem dX7_init_0 : decode cX7_init 0 = .ok (.aload_n 0, 1) := by decide +kernel
theorem dX7_init_1 : decode cX7_init 1 = .ok (.invokespecial 1, 3) := by decide +kernel
theorem dX7_init_4 : decode cX7_init 4 = .ok (.aload_n 0, 1) := by decide +kernel
theorem dX7_init_5 : decode cX7_init 5 = .ok (.new 7, 3) := by decide +kernel
theorem dX7_init_8 : decode cX7_init 8 = .ok (.dup, 1) := by decide +kernel
theorem dX7_init_9 : decode cX7_init 9 = .ok (.invokespecial 9, 3) := by decide +kernel
theorem dX7_init_12 : decode cX7_init 12 = .ok (.putfield 10, 3) := by decide +kernel
theorem dX7_init_15 : decode cX7_init 15 = .ok (.aload_n 0, 1) := by decide +kernel
theorem dX7_init_16 : decode cX7_init 16 = .ok (.new 16, 3) := by decide +kernel
theorem dX7_init_19 : decode cX7_init 19 = .ok (.dup, 1) := by decide +kernel
theorem dX7_init_20 : decode cX7_init 20 = .ok (.invokespecial 18, 3) := by decide +kernel
theorem dX7_init_23 : decode cX7_init 23 = .ok (.putfield 19, 3) := by decide +kernel
theorem dX7_init_26 : decode cX7_init 26 = .ok (.aload_n 0, 1) := by decide +kernel
theorem dX7_init_27 : decode cX7_init 27 = .ok (.iconst 2, 1) := by decide +kernel
theorem dX7_init_28 : decode cX7_init 28 = .ok (.anewarray 7, 3) := by decide +kernel
theorem dX7_init_31 : decode cX7_init 31 = .ok (.putfield 23, 3) := by decide +kernel
theorem dX7_init_34 : decode cX7_init 34 = .ok (.aload_n 0, 1) := by decide +kernel
theorem dX7_init_35 : decode cX7_init 35 = .ok (.new 27, 3) := by decide +kernel
theorem dX7_init_38 : decode cX7_init 38 = .ok (.dup, 1) := by decide +kernel
theorem dX7_init_39 : decode cX7_init 39 = .ok (.invokespecial 29, 3) := by decide +kernel
theorem dX7_init_42 : decode cX7_init 42 = .ok (.putfield 30, 3) := by decide +kernel
theorem dX7_init_45 : decode cX7_init 45 = .ok (.aload_n 0, 1) := by decide +kernel
theorem dX7_init_46 : decode cX7_init 46 = .ok (.new 34, 3) := by decide +kernel
theorem dX7_init_49 : decode cX7_init 49 = .ok (.dup, 1) := by decide +kernel
theorem dX7_init_50 : decode cX7_init 50 = .ok (.invokespecial 36, 3) := by decide +kernel
theorem dX7_init_53 : decode cX7_init 53 = .ok (.putfield 37, 3) := by decide +kernel
theorem dX7_init_56 : decode cX7_init 56 = .ok (.aload_n 0, 1) := by decide +kernel
theorem dX7_init_57 : decode cX7_init 57 = .ok (.new 41, 3) := by decide +kernel
theorem dX7_init_60 : decode cX7_init 60 = .ok (.dup, 1) := by decide +kernel
theorem dX7_init_61 : decode cX7_init 61 = .ok (.invokespecial 43, 3) := by decide +kernel
theorem dX7_init_64 : decode cX7_init 64 = .ok (.putfield 44, 3) := by decide +kernel
theorem dX7_init_67 : decode cX7_init 67 = .ok (.aload_n 0, 1) := by decide +kernel
theorem dX7_init_68 : decode cX7_init 68 = .ok (.sipush 300, 3) := by decide +kernel
theorem dX7_init_71 : decode cX7_init 71 = .ok (.newarray .byte, 2) := by decide +kernel
theorem dX7_init_73 : decode cX7_init 73 = .ok (.putfield 48, 3) := by decide +kernel
theorem dX7_init_76 : decode cX7_init 76 = .ok (.aload_n 0, 1) := by decide +kernel
theorem dX7_init_77 : decode cX7_init 77 = .ok (.iconst 0, 1) := by decide +kernel
theorem dX7_init_78 : decode cX7_init 78 = .ok (.putfield 52, 3) := by decide +kernel
theorem dX7_init_81 : decode cX7_init 81 = .ok (.return_, 1) := by decide +kernel
theorem dX7_appendText_0 : decode cX7_appendText 0 = .ok (.aload_n 0, 1) := by decide +kernel
theorem dX7_appendText_1 : decode cX7_appendText 1 = .ok (.getfield 30, 3) := by decide +kernel
theorem dX7_appendText_4 : decode cX7_appendText 4 = .ok (.getfield 56, 3) := by decide +kernel
theorem dX7_appendText_7 : decode cX7_appendText 7 = .ok (.getfield 60, 3) := by decide +kernel
theorem dX7_appendText_10 : decode cX7_appendText 10 = .ok (.iconst 4, 1) := by decide +kernel
theorem dX7_appendText_11 : decode cX7_appendText 11 = .ok (.iadd, 1) := by decide +kernel
theorem dX7_appendText_12 : decode cX7_appendText 12 = .ok (.sipush 900, 3) := by decide +kernel
theorem dX7_appendText_15 : decode cX7_appendText 15 = .ok (.if_icmp .le 13, 3) := by decide +kernel
theorem dX7_appendText_18 : decode cX7_appendText 18 = .ok (.new 65, 3) := by decide +kernel
theorem dX7_appendText_21 : decode cX7_appendText 21 = .ok (.dup, 1) := by decide +kernel
theorem dX7_appendText_22 : decode cX7_appendText 22 = .ok (.ldc 67, 2) := by decide +kernel
theorem dX7_appendText_24 : decode cX7_appendText 24 = .ok (.invokespecial 69, 3) := by decide +kernel
theorem dX7_appendText_27 : decode cX7_appendText 27 = .ok (.athrow, 1) := by decide +kernel
theorem dX7_appendText_28 : decode cX7_appendText 28 = .ok (.aload_n 0, 1) := by decide +kernel
theorem dX7_appendText_29 : decode cX7_appendText 29 = .ok (.getfield 30, 3) := by decide +kernel
theorem dX7_appendText_32 : decode cX7_appendText 32 = .ok (.getfield 56, 3) := by decide +kernel
theorem dX7_appendText_35 : decode cX7_appendText 35 = .ok (.iload_n 1, 1) := by decide +kernel
theorem dX7_appendText_36 : decode cX7_appendText 36 = .ok (.bipush 24, 2) := by decide +kernel
theorem dX7_appendText_38 : decode cX7_appendText 38 = .ok (.iushr, 1) := by decide +kernel
theorem dX7_appendText_39 : decode cX7_appendText 39 = .ok (.invokevirtual 72, 3) := by decide +kernel
theorem dX7_appendText_42 : decode cX7_appendText 42 = .ok (.aload_n 0, 1) := by decide +kernel
theorem dX7_appendText_43 : decode cX7_appendText 43 = .ok (.getfield 30, 3) := by decide +kernel
theorem dX7_appendText_46 : decode cX7_appendText 46 = .ok (.getfield 56, 3) := by decide +kernel
theorem dX7_appendText_49 : decode cX7_appendText 49 = .ok (.iload_n 1, 1) := by decide +kernel
theorem dX7_appendText_50 : decode cX7_appendText 50 = .ok (.bipush 16, 2) := by decide +kernel
theorem dX7_appendText_52 : decode cX7_appendText 52 = .ok (.iushr, 1) := by decide +kernel
theorem dX7_appendText_53 : decode cX7_appendText 53 = .ok (.invokevirtual 72, 3) := by decide +kernel
theorem dX7_appendText_56 : decode cX7_appendText 56 = .ok (.aload_n 0, 1) := by decide +kernel
theorem dX7_appendText_57 : decode cX7_appendText 57 = .ok (.getfield 30, 3) := by decide +kernel
theorem dX7_appendText_60 : decode cX7_appendText 60 = .ok (.getfield 56, 3) := by decide +kernel
theorem dX7_appendText_63 : decode cX7_appendText 63 = .ok (.iload_n 1, 1) := by decide +kernel
theorem dX7_appendText_64 : decode cX7_appendText 64 = .ok (.bipush 8, 2) := by decide +kernel
theorem dX7_appendText_66 : decode cX7_appendText 66 = .ok (.iushr, 1) := by decide +kernel
theorem dX7_appendText_67 : decode cX7_appendText 67 = .ok (.invokevirtual 72, 3) := by decide +kernel
theorem dX7_appendText_70 : decode cX7_appendText 70 = .ok (.aload_n 0, 1) := by decide +kernel
theorem dX7_appendText_71 : decode cX7_appendText 71 = .ok (.getfield 30, 3) := by decide +kernel
theorem dX7_appendText_74 : decode cX7_appendText 74 = .ok (.getfield 56, 3) := by decide +kernel
theorem dX7_appendText_77 : decode cX7_appendText 77 = .ok (.iload_n 1, 1) := by decide +kernel
theorem dX7_appendText_78 : decode cX7_appendText 78 = .ok (.invokevirtual 72, 3) := by decide +kernel
theorem dX7_appendText_81 : decode cX7_appendText 81 = .ok (.aload_n 0, 1) := by decide +kernel
theorem dX7_appendText_82 : decode cX7_appendText 82 = .ok (.getfield 30, 3) := by decide +kernel
theorem dX7_appendText_85 : decode cX7_appendText 85 = .ok (.getfield 56, 3) := by decide +kernel
theorem dX7_appendText_88 : decode cX7_appendText 88 = .ok (.getfield 60, 3) := by decide +kernel
theorem dX7_appendText_91 : decode cX7_appendText 91 = .ok (.ireturn, 1) := by decide +kernel
theorem dX7_truncateText_0 : decode cX7_truncateText 0 = .ok (.iload_n 1, 1) := by decide +kernel
theorem dX7_truncateText_1 : decode cX7_truncateText 1 = .ok (.ifCond .lt 17, 3) := by decide +kernel
theorem dX7_truncateText_4 : decode cX7_truncateText 4 = .ok (.iload_n 1, 1) := by decide +kernel
theorem dX7_truncateText_5 : decode cX7_truncateText 5 = .ok (.aload_n 0, 1) := by decide +kernel
theorem dX7_truncateText_6 : decode cX7_truncateText 6 = .ok (.getfield 30, 3) := by decide +kernel
theorem dX7_truncateText_9 : decode cX7_truncateText 9 = .ok (.getfield 56, 3) := by decide +kernel
theorem dX7_truncateText_12 : decode cX7_truncateText 12 = .ok (.getfield 60, 3) := by decide +kernel
theorem dX7_truncateText_15 : decode cX7_truncateText 15 = .ok (.if_icmp .le 13, 3) := by decide +kernel
theorem dX7_truncateText_18 : decode cX7_truncateText 18 = .ok (.new 76, 3) := by decide +kernel
theorem dX7_truncateText_21 : decode cX7_truncateText 21 = .ok (.dup, 1) := by decide +kernel
theorem dX7_truncateText_22 : decode cX7_truncateText 22 = .ok (.ldc 78, 2) := by decide +kernel
theorem dX7_truncateText_24 : decode cX7_truncateText 24 = .ok (.invokespecial 80, 3) := by decide +kernel
theorem dX7_truncateText_27 : decode cX7_truncateText 27 = .ok (.athrow, 1) := by decide +kernel
theorem dX7_truncateText_28 : decode cX7_truncateText 28 = .ok (.aload_n 0, 1) := by decide +kernel
theorem dX7_truncateText_29 : decode cX7_truncateText 29 = .ok (.getfield 30, 3) := by decide +kernel
theorem dX7_truncateText_32 : decode cX7_truncateText 32 = .ok (.getfield 56, 3) := by decide +kernel
theorem dX7_truncateText_35 : decode cX7_truncateText 35 = .ok (.iload_n 1, 1) := by decide +kernel
theorem dX7_truncateText_36 : decode cX7_truncateText 36 = .ok (.putfield 60, 3) := by decide +kernel
theorem dX7_truncateText_39 : decode cX7_truncateText 39 = .ok (.iload_n 1, 1) := by decide +kernel
theorem dX7_truncateText_40 : decode cX7_truncateText 40 = .ok (.ireturn, 1) := by decide +kernel
theorem dX7_load_0 : decode cX7_load 0 = .ok (.aload_n 0, 1) := by decide +kernel
theorem dX7_load_1 : decode cX7_load 1 = .ok (.getfield 30, 3) := by decide +kernel
theorem dX7_load_4 : decode cX7_load 4 = .ok (.invokevirtual 81, 3) := by decide +kernel
theorem dX7_load_7 : decode cX7_load 7 = .ok (.istore_n 1, 1) := by decide +kernel
theorem dX7_load_8 : decode cX7_load 8 = .ok (.aload_n 0, 1) := by decide +kernel
theorem dX7_load_9 : decode cX7_load 9 = .ok (.getfield 30, 3) := by decide +kernel
theorem dX7_load_12 : decode cX7_load 12 = .ok (.getfield 56, 3) := by decide +kernel
theorem dX7_load_15 : decode cX7_load 15 = .ok (.iconst 0, 1) := by decide +kernel
theorem dX7_load_16 : decode cX7_load 16 = .ok (.putfield 60, 3) := by decide +kernel
theorem dX7_load_19 : decode cX7_load 19 = .ok (.iload_n 1, 1) := by decide +kernel
theorem dX7_load_20 : decode cX7_load 20 = .ok (.ifCond .ne 5, 3) := by decide +kernel
theorem dX7_load_23 : decode cX7_load 23 = .ok (.iconst (-1), 1) := by decide +kernel
theorem dX7_load_24 : decode cX7_load 24 = .ok (.ireturn, 1) := by decide +kernel
theorem dX7_load_25 : decode cX7_load 25 = .ok (.aload_n 0, 1) := by decide +kernel
theorem dX7_load_26 : decode cX7_load 26 = .ok (.getfield 10, 3) := by decide +kernel
theorem dX7_load_29 : decode cX7_load 29 = .ok (.aload_n 0, 1) := by decide +kernel
theorem dX7_load_30 : decode cX7_load 30 = .ok (.getfield 30, 3) := by decide +kernel
theorem dX7_load_33 : decode cX7_load 33 = .ok (.getfield 85, 3) := by decide +kernel
theorem dX7_load_36 : decode cX7_load 36 = .ok (.invokevirtual 86, 3) := by decide +kernel
theorem dX7_load_39 : decode cX7_load 39 = .ok (.aload_n 0, 1) := by decide +kernel
theorem dX7_load_40 : decode cX7_load 40 = .ok (.getfield 19, 3) := by decide +kernel
theorem dX7_load_43 : decode cX7_load 43 = .ok (.invokevirtual 90, 3) := by decide +kernel
theorem dX7_load_46 : decode cX7_load 46 = .ok (.aload_n 0, 1) := by decide +kernel
theorem dX7_load_47 : decode cX7_load 47 = .ok (.getfield 10, 3) := by decide +kernel
theorem dX7_load_50 : decode cX7_load 50 = .ok (.getfield 93, 3) := by decide +kernel
theorem dX7_load_53 : decode cX7_load 53 = .ok (.ireturn, 1) := by decide +kernel
theorem dX7_errorCode_0 : decode cX7_errorCode 0 = .ok (.aload_n 0, 1) := by decide +kernel
theorem dX7_errorCode_1 : decode cX7_errorCode 1 = .ok (.getfield 30, 3) := by decide +kernel
theorem dX7_errorCode_4 : decode cX7_errorCode 4 = .ok (.getfield 96, 3) := by decide +kernel
theorem dX7_errorCode_7 : decode cX7_errorCode 7 = .ok (.ireturn, 1) := by decide +kernel
theorem dX7_count_0 : decode cX7_count 0 = .ok (.iload_n 1, 1) := by decide +kernel
theorem dX7_count_1 : decode cX7_count 1 = .ok (.ifCond .lt 9, 3) := by decide +kernel
theorem dX7_count_4 : decode cX7_count 4 = .ok (.iload_n 1, 1) := by decide +kernel
theorem dX7_count_5 : decode cX7_count 5 = .ok (.bipush 12, 2) := by decide +kernel
theorem dX7_count_7 : decode cX7_count 7 = .ok (.if_icmp .le 13, 3) := by decide +kernel
theorem dX7_count_10 : decode cX7_count 10 = .ok (.new 76, 3) := by decide +kernel
theorem dX7_count_13 : decode cX7_count 13 = .ok (.dup, 1) := by decide +kernel
theorem dX7_count_14 : decode cX7_count 14 = .ok (.ldc 102, 2) := by decide +kernel
theorem dX7_count_16 : decode cX7_count 16 = .ok (.invokespecial 80, 3) := by decide +kernel
theorem dX7_count_19 : decode cX7_count 19 = .ok (.athrow, 1) := by decide +kernel
theorem dX7_count_20 : decode cX7_count 20 = .ok (.iload_n 1, 1) := by decide +kernel
theorem dX7_count_21 : decode cX7_count 21 = .ok (.bipush 6, 2) := by decide +kernel
theorem dX7_count_23 : decode cX7_count 23 = .ok (.if_icmp .ge 13, 3) := by decide +kernel
theorem dX7_count_26 : decode cX7_count 26 = .ok (.aload_n 0, 1) := by decide +kernel
theorem dX7_count_27 : decode cX7_count 27 = .ok (.getfield 10, 3) := by decide +kernel
theorem dX7_count_30 : decode cX7_count 30 = .ok (.getfield 104, 3) := by decide +kernel
theorem dX7_count_33 : decode cX7_count 33 = .ok (.iload_n 1, 1) := by decide +kernel
theorem dX7_count_34 : decode cX7_count 34 = .ok (.iaload, 1) := by decide +kernel
theorem dX7_count_35 : decode cX7_count 35 = .ok (.ireturn, 1) := by decide +kernel
theorem dX7_count_36 : decode cX7_count 36 = .ok (.iload_n 1, 1) := by decide +kernel
theorem dX7_count_37 : decode cX7_count 37 = .ok (.tableswitch 78 6 11 #[39, 47, 55, 60, 65, 70], 39) := by decide +kernel
theorem dX7_count_76 : decode cX7_count 76 = .ok (.aload_n 0, 1) := by decide +kernel
theorem dX7_count_77 : decode cX7_count 77 = .ok (.getfield 10, 3) := by decide +kernel
theorem dX7_count_80 : decode cX7_count 80 = .ok (.getfield 108, 3) := by decide +kernel
theorem dX7_count_83 : decode cX7_count 83 = .ok (.ireturn, 1) := by decide +kernel
theorem dX7_count_84 : decode cX7_count 84 = .ok (.aload_n 0, 1) := by decide +kernel
theorem dX7_count_85 : decode cX7_count 85 = .ok (.getfield 10, 3) := by decide +kernel
theorem dX7_count_88 : decode cX7_count 88 = .ok (.getfield 93, 3) := by decide +kernel
theorem dX7_count_91 : decode cX7_count 91 = .ok (.ireturn, 1) := by decide +kernel
theorem dX7_count_92 : decode cX7_count 92 = .ok (.aload_n 0, 1) := by decide +kernel
theorem dX7_count_93 : decode cX7_count 93 = .ok (.invokevirtual 111, 3) := by decide +kernel
theorem dX7_count_96 : decode cX7_count 96 = .ok (.ireturn, 1) := by decide +kernel
theorem dX7_count_97 : decode cX7_count 97 = .ok (.aload_n 0, 1) := by decide +kernel
theorem dX7_count_98 : decode cX7_count 98 = .ok (.invokevirtual 115, 3) := by decide +kernel
theorem dX7_count_101 : decode cX7_count 101 = .ok (.ireturn, 1) := by decide +kernel
theorem dX7_count_102 : decode cX7_count 102 = .ok (.aload_n 0, 1) := by decide +kernel
theorem dX7_count_103 : decode cX7_count 103 = .ok (.invokevirtual 118, 3) := by decide +kernel
theorem dX7_count_106 : decode cX7_count 106 = .ok (.ireturn, 1) := by decide +kernel
theorem dX7_count_107 : decode cX7_count 107 = .ok (.aload_n 0, 1) := by decide +kernel
theorem dX7_count_108 : decode cX7_count 108 = .ok (.getfield 19, 3) := by decide +kernel
theorem dX7_count_111 : decode cX7_count 111 = .ok (.getfield 121, 3) := by decide +kernel
theorem dX7_count_114 : decode cX7_count 114 = .ok (.ireturn, 1) := by decide +kernel
theorem dX7_count_115 : decode cX7_count 115 = .ok (.aload_n 0, 1) := by decide +kernel
theorem dX7_count_116 : decode cX7_count 116 = .ok (.invokevirtual 124, 3) := by decide +kernel
theorem dX7_count_119 : decode cX7_count 119 = .ok (.ireturn, 1) := by decide +kernel
theorem dX7_dot_0 : decode cX7_dot 0 = .ok (.aload_n 0, 1) := by decide +kernel
theorem dX7_dot_1 : decode cX7_dot 1 = .ok (.iload_n 1, 1) := by decide +kernel
theorem dX7_dot_2 : decode cX7_dot 2 = .ok (.iload_n 2, 1) := by decide +kernel
theorem dX7_dot_3 : decode cX7_dot 3 = .ok (.invokevirtual 127, 3) := by decide +kernel
theorem dX7_dot_6 : decode cX7_dot 6 = .ok (.aload_n 0, 1) := by decide +kernel
theorem dX7_dot_7 : decode cX7_dot 7 = .ok (.getfield 10, 3) := by decide +kernel
theorem dX7_dot_10 : decode cX7_dot 10 = .ok (.iload_n 1, 1) := by decide +kernel
theorem dX7_dot_11 : decode cX7_dot 11 = .ok (.invokevirtual 131, 3) := by decide +kernel
theorem dX7_dot_14 : decode cX7_dot 14 = .ok (.iload_n 2, 1) := by decide +kernel
theorem dX7_dot_15 : decode cX7_dot 15 = .ok (.invokestatic 135, 3) := by decide +kernel
theorem dX7_dot_18 : decode cX7_dot 18 = .ok (.ireturn, 1) := by decide +kernel
theorem dX7_line_0 : decode cX7_line 0 = .ok (.aload_n 0, 1) := by decide +kernel
theorem dX7_line_1 : decode cX7_line 1 = .ok (.iload_n 1, 1) := by decide +kernel
theorem dX7_line_2 : decode cX7_line 2 = .ok (.invokevirtual 139, 3) := by decide +kernel
theorem dX7_line_5 : decode cX7_line 5 = .ok (.iload_n 2, 1) := by decide +kernel
theorem dX7_line_6 : decode cX7_line 6 = .ok (.ifCond .lt 9, 3) := by decide +kernel
theorem dX7_line_9 : decode cX7_line 9 = .ok (.iload_n 2, 1) := by decide +kernel
theorem dX7_line_10 : decode cX7_line 10 = .ok (.bipush 11, 2) := by decide +kernel
theorem dX7_line_12 : decode cX7_line 12 = .ok (.if_icmp .le 13, 3) := by decide +kernel
theorem dX7_line_15 : decode cX7_line 15 = .ok (.new 76, 3) := by decide +kernel
theorem dX7_line_18 : decode cX7_line 18 = .ok (.dup, 1) := by decide +kernel
theorem dX7_line_19 : decode cX7_line 19 = .ok (.ldc 102, 2) := by decide +kernel
theorem dX7_line_21 : decode cX7_line 21 = .ok (.invokespecial 80, 3) := by decide +kernel
theorem dX7_line_24 : decode cX7_line 24 = .ok (.athrow, 1) := by decide +kernel
theorem dX7_line_25 : decode cX7_line 25 = .ok (.aload_n 0, 1) := by decide +kernel
theorem dX7_line_26 : decode cX7_line 26 = .ok (.iload_n 1, 1) := by decide +kernel
theorem dX7_line_27 : decode cX7_line 27 = .ok (.invokevirtual 142, 3) := by decide +kernel
theorem dX7_line_30 : decode cX7_line 30 = .ok (.iload_n 2, 1) := by decide +kernel
theorem dX7_line_31 : decode cX7_line 31 = .ok (.tableswitch 216 0 10 #[57, 71, 90, 98, 135, 159, 167, 176, 185, 194, 204], 57) := by decide +kernel
theorem dX7_line_88 : decode cX7_line 88 = .ok (.aload_n 0, 1) := by decide +kernel
theorem dX7_line_89 : decode cX7_line 89 = .ok (.iload_n 1, 1) := by decide +kernel
theorem dX7_line_90 : decode cX7_line 90 = .ok (.invokevirtual 145, 3) := by decide +kernel
theorem dX7_line_93 : decode cX7_line 93 = .ok (.ifCond .eq 7, 3) := by decide +kernel
theorem dX7_line_96 : decode cX7_line 96 = .ok (.iconst 1, 1) := by decide +kernel
theorem dX7_line_97 : decode cX7_line 97 = .ok (.goto 4, 3) := by decide +kernel
theorem dX7_line_100 : decode cX7_line 100 = .ok (.iconst 0, 1) := by decide +kernel
theorem dX7_line_101 : decode cX7_line 101 = .ok (.ireturn, 1) := by decide +kernel
theorem dX7_line_102 : decode cX7_line 102 = .ok (.aload_n 0, 1) := by decide +kernel
theorem dX7_line_103 : decode cX7_line 103 = .ok (.getfield 10, 3) := by decide +kernel
theorem dX7_line_106 : decode cX7_line 106 = .ok (.iload_n 1, 1) := by decide +kernel
theorem dX7_line_107 : decode cX7_line 107 = .ok (.invokevirtual 131, 3) := by decide +kernel
theorem dX7_line_110 : decode cX7_line 110 = .ok (.aload_n 0, 1) := by decide +kernel
theorem dX7_line_111 : decode cX7_line 111 = .ok (.getfield 10, 3) := by decide +kernel
theorem dX7_line_114 : decode cX7_line 114 = .ok (.getfield 108, 3) := by decide +kernel
theorem dX7_line_117 : decode cX7_line 117 = .ok (.invokestatic 149, 3) := by decide +kernel
theorem dX7_line_120 : decode cX7_line 120 = .ok (.ireturn, 1) := by decide +kernel
theorem dX7_line_121 : decode cX7_line 121 = .ok (.aload_n 0, 1) := by decide +kernel
theorem dX7_line_122 : decode cX7_line 122 = .ok (.getfield 37, 3) := by decide +kernel
theorem dX7_line_125 : decode cX7_line 125 = .ok (.getfield 152, 3) := by decide +kernel
theorem dX7_line_128 : decode cX7_line 128 = .ok (.ireturn, 1) := by decide +kernel
theorem dX7_line_129 : decode cX7_line 129 = .ok (.aload_n 0, 1) := by decide +kernel
theorem dX7_line_130 : decode cX7_line 130 = .ok (.iload_n 1, 1) := by decide +kernel
theorem dX7_line_131 : decode cX7_line 131 = .ok (.invokevirtual 145, 3) := by decide +kernel
theorem dX7_line_134 : decode cX7_line 134 = .ok (.ifCond .eq 24, 3) := by decide +kernel
theorem dX7_line_137 : decode cX7_line 137 = .ok (.aload_n 0, 1) := by decide +kernel
theorem dX7_line_138 : decode cX7_line 138 = .ok (.getfield 10, 3) := by decide +kernel
theorem dX7_line_141 : decode cX7_line 141 = .ok (.iload_n 1, 1) := by decide +kernel
theorem dX7_line_142 : decode cX7_line 142 = .ok (.invokevirtual 131, 3) := by decide +kernel
theorem dX7_line_145 : decode cX7_line 145 = .ok (.aload_n 0, 1) := by decide +kernel
theorem dX7_line_146 : decode cX7_line 146 = .ok (.getfield 10, 3) := by decide +kernel
theorem dX7_line_149 : decode cX7_line 149 = .ok (.getfield 108, 3) := by decide +kernel
theorem dX7_line_152 : decode cX7_line 152 = .ok (.invokestatic 149, 3) := by decide +kernel
theorem dX7_line_155 : decode cX7_line 155 = .ok (.goto 10, 3) := by decide +kernel
theorem dX7_line_158 : decode cX7_line 158 = .ok (.aload_n 0, 1) := by decide +kernel
theorem dX7_line_159 : decode cX7_line 159 = .ok (.getfield 37, 3) := by decide +kernel
theorem dX7_line_162 : decode cX7_line 162 = .ok (.getfield 152, 3) := by decide +kernel
theorem dX7_line_165 : decode cX7_line 165 = .ok (.ireturn, 1) := by decide +kernel
theorem dX7_line_166 : decode cX7_line 166 = .ok (.aload_n 0, 1) := by decide +kernel
theorem dX7_line_167 : decode cX7_line 167 = .ok (.getfield 10, 3) := by decide +kernel
theorem dX7_line_170 : decode cX7_line 170 = .ok (.iload_n 1, 1) := by decide +kernel
theorem dX7_line_171 : decode cX7_line 171 = .ok (.invokevirtual 131, 3) := by decide +kernel
theorem dX7_line_174 : decode cX7_line 174 = .ok (.aload_n 0, 1) := by decide +kernel
theorem dX7_line_175 : decode cX7_line 175 = .ok (.getfield 10, 3) := by decide +kernel
theorem dX7_line_178 : decode cX7_line 178 = .ok (.getfield 108, 3) := by decide +kernel
theorem dX7_line_181 : decode cX7_line 181 = .ok (.invokestatic 155, 3) := by decide +kernel
theorem dX7_line_184 : decode cX7_line 184 = .ok (.invokestatic 159, 3) := by decide +kernel
theorem dX7_line_187 : decode cX7_line 187 = .ok (.iconst 1, 1) := by decide +kernel
theorem dX7_line_188 : decode cX7_line 188 = .ok (.iadd, 1) := by decide +kernel
theorem dX7_line_189 : decode cX7_line 189 = .ok (.ireturn, 1) := by decide +kernel
theorem dX7_line_190 : decode cX7_line 190 = .ok (.aload_n 0, 1) := by decide +kernel
theorem dX7_line_191 : decode cX7_line 191 = .ok (.getfield 37, 3) := by decide +kernel
theorem dX7_line_194 : decode cX7_line 194 = .ok (.getfield 165, 3) := by decide +kernel
theorem dX7_line_197 : decode cX7_line 197 = .ok (.ireturn, 1) := by decide +kernel
theorem dX7_line_198 : decode cX7_line 198 = .ok (.aload_n 0, 1) := by decide +kernel
theorem dX7_line_199 : decode cX7_line 199 = .ok (.getfield 37, 3) := by decide +kernel
theorem dX7_line_202 : decode cX7_line 202 = .ok (.iconst 0, 1) := by decide +kernel
theorem dX7_line_203 : decode cX7_line 203 = .ok (.invokevirtual 168, 3) := by decide +kernel
theorem dX7_line_206 : decode cX7_line 206 = .ok (.ireturn, 1) := by decide +kernel
theorem dX7_line_207 : decode cX7_line 207 = .ok (.aload_n 0, 1) := by decide +kernel
theorem dX7_line_208 : decode cX7_line 208 = .ok (.getfield 37, 3) := by decide +kernel
theorem dX7_line_211 : decode cX7_line 211 = .ok (.iconst 1, 1) := by decide +kernel
theorem dX7_line_212 : decode cX7_line 212 = .ok (.invokevirtual 168, 3) := by decide +kernel
theorem dX7_line_215 : decode cX7_line 215 = .ok (.ireturn, 1) := by decide +kernel
theorem dX7_line_216 : decode cX7_line 216 = .ok (.aload_n 0, 1) := by decide +kernel
theorem dX7_line_217 : decode cX7_line 217 = .ok (.getfield 37, 3) := by decide +kernel
theorem dX7_line_220 : decode cX7_line 220 = .ok (.iconst 2, 1) := by decide +kernel
theorem dX7_line_221 : decode cX7_line 221 = .ok (.invokevirtual 168, 3) := by decide +kernel
theorem dX7_line_224 : decode cX7_line 224 = .ok (.ireturn, 1) := by decide +kernel
theorem dX7_line_225 : decode cX7_line 225 = .ok (.aload_n 0, 1) := by decide +kernel
theorem dX7_line_226 : decode cX7_line 226 = .ok (.getfield 10, 3) := by decide +kernel
theorem dX7_line_229 : decode cX7_line 229 = .ok (.getfield 172, 3) := by decide +kernel
theorem dX7_line_232 : decode cX7_line 232 = .ok (.iload_n 1, 1) := by decide +kernel
theorem dX7_line_233 : decode cX7_line 233 = .ok (.iaload, 1) := by decide +kernel
theorem dX7_line_234 : decode cX7_line 234 = .ok (.ireturn, 1) := by decide +kernel
theorem dX7_line_235 : decode cX7_line 235 = .ok (.aload_n 0, 1) := by decide +kernel
theorem dX7_line_236 : decode cX7_line 236 = .ok (.getfield 10, 3) := by decide +kernel
theorem dX7_line_239 : decode cX7_line 239 = .ok (.iload_n 1, 1) := by decide +kernel
theorem dX7_line_240 : decode cX7_line 240 = .ok (.invokevirtual 131, 3) := by decide +kernel
theorem dX7_line_243 : decode cX7_line 243 = .ok (.invokestatic 159, 3) := by decide +kernel
theorem dX7_line_246 : decode cX7_line 246 = .ok (.ireturn, 1) := by decide +kernel
theorem dX7_line_247 : decode cX7_line 247 = .ok (.aload_n 0, 1) := by decide +kernel
theorem dX7_line_248 : decode cX7_line 248 = .ok (.iload_n 1, 1) := by decide +kernel
theorem dX7_line_249 : decode cX7_line 249 = .ok (.invokevirtual 175, 3) := by decide +kernel
theorem dX7_line_252 : decode cX7_line 252 = .ok (.ireturn, 1) := by decide +kernel
theorem dX7_run_0 : decode cX7_run 0 = .ok (.aload_n 0, 1) := by decide +kernel
theorem dX7_run_1 : decode cX7_run 1 = .ok (.iload_n 1, 1) := by decide +kernel
theorem dX7_run_2 : decode cX7_run 2 = .ok (.iload_n 2, 1) := by decide +kernel
theorem dX7_run_3 : decode cX7_run 3 = .ok (.invokevirtual 178, 3) := by decide +kernel
theorem dX7_run_6 : decode cX7_run 6 = .ok (.aload_n 0, 1) := by decide +kernel
theorem dX7_run_7 : decode cX7_run 7 = .ok (.getfield 10, 3) := by decide +kernel
theorem dX7_run_10 : decode cX7_run 10 = .ok (.iload_n 1, 1) := by decide +kernel
theorem dX7_run_11 : decode cX7_run 11 = .ok (.invokevirtual 131, 3) := by decide +kernel
theorem dX7_run_14 : decode cX7_run 14 = .ok (.aload_n 0, 1) := by decide +kernel
theorem dX7_run_15 : decode cX7_run 15 = .ok (.getfield 10, 3) := by decide +kernel
theorem dX7_run_18 : decode cX7_run 18 = .ok (.getfield 108, 3) := by decide +kernel
theorem dX7_run_21 : decode cX7_run 21 = .ok (.iload_n 2, 1) := by decide +kernel
theorem dX7_run_22 : decode cX7_run 22 = .ok (.invokestatic 181, 3) := by decide +kernel
theorem dX7_run_25 : decode cX7_run 25 = .ok (.ireturn, 1) := by decide +kernel
theorem dX7_mode_0 : decode cX7_mode 0 = .ok (.aload_n 0, 1) := by decide +kernel
theorem dX7_mode_1 : decode cX7_mode 1 = .ok (.iload_n 1, 1) := by decide +kernel
theorem dX7_mode_2 : decode cX7_mode 2 = .ok (.iload_n 2, 1) := by decide +kernel
theorem dX7_mode_3 : decode cX7_mode 3 = .ok (.invokevirtual 178, 3) := by decide +kernel
theorem dX7_mode_6 : decode cX7_mode 6 = .ok (.iload_n 3, 1) := by decide +kernel
theorem dX7_mode_7 : decode cX7_mode 7 = .ok (.ifCond .lt 8, 3) := by decide +kernel
theorem dX7_mode_10 : decode cX7_mode 10 = .ok (.iload_n 3, 1) := by decide +kernel
theorem dX7_mode_11 : decode cX7_mode 11 = .ok (.iconst 3, 1) := by decide +kernel
theorem dX7_mode_12 : decode cX7_mode 12 = .ok (.if_icmp .le 13, 3) := by decide +kernel
theorem dX7_mode_15 : decode cX7_mode 15 = .ok (.new 76, 3) := by decide +kernel
theorem dX7_mode_18 : decode cX7_mode 18 = .ok (.dup, 1) := by decide +kernel
theorem dX7_mode_19 : decode cX7_mode 19 = .ok (.ldc 102, 2) := by decide +kernel
theorem dX7_mode_21 : decode cX7_mode 21 = .ok (.invokespecial 80, 3) := by decide +kernel
theorem dX7_mode_24 : decode cX7_mode 24 = .ok (.athrow, 1) := by decide +kernel
theorem dX7_mode_25 : decode cX7_mode 25 = .ok (.aload_n 0, 1) := by decide +kernel
theorem dX7_mode_26 : decode cX7_mode 26 = .ok (.iload_n 1, 1) := by decide +kernel
theorem dX7_mode_27 : decode cX7_mode 27 = .ok (.invokevirtual 142, 3) := by decide +kernel
theorem dX7_mode_30 : decode cX7_mode 30 = .ok (.aload_n 0, 1) := by decide +kernel
theorem dX7_mode_31 : decode cX7_mode 31 = .ok (.getfield 37, 3) := by decide +kernel
theorem dX7_mode_34 : decode cX7_mode 34 = .ok (.iload_n 2, 1) := by decide +kernel
theorem dX7_mode_35 : decode cX7_mode 35 = .ok (.iload_n 3, 1) := by decide +kernel
theorem dX7_mode_36 : decode cX7_mode 36 = .ok (.invokevirtual 185, 3) := by decide +kernel
theorem dX7_mode_39 : decode cX7_mode 39 = .ok (.ireturn, 1) := by decide +kernel
theorem dX7_readBelow_0 : decode cX7_readBelow 0 = .ok (.aload_n 0, 1) := by decide +kernel
theorem dX7_readBelow_1 : decode cX7_readBelow 1 = .ok (.iload_n 1, 1) := by decide +kernel
theorem dX7_readBelow_2 : decode cX7_readBelow 2 = .ok (.invokevirtual 139, 3) := by decide +kernel
theorem dX7_readBelow_5 : decode cX7_readBelow 5 = .ok (.iload_n 2, 1) := by decide +kernel
theorem dX7_readBelow_6 : decode cX7_readBelow 6 = .ok (.iconst (-1), 1) := by decide +kernel
theorem dX7_readBelow_7 : decode cX7_readBelow 7 = .ok (.if_icmp .eq 8, 3) := by decide +kernel
theorem dX7_readBelow_10 : decode cX7_readBelow 10 = .ok (.aload_n 0, 1) := by decide +kernel
theorem dX7_readBelow_11 : decode cX7_readBelow 11 = .ok (.iload_n 2, 1) := by decide +kernel
theorem dX7_readBelow_12 : decode cX7_readBelow 12 = .ok (.invokevirtual 139, 3) := by decide +kernel
theorem dX7_readBelow_15 : decode cX7_readBelow 15 = .ok (.aload_n 0, 1) := by decide +kernel
theorem dX7_readBelow_16 : decode cX7_readBelow 16 = .ok (.iload_n 1, 1) := by decide +kernel
theorem dX7_readBelow_17 : decode cX7_readBelow 17 = .ok (.invokevirtual 142, 3) := by decide +kernel
theorem dX7_readBelow_20 : decode cX7_readBelow 20 = .ok (.aload_n 0, 1) := by decide +kernel
theorem dX7_readBelow_21 : decode cX7_readBelow 21 = .ok (.getfield 37, 3) := by decide +kernel
theorem dX7_readBelow_24 : decode cX7_readBelow 24 = .ok (.aload_n 0, 1) := by decide +kernel
theorem dX7_readBelow_25 : decode cX7_readBelow 25 = .ok (.getfield 10, 3) := by decide +kernel
theorem dX7_readBelow_28 : decode cX7_readBelow 28 = .ok (.iload_n 2, 1) := by decide +kernel
theorem dX7_readBelow_29 : decode cX7_readBelow 29 = .ok (.invokevirtual 131, 3) := by decide +kernel
theorem dX7_readBelow_32 : decode cX7_readBelow 32 = .ok (.aload_n 0, 1) := by decide +kernel
theorem dX7_readBelow_33 : decode cX7_readBelow 33 = .ok (.getfield 10, 3) := by decide +kernel
theorem dX7_readBelow_36 : decode cX7_readBelow 36 = .ok (.getfield 108, 3) := by decide +kernel
theorem dX7_readBelow_39 : decode cX7_readBelow 39 = .ok (.invokevirtual 208, 3) := by decide +kernel
theorem dX7_readBelow_42 : decode cX7_readBelow 42 = .ok (.lstore_n 3, 1) := by decide +kernel
theorem dX7_readBelow_43 : decode cX7_readBelow 43 = .ok (.lload_n 3, 1) := by decide +kernel
theorem dX7_readBelow_44 : decode cX7_readBelow 44 = .ok (.ldc2_w 211, 3) := by decide +kernel
theorem dX7_readBelow_47 : decode cX7_readBelow 47 = .ok (.lcmp, 1) := by decide +kernel
theorem dX7_readBelow_48 : decode cX7_readBelow 48 = .ok (.ifCond .ne 7, 3) := by decide +kernel
theorem dX7_readBelow_51 : decode cX7_readBelow 51 = .ok (.iconst (-1), 1) := by decide +kernel
theorem dX7_readBelow_52 : decode cX7_readBelow 52 = .ok (.goto 16, 3) := by decide +kernel
theorem dX7_readBelow_55 : decode cX7_readBelow 55 = .ok (.lload_n 3, 1) := by decide +kernel
theorem dX7_readBelow_56 : decode cX7_readBelow 56 = .ok (.aload_n 0, 1) := by decide +kernel
theorem dX7_readBelow_57 : decode cX7_readBelow 57 = .ok (.getfield 10, 3) := by decide +kernel
theorem dX7_readBelow_60 : decode cX7_readBelow 60 = .ok (.iload_n 1, 1) := by decide +kernel
theorem dX7_readBelow_61 : decode cX7_readBelow 61 = .ok (.invokevirtual 131, 3) := by decide +kernel
theorem dX7_readBelow_64 : decode cX7_readBelow 64 = .ok (.lxor, 1) := by decide +kernel
theorem dX7_readBelow_65 : decode cX7_readBelow 65 = .ok (.invokestatic 159, 3) := by decide +kernel
theorem dX7_readBelow_68 : decode cX7_readBelow 68 = .ok (.ireturn, 1) := by decide +kernel
theorem dX7_paint_0 : decode cX7_paint 0 = .ok (.aload_n 0, 1) := by decide +kernel
theorem dX7_paint_1 : decode cX7_paint 1 = .ok (.iload_n 1, 1) := by decide +kernel
theorem dX7_paint_2 : decode cX7_paint 2 = .ok (.invokevirtual 139, 3) := by decide +kernel
theorem dX7_paint_5 : decode cX7_paint 5 = .ok (.aload_n 0, 1) := by decide +kernel
theorem dX7_paint_6 : decode cX7_paint 6 = .ok (.iload_n 2, 1) := by decide +kernel
theorem dX7_paint_7 : decode cX7_paint 7 = .ok (.iload_n 3, 1) := by decide +kernel
theorem dX7_paint_8 : decode cX7_paint 8 = .ok (.invokevirtual 229, 3) := by decide +kernel
theorem dX7_paint_11 : decode cX7_paint 11 = .ok (.iload 4, 2) := by decide +kernel
theorem dX7_paint_13 : decode cX7_paint 13 = .ok (.invokestatic 192, 3) := by decide +kernel
theorem dX7_paint_16 : decode cX7_paint 16 = .ok (.aload_n 0, 1) := by decide +kernel
theorem dX7_paint_17 : decode cX7_paint 17 = .ok (.getfield 19, 3) := by decide +kernel
theorem dX7_paint_20 : decode cX7_paint 20 = .ok (.aload_n 0, 1) := by decide +kernel
theorem dX7_paint_21 : decode cX7_paint 21 = .ok (.getfield 10, 3) := by decide +kernel
theorem dX7_paint_24 : decode cX7_paint 24 = .ok (.invokevirtual 219, 3) := by decide +kernel
theorem dX7_paint_27 : decode cX7_paint 27 = .ok (.aload_n 0, 1) := by decide +kernel
theorem dX7_paint_28 : decode cX7_paint 28 = .ok (.getfield 10, 3) := by decide +kernel
theorem dX7_paint_31 : decode cX7_paint 31 = .ok (.iload_n 1, 1) := by decide +kernel
theorem dX7_paint_32 : decode cX7_paint 32 = .ok (.invokevirtual 131, 3) := by decide +kernel
theorem dX7_paint_35 : decode cX7_paint 35 = .ok (.lstore 5, 2) := by decide +kernel
theorem dX7_paint_37 : decode cX7_paint 37 = .ok (.iload 4, 2) := by decide +kernel
theorem dX7_paint_39 : decode cX7_paint 39 = .ok (.iconst 1, 1) := by decide +kernel
theorem dX7_paint_40 : decode cX7_paint 40 = .ok (.if_icmp .ne 14, 3) := by decide +kernel
theorem dX7_paint_43 : decode cX7_paint 43 = .ok (.lload 5, 2) := by decide +kernel
theorem dX7_paint_45 : decode cX7_paint 45 = .ok (.iload_n 2, 1) := by decide +kernel
theorem dX7_paint_46 : decode cX7_paint 46 = .ok (.iload_n 3, 1) := by decide +kernel
theorem dX7_paint_47 : decode cX7_paint 47 = .ok (.invokestatic 235, 3) := by decide +kernel
theorem dX7_paint_50 : decode cX7_paint 50 = .ok (.lor, 1) := by decide +kernel
theorem dX7_paint_51 : decode cX7_paint 51 = .ok (.goto 15, 3) := by decide +kernel
theorem dX7_paint_54 : decode cX7_paint 54 = .ok (.lload 5, 2) := by decide +kernel
theorem dX7_paint_56 : decode cX7_paint 56 = .ok (.iload_n 2, 1) := by decide +kernel
theorem dX7_paint_57 : decode cX7_paint 57 = .ok (.iload_n 3, 1) := by decide +kernel
theorem dX7_paint_58 : decode cX7_paint 58 = .ok (.invokestatic 235, 3) := by decide +kernel
theorem dX7_paint_61 : decode cX7_paint 61 = .ok (.ldc2_w 211, 3) := by decide +kernel
theorem dX7_paint_64 : decode cX7_paint 64 = .ok (.lxor, 1) := by decide +kernel
theorem dX7_paint_65 : decode cX7_paint 65 = .ok (.land, 1) := by decide +kernel
theorem dX7_paint_66 : decode cX7_paint 66 = .ok (.lstore 7, 2) := by decide +kernel
theorem dX7_paint_68 : decode cX7_paint 68 = .ok (.aload_n 0, 1) := by decide +kernel
theorem dX7_paint_69 : decode cX7_paint 69 = .ok (.getfield 10, 3) := by decide +kernel
theorem dX7_paint_72 : decode cX7_paint 72 = .ok (.iload_n 1, 1) := by decide +kernel
theorem dX7_paint_73 : decode cX7_paint 73 = .ok (.lload 7, 2) := by decide +kernel
theorem dX7_paint_75 : decode cX7_paint 75 = .ok (.invokevirtual 243, 3) := by decide +kernel
theorem dX7_paint_78 : decode cX7_paint 78 = .ok (.lload 5, 2) := by decide +kernel
theorem dX7_paint_80 : decode cX7_paint 80 = .ok (.lload 7, 2) := by decide +kernel
theorem dX7_paint_82 : decode cX7_paint 82 = .ok (.lxor, 1) := by decide +kernel
theorem dX7_paint_83 : decode cX7_paint 83 = .ok (.invokestatic 159, 3) := by decide +kernel
theorem dX7_paint_86 : decode cX7_paint 86 = .ok (.ireturn, 1) := by decide +kernel
theorem dX7_shift_0 : decode cX7_shift 0 = .ok (.aload_n 0, 1) := by decide +kernel
theorem dX7_shift_1 : decode cX7_shift 1 = .ok (.iload_n 1, 1) := by decide +kernel
theorem dX7_shift_2 : decode cX7_shift 2 = .ok (.invokevirtual 139, 3) := by decide +kernel
theorem dX7_shift_5 : decode cX7_shift 5 = .ok (.iload_n 2, 1) := by decide +kernel
theorem dX7_shift_6 : decode cX7_shift 6 = .ok (.bipush (-40), 2) := by decide +kernel
theorem dX7_shift_8 : decode cX7_shift 8 = .ok (.if_icmp .lt 9, 3) := by decide +kernel
theorem dX7_shift_11 : decode cX7_shift 11 = .ok (.iload_n 2, 1) := by decide +kernel
theorem dX7_shift_12 : decode cX7_shift 12 = .ok (.bipush 40, 2) := by decide +kernel
theorem dX7_shift_14 : decode cX7_shift 14 = .ok (.if_icmp .le 13, 3) := by decide +kernel
theorem dX7_shift_17 : decode cX7_shift 17 = .ok (.new 76, 3) := by decide +kernel
theorem dX7_shift_20 : decode cX7_shift 20 = .ok (.dup, 1) := by decide +kernel
theorem dX7_shift_21 : decode cX7_shift 21 = .ok (.ldc 246, 2) := by decide +kernel
theorem dX7_shift_23 : decode cX7_shift 23 = .ok (.invokespecial 80, 3) := by decide +kernel
theorem dX7_shift_26 : decode cX7_shift 26 = .ok (.athrow, 1) := by decide +kernel
theorem dX7_shift_27 : decode cX7_shift 27 = .ok (.aload_n 0, 1) := by decide +kernel
theorem dX7_shift_28 : decode cX7_shift 28 = .ok (.getfield 19, 3) := by decide +kernel
theorem dX7_shift_31 : decode cX7_shift 31 = .ok (.aload_n 0, 1) := by decide +kernel
theorem dX7_shift_32 : decode cX7_shift 32 = .ok (.getfield 10, 3) := by decide +kernel
theorem dX7_shift_35 : decode cX7_shift 35 = .ok (.invokevirtual 219, 3) := by decide +kernel
theorem dX7_shift_38 : decode cX7_shift 38 = .ok (.aload_n 0, 1) := by decide +kernel
theorem dX7_shift_39 : decode cX7_shift 39 = .ok (.getfield 10, 3) := by decide +kernel
theorem dX7_shift_42 : decode cX7_shift 42 = .ok (.iload_n 1, 1) := by decide +kernel
theorem dX7_shift_43 : decode cX7_shift 43 = .ok (.invokevirtual 131, 3) := by decide +kernel
theorem dX7_shift_46 : decode cX7_shift 46 = .ok (.lstore_n 3, 1) := by decide +kernel
theorem dX7_shift_47 : decode cX7_shift 47 = .ok (.aload_n 0, 1) := by decide +kernel
theorem dX7_shift_48 : decode cX7_shift 48 = .ok (.getfield 10, 3) := by decide +kernel
theorem dX7_shift_51 : decode cX7_shift 51 = .ok (.iload_n 1, 1) := by decide +kernel
theorem dX7_shift_52 : decode cX7_shift 52 = .ok (.iload_n 2, 1) := by decide +kernel
theorem dX7_shift_53 : decode cX7_shift 53 = .ok (.ifCond .ge 10, 3) := by decide +kernel
theorem dX7_shift_56 : decode cX7_shift 56 = .ok (.lload_n 3, 1) := by decide +kernel
theorem dX7_shift_57 : decode cX7_shift 57 = .ok (.iload_n 2, 1) := by decide +kernel
theorem dX7_shift_58 : decode cX7_shift 58 = .ok (.ineg, 1) := by decide +kernel
theorem dX7_shift_59 : decode cX7_shift 59 = .ok (.lushr, 1) := by decide +kernel
theorem dX7_shift_60 : decode cX7_shift 60 = .ok (.goto 6, 3) := by decide +kernel
theorem dX7_shift_63 : decode cX7_shift 63 = .ok (.lload_n 3, 1) := by decide +kernel
theorem dX7_shift_64 : decode cX7_shift 64 = .ok (.iload_n 2, 1) := by decide +kernel
theorem dX7_shift_65 : decode cX7_shift 65 = .ok (.lshl, 1) := by decide +kernel
theorem dX7_shift_66 : decode cX7_shift 66 = .ok (.invokevirtual 243, 3) := by decide +kernel
theorem dX7_shift_69 : decode cX7_shift 69 = .ok (.aload_n 0, 1) := by decide +kernel
theorem dX7_shift_70 : decode cX7_shift 70 = .ok (.getfield 10, 3) := by decide +kernel
theorem dX7_shift_73 : decode cX7_shift 73 = .ok (.iload_n 1, 1) := by decide +kernel
theorem dX7_shift_74 : decode cX7_shift 74 = .ok (.invokevirtual 131, 3) := by decide +kernel
theorem dX7_shift_77 : decode cX7_shift 77 = .ok (.invokestatic 159, 3) := by decide +kernel
theorem dX7_shift_80 : decode cX7_shift 80 = .ok (.ireturn, 1) := by decide +kernel
theorem dX7_copyLine_0 : decode cX7_copyLine 0 = .ok (.aload_n 0, 1) := by decide +kernel
theorem dX7_copyLine_1 : decode cX7_copyLine 1 = .ok (.iload_n 1, 1) := by decide +kernel
theorem dX7_copyLine_2 : decode cX7_copyLine 2 = .ok (.invokevirtual 139, 3) := by decide +kernel
theorem dX7_copyLine_5 : decode cX7_copyLine 5 = .ok (.iload_n 2, 1) := by decide +kernel
theorem dX7_copyLine_6 : decode cX7_copyLine 6 = .ok (.ifCond .lt 14, 3) := by decide +kernel
theorem dX7_copyLine_9 : decode cX7_copyLine 9 = .ok (.iload_n 2, 1) := by decide +kernel
theorem dX7_copyLine_10 : decode cX7_copyLine 10 = .ok (.aload_n 0, 1) := by decide +kernel
theorem dX7_copyLine_11 : decode cX7_copyLine 11 = .ok (.getfield 10, 3) := by decide +kernel
theorem dX7_copyLine_14 : decode cX7_copyLine 14 = .ok (.getfield 93, 3) := by decide +kernel
theorem dX7_copyLine_17 : decode cX7_copyLine 17 = .ok (.if_icmp .le 13, 3) := by decide +kernel
theorem dX7_copyLine_20 : decode cX7_copyLine 20 = .ok (.new 222, 3) := by decide +kernel
theorem dX7_copyLine_23 : decode cX7_copyLine 23 = .ok (.dup, 1) := by decide +kernel
theorem dX7_copyLine_24 : decode cX7_copyLine 24 = .ok (.ldc 248, 2) := by decide +kernel
theorem dX7_copyLine_26 : decode cX7_copyLine 26 = .ok (.invokespecial 226, 3) := by decide +kernel
theorem dX7_copyLine_29 : decode cX7_copyLine 29 = .ok (.athrow, 1) := by decide +kernel
theorem dX7_copyLine_30 : decode cX7_copyLine 30 = .ok (.aload_n 0, 1) := by decide +kernel
theorem dX7_copyLine_31 : decode cX7_copyLine 31 = .ok (.invokevirtual 232, 3) := by decide +kernel
theorem dX7_copyLine_34 : decode cX7_copyLine 34 = .ok (.aload_n 0, 1) := by decide +kernel
theorem dX7_copyLine_35 : decode cX7_copyLine 35 = .ok (.getfield 19, 3) := by decide +kernel
theorem dX7_copyLine_38 : decode cX7_copyLine 38 = .ok (.aload_n 0, 1) := by decide +kernel
theorem dX7_copyLine_39 : decode cX7_copyLine 39 = .ok (.getfield 10, 3) := by decide +kernel
theorem dX7_copyLine_42 : decode cX7_copyLine 42 = .ok (.invokevirtual 219, 3) := by decide +kernel
theorem dX7_copyLine_45 : decode cX7_copyLine 45 = .ok (.aload_n 0, 1) := by decide +kernel
theorem dX7_copyLine_46 : decode cX7_copyLine 46 = .ok (.getfield 10, 3) := by decide +kernel
theorem dX7_copyLine_49 : decode cX7_copyLine 49 = .ok (.iload_n 2, 1) := by decide +kernel
theorem dX7_copyLine_50 : decode cX7_copyLine 50 = .ok (.aload_n 0, 1) := by decide +kernel
theorem dX7_copyLine_51 : decode cX7_copyLine 51 = .ok (.getfield 10, 3) := by decide +kernel
theorem dX7_copyLine_54 : decode cX7_copyLine 54 = .ok (.iload_n 1, 1) := by decide +kernel
theorem dX7_copyLine_55 : decode cX7_copyLine 55 = .ok (.invokevirtual 131, 3) := by decide +kernel
theorem dX7_copyLine_58 : decode cX7_copyLine 58 = .ok (.invokevirtual 239, 3) := by decide +kernel
theorem dX7_copyLine_61 : decode cX7_copyLine 61 = .ok (.aload_n 0, 1) := by decide +kernel
theorem dX7_copyLine_62 : decode cX7_copyLine 62 = .ok (.getfield 10, 3) := by decide +kernel
theorem dX7_copyLine_65 : decode cX7_copyLine 65 = .ok (.getfield 93, 3) := by decide +kernel
theorem dX7_copyLine_68 : decode cX7_copyLine 68 = .ok (.ireturn, 1) := by decide +kernel
theorem dX7_removeLine_0 : decode cX7_removeLine 0 = .ok (.aload_n 0, 1) := by decide +kernel
theorem dX7_removeLine_1 : decode cX7_removeLine 1 = .ok (.iload_n 1, 1) := by decide +kernel
theorem dX7_removeLine_2 : decode cX7_removeLine 2 = .ok (.invokevirtual 139, 3) := by decide +kernel
theorem dX7_removeLine_5 : decode cX7_removeLine 5 = .ok (.aload_n 0, 1) := by decide +kernel
theorem dX7_removeLine_6 : decode cX7_removeLine 6 = .ok (.getfield 19, 3) := by decide +kernel
theorem dX7_removeLine_9 : decode cX7_removeLine 9 = .ok (.aload_n 0, 1) := by decide +kernel
theorem dX7_removeLine_10 : decode cX7_removeLine 10 = .ok (.getfield 10, 3) := by decide +kernel
theorem dX7_removeLine_13 : decode cX7_removeLine 13 = .ok (.invokevirtual 219, 3) := by decide +kernel
theorem dX7_removeLine_16 : decode cX7_removeLine 16 = .ok (.aload_n 0, 1) := by decide +kernel
theorem dX7_removeLine_17 : decode cX7_removeLine 17 = .ok (.getfield 10, 3) := by decide +kernel
theorem dX7_removeLine_20 : decode cX7_removeLine 20 = .ok (.iload_n 1, 1) := by decide +kernel
theorem dX7_removeLine_21 : decode cX7_removeLine 21 = .ok (.invokevirtual 250, 3) := by decide +kernel
theorem dX7_removeLine_24 : decode cX7_removeLine 24 = .ok (.aload_n 0, 1) := by decide +kernel
theorem dX7_removeLine_25 : decode cX7_removeLine 25 = .ok (.getfield 10, 3) := by decide +kernel
theorem dX7_removeLine_28 : decode cX7_removeLine 28 = .ok (.getfield 93, 3) := by decide +kernel
theorem dX7_removeLine_31 : decode cX7_removeLine 31 = .ok (.ireturn, 1) := by decide +kernel
theorem dX7_invert_0 : decode cX7_invert 0 = .ok (.aload_n 0, 1) := by decide +kernel
theorem dX7_invert_1 : decode cX7_invert 1 = .ok (.iload_n 1, 1) := by decide +kernel
theorem dX7_invert_2 : decode cX7_invert 2 = .ok (.invokevirtual 139, 3) := by decide +kernel
theorem dX7_invert_5 : decode cX7_invert 5 = .ok (.aload_n 0, 1) := by decide +kernel
theorem dX7_invert_6 : decode cX7_invert 6 = .ok (.getfield 19, 3) := by decide +kernel
theorem dX7_invert_9 : decode cX7_invert 9 = .ok (.aload_n 0, 1) := by decide +kernel
theorem dX7_invert_10 : decode cX7_invert 10 = .ok (.getfield 10, 3) := by decide +kernel
theorem dX7_invert_13 : decode cX7_invert 13 = .ok (.invokevirtual 219, 3) := by decide +kernel
theorem dX7_invert_16 : decode cX7_invert 16 = .ok (.aload_n 0, 1) := by decide +kernel
theorem dX7_invert_17 : decode cX7_invert 17 = .ok (.getfield 10, 3) := by decide +kernel
theorem dX7_invert_20 : decode cX7_invert 20 = .ok (.iload_n 1, 1) := by decide +kernel
theorem dX7_invert_21 : decode cX7_invert 21 = .ok (.aload_n 0, 1) := by decide +kernel
theorem dX7_invert_22 : decode cX7_invert 22 = .ok (.getfield 10, 3) := by decide +kernel
theorem dX7_invert_25 : decode cX7_invert 25 = .ok (.iload_n 1, 1) := by decide +kernel
theorem dX7_invert_26 : decode cX7_invert 26 = .ok (.invokevirtual 131, 3) := by decide +kernel
theorem dX7_invert_29 : decode cX7_invert 29 = .ok (.ldc2_w 211, 3) := by decide +kernel
theorem dX7_invert_32 : decode cX7_invert 32 = .ok (.lxor, 1) := by decide +kernel
theorem dX7_invert_33 : decode cX7_invert 33 = .ok (.invokevirtual 243, 3) := by decide +kernel
theorem dX7_invert_36 : decode cX7_invert 36 = .ok (.aload_n 0, 1) := by decide +kernel
theorem dX7_invert_37 : decode cX7_invert 37 = .ok (.getfield 10, 3) := by decide +kernel
theorem dX7_invert_40 : decode cX7_invert 40 = .ok (.iload_n 1, 1) := by decide +kernel
theorem dX7_invert_41 : decode cX7_invert 41 = .ok (.invokevirtual 131, 3) := by decide +kernel
theorem dX7_invert_44 : decode cX7_invert 44 = .ok (.invokestatic 159, 3) := by decide +kernel
theorem dX7_invert_47 : decode cX7_invert 47 = .ok (.ireturn, 1) := by decide +kernel
theorem dX7_swap_0 : decode cX7_swap 0 = .ok (.aload_n 0, 1) := by decide +kernel
theorem dX7_swap_1 : decode cX7_swap 1 = .ok (.iload_n 1, 1) := by decide +kernel
theorem dX7_swap_2 : decode cX7_swap 2 = .ok (.invokevirtual 139, 3) := by decide +kernel
theorem dX7_swap_5 : decode cX7_swap 5 = .ok (.aload_n 0, 1) := by decide +kernel
theorem dX7_swap_6 : decode cX7_swap 6 = .ok (.iload_n 2, 1) := by decide +kernel
theorem dX7_swap_7 : decode cX7_swap 7 = .ok (.invokevirtual 139, 3) := by decide +kernel
theorem dX7_swap_10 : decode cX7_swap 10 = .ok (.aload_n 0, 1) := by decide +kernel
theorem dX7_swap_11 : decode cX7_swap 11 = .ok (.getfield 19, 3) := by decide +kernel
theorem dX7_swap_14 : decode cX7_swap 14 = .ok (.aload_n 0, 1) := by decide +kernel
theorem dX7_swap_15 : decode cX7_swap 15 = .ok (.getfield 10, 3) := by decide +kernel
theorem dX7_swap_18 : decode cX7_swap 18 = .ok (.invokevirtual 219, 3) := by decide +kernel
theorem dX7_swap_21 : decode cX7_swap 21 = .ok (.aload_n 0, 1) := by decide +kernel
theorem dX7_swap_22 : decode cX7_swap 22 = .ok (.getfield 10, 3) := by decide +kernel
theorem dX7_swap_25 : decode cX7_swap 25 = .ok (.iload_n 1, 1) := by decide +kernel
theorem dX7_swap_26 : decode cX7_swap 26 = .ok (.invokevirtual 131, 3) := by decide +kernel
theorem dX7_swap_29 : decode cX7_swap 29 = .ok (.lstore_n 3, 1) := by decide +kernel
theorem dX7_swap_30 : decode cX7_swap 30 = .ok (.aload_n 0, 1) := by decide +kernel
theorem dX7_swap_31 : decode cX7_swap 31 = .ok (.getfield 10, 3) := by decide +kernel
theorem dX7_swap_34 : decode cX7_swap 34 = .ok (.iload_n 2, 1) := by decide +kernel
theorem dX7_swap_35 : decode cX7_swap 35 = .ok (.invokevirtual 131, 3) := by decide +kernel
theorem dX7_swap_38 : decode cX7_swap 38 = .ok (.lstore 5, 2) := by decide +kernel
theorem dX7_swap_40 : decode cX7_swap 40 = .ok (.aload_n 0, 1) := by decide +kernel
theorem dX7_swap_41 : decode cX7_swap 41 = .ok (.getfield 10, 3) := by decide +kernel
theorem dX7_swap_44 : decode cX7_swap 44 = .ok (.iload_n 1, 1) := by decide +kernel
theorem dX7_swap_45 : decode cX7_swap 45 = .ok (.lload 5, 2) := by decide +kernel
theorem dX7_swap_47 : decode cX7_swap 47 = .ok (.invokevirtual 243, 3) := by decide +kernel
theorem dX7_swap_50 : decode cX7_swap 50 = .ok (.aload_n 0, 1) := by decide +kernel
theorem dX7_swap_51 : decode cX7_swap 51 = .ok (.getfield 10, 3) := by decide +kernel
theorem dX7_swap_54 : decode cX7_swap 54 = .ok (.iload_n 2, 1) := by decide +kernel
theorem dX7_swap_55 : decode cX7_swap 55 = .ok (.lload_n 3, 1) := by decide +kernel
theorem dX7_swap_56 : decode cX7_swap 56 = .ok (.invokevirtual 243, 3) := by decide +kernel
theorem dX7_swap_59 : decode cX7_swap 59 = .ok (.lload_n 3, 1) := by decide +kernel
theorem dX7_swap_60 : decode cX7_swap 60 = .ok (.lload 5, 2) := by decide +kernel
theorem dX7_swap_62 : decode cX7_swap 62 = .ok (.lxor, 1) := by decide +kernel
theorem dX7_swap_63 : decode cX7_swap 63 = .ok (.invokestatic 159, 3) := by decide +kernel
theorem dX7_swap_66 : decode cX7_swap 66 = .ok (.ireturn, 1) := by decide +kernel
theorem dX7_sent_0 : decode cX7_sent 0 = .ok (.iload_n 1, 1) := by decide +kernel
theorem dX7_sent_1 : decode cX7_sent 1 = .ok (.ifCond .lt 9, 3) := by decide +kernel
theorem dX7_sent_4 : decode cX7_sent 4 = .ok (.iload_n 1, 1) := by decide +kernel
theorem dX7_sent_5 : decode cX7_sent 5 = .ok (.bipush 9, 2) := by decide +kernel
theorem dX7_sent_7 : decode cX7_sent 7 = .ok (.if_icmp .le 13, 3) := by decide +kernel
theorem dX7_sent_10 : decode cX7_sent 10 = .ok (.new 76, 3) := by decide +kernel
theorem dX7_sent_13 : decode cX7_sent 13 = .ok (.dup, 1) := by decide +kernel
theorem dX7_sent_14 : decode cX7_sent 14 = .ok (.ldc 102, 2) := by decide +kernel
theorem dX7_sent_16 : decode cX7_sent 16 = .ok (.invokespecial 80, 3) := by decide +kernel
theorem dX7_sent_19 : decode cX7_sent 19 = .ok (.athrow, 1) := by decide +kernel
theorem dX7_sent_20 : decode cX7_sent 20 = .ok (.aload_n 0, 1) := by decide +kernel
theorem dX7_sent_21 : decode cX7_sent 21 = .ok (.getfield 44, 3) := by decide +kernel
theorem dX7_sent_24 : decode cX7_sent 24 = .ok (.aload_n 0, 1) := by decide +kernel
theorem dX7_sent_25 : decode cX7_sent 25 = .ok (.getfield 10, 3) := by decide +kernel
theorem dX7_sent_28 : decode cX7_sent 28 = .ok (.invokevirtual 253, 3) := by decide +kernel
theorem dX7_sent_31 : decode cX7_sent 31 = .ok (.aload_n 0, 1) := by decide +kernel
theorem dX7_sent_32 : decode cX7_sent 32 = .ok (.getfield 44, 3) := by decide +kernel
theorem dX7_sent_35 : decode cX7_sent 35 = .ok (.aload_n 0, 1) := by decide +kernel
theorem dX7_sent_36 : decode cX7_sent 36 = .ok (.getfield 10, 3) := by decide +kernel
theorem dX7_sent_39 : decode cX7_sent 39 = .ok (.invokevirtual 256, 3) := by decide +kernel
theorem dX7_sent_42 : decode cX7_sent 42 = .ok (.iload_n 1, 1) := by decide +kernel
theorem dX7_sent_43 : decode cX7_sent 43 = .ok (.tableswitch 105 0 9 #[53, 61, 69, 105, 105, 105, 105, 77, 89, 97], 53) := by decide +kernel
theorem dX7_sent_96 : decode cX7_sent 96 = .ok (.aload_n 0, 1) := by decide +kernel
theorem dX7_sent_97 : decode cX7_sent 97 = .ok (.getfield 44, 3) := by decide +kernel
theorem dX7_sent_100 : decode cX7_sent 100 = .ok (.getfield 259, 3) := by decide +kernel
theorem dX7_sent_103 : decode cX7_sent 103 = .ok (.ireturn, 1) := by decide +kernel
theorem dX7_sent_104 : decode cX7_sent 104 = .ok (.aload_n 0, 1) := by decide +kernel
theorem dX7_sent_105 : decode cX7_sent 105 = .ok (.getfield 44, 3) := by decide +kernel
theorem dX7_sent_108 : decode cX7_sent 108 = .ok (.getfield 260, 3) := by decide +kernel
theorem dX7_sent_111 : decode cX7_sent 111 = .ok (.ireturn, 1) := by decide +kernel
theorem dX7_sent_112 : decode cX7_sent 112 = .ok (.aload_n 0, 1) := by decide +kernel
theorem dX7_sent_113 : decode cX7_sent 113 = .ok (.getfield 44, 3) := by decide +kernel
theorem dX7_sent_116 : decode cX7_sent 116 = .ok (.getfield 263, 3) := by decide +kernel
theorem dX7_sent_119 : decode cX7_sent 119 = .ok (.ireturn, 1) := by decide +kernel
theorem dX7_sent_120 : decode cX7_sent 120 = .ok (.aload_n 0, 1) := by decide +kernel
theorem dX7_sent_121 : decode cX7_sent 121 = .ok (.getfield 44, 3) := by decide +kernel
theorem dX7_sent_124 : decode cX7_sent 124 = .ok (.aload_n 0, 1) := by decide +kernel
theorem dX7_sent_125 : decode cX7_sent 125 = .ok (.getfield 10, 3) := by decide +kernel
theorem dX7_sent_128 : decode cX7_sent 128 = .ok (.invokevirtual 266, 3) := by decide +kernel
theorem dX7_sent_131 : decode cX7_sent 131 = .ok (.ireturn, 1) := by decide +kernel
theorem dX7_sent_132 : decode cX7_sent 132 = .ok (.aload_n 0, 1) := by decide +kernel
theorem dX7_sent_133 : decode cX7_sent 133 = .ok (.getfield 44, 3) := by decide +kernel
theorem dX7_sent_136 : decode cX7_sent 136 = .ok (.getfield 270, 3) := by decide +kernel
theorem dX7_sent_139 : decode cX7_sent 139 = .ok (.ireturn, 1) := by decide +kernel
theorem dX7_sent_140 : decode cX7_sent 140 = .ok (.aload_n 0, 1) := by decide +kernel
theorem dX7_sent_141 : decode cX7_sent 141 = .ok (.getfield 44, 3) := by decide +kernel
theorem dX7_sent_144 : decode cX7_sent 144 = .ok (.getfield 273, 3) := by decide +kernel
theorem dX7_sent_147 : decode cX7_sent 147 = .ok (.ireturn, 1) := by decide +kernel
theorem dX7_sent_148 : decode cX7_sent 148 = .ok (.aload_n 0, 1) := by decide +kernel
theorem dX7_sent_149 : decode cX7_sent 149 = .ok (.getfield 44, 3) := by decide +kernel
theorem dX7_sent_152 : decode cX7_sent 152 = .ok (.iload_n 1, 1) := by decide +kernel
theorem dX7_sent_153 : decode cX7_sent 153 = .ok (.iconst 3, 1) := by decide +kernel
theorem dX7_sent_154 : decode cX7_sent 154 = .ok (.isub, 1) := by decide +kernel
theorem dX7_sent_155 : decode cX7_sent 155 = .ok (.aload_n 0, 1) := by decide +kernel
theorem dX7_sent_156 : decode cX7_sent 156 = .ok (.getfield 10, 3) := by decide +kernel
theorem dX7_sent_159 : decode cX7_sent 159 = .ok (.getfield 93, 3) := by decide +kernel
theorem dX7_sent_162 : decode cX7_sent 162 = .ok (.invokevirtual 276, 3) := by decide +kernel
theorem dX7_sent_165 : decode cX7_sent 165 = .ok (.ireturn, 1) := by decide +kernel
theorem dX7_sentLine_0 : decode cX7_sentLine 0 = .ok (.aload_n 0, 1) := by decide +kernel
theorem dX7_sentLine_1 : decode cX7_sentLine 1 = .ok (.iload_n 1, 1) := by decide +kernel
theorem dX7_sentLine_2 : decode cX7_sentLine 2 = .ok (.invokevirtual 139, 3) := by decide +kernel
theorem dX7_sentLine_5 : decode cX7_sentLine 5 = .ok (.iload_n 2, 1) := by decide +kernel
theorem dX7_sentLine_6 : decode cX7_sentLine 6 = .ok (.ifCond .lt 8, 3) := by decide +kernel
theorem dX7_sentLine_9 : decode cX7_sentLine 9 = .ok (.iload_n 2, 1) := by decide +kernel
theorem dX7_sentLine_10 : decode cX7_sentLine 10 = .ok (.iconst 4, 1) := by decide +kernel
theorem dX7_sentLine_11 : decode cX7_sentLine 11 = .ok (.if_icmp .le 13, 3) := by decide +kernel
theorem dX7_sentLine_14 : decode cX7_sentLine 14 = .ok (.new 76, 3) := by decide +kernel
theorem dX7_sentLine_17 : decode cX7_sentLine 17 = .ok (.dup, 1) := by decide +kernel
theorem dX7_sentLine_18 : decode cX7_sentLine 18 = .ok (.ldc 102, 2) := by decide +kernel
theorem dX7_sentLine_20 : decode cX7_sentLine 20 = .ok (.invokespecial 80, 3) := by decide +kernel
theorem dX7_sentLine_23 : decode cX7_sentLine 23 = .ok (.athrow, 1) := by decide +kernel
theorem dX7_sentLine_24 : decode cX7_sentLine 24 = .ok (.aload_n 0, 1) := by decide +kernel
theorem dX7_sentLine_25 : decode cX7_sentLine 25 = .ok (.getfield 44, 3) := by decide +kernel
theorem dX7_sentLine_28 : decode cX7_sentLine 28 = .ok (.aload_n 0, 1) := by decide +kernel
theorem dX7_sentLine_29 : decode cX7_sentLine 29 = .ok (.getfield 10, 3) := by decide +kernel
theorem dX7_sentLine_32 : decode cX7_sentLine 32 = .ok (.invokevirtual 253, 3) := by decide +kernel
theorem dX7_sentLine_35 : decode cX7_sentLine 35 = .ok (.aload_n 0, 1) := by decide +kernel
theorem dX7_sentLine_36 : decode cX7_sentLine 36 = .ok (.getfield 44, 3) := by decide +kernel
theorem dX7_sentLine_39 : decode cX7_sentLine 39 = .ok (.aload_n 0, 1) := by decide +kernel
theorem dX7_sentLine_40 : decode cX7_sentLine 40 = .ok (.getfield 10, 3) := by decide +kernel
theorem dX7_sentLine_43 : decode cX7_sentLine 43 = .ok (.invokevirtual 256, 3) := by decide +kernel
theorem dX7_sentLine_46 : decode cX7_sentLine 46 = .ok (.iload_n 2, 1) := by decide +kernel
theorem dX7_sentLine_47 : decode cX7_sentLine 47 = .ok (.tableswitch 72 0 3 #[29, 39, 49, 59], 29) := by decide +kernel
theorem dX7_sentLine_76 : decode cX7_sentLine 76 = .ok (.aload_n 0, 1) := by decide +kernel
theorem dX7_sentLine_77 : decode cX7_sentLine 77 = .ok (.getfield 44, 3) := by decide +kernel
theorem dX7_sentLine_80 : decode cX7_sentLine 80 = .ok (.getfield 279, 3) := by decide +kernel
theorem dX7_sentLine_83 : decode cX7_sentLine 83 = .ok (.iload_n 1, 1) := by decide +kernel
theorem dX7_sentLine_84 : decode cX7_sentLine 84 = .ok (.iaload, 1) := by decide +kernel
theorem dX7_sentLine_85 : decode cX7_sentLine 85 = .ok (.ireturn, 1) := by decide +kernel
theorem dX7_sentLine_86 : decode cX7_sentLine 86 = .ok (.aload_n 0, 1) := by decide +kernel
theorem dX7_sentLine_87 : decode cX7_sentLine 87 = .ok (.getfield 44, 3) := by decide +kernel
theorem dX7_sentLine_90 : decode cX7_sentLine 90 = .ok (.getfield 282, 3) := by decide +kernel
theorem dX7_sentLine_93 : decode cX7_sentLine 93 = .ok (.iload_n 1, 1) := by decide +kernel
theorem dX7_sentLine_94 : decode cX7_sentLine 94 = .ok (.iaload, 1) := by decide +kernel
theorem dX7_sentLine_95 : decode cX7_sentLine 95 = .ok (.ireturn, 1) := by decide +kernel
theorem dX7_sentLine_96 : decode cX7_sentLine 96 = .ok (.aload_n 0, 1) := by decide +kernel
theorem dX7_sentLine_97 : decode cX7_sentLine 97 = .ok (.getfield 44, 3) := by decide +kernel
theorem dX7_sentLine_100 : decode cX7_sentLine 100 = .ok (.getfield 285, 3) := by decide +kernel
theorem dX7_sentLine_103 : decode cX7_sentLine 103 = .ok (.iload_n 1, 1) := by decide +kernel
theorem dX7_sentLine_104 : decode cX7_sentLine 104 = .ok (.iaload, 1) := by decide +kernel
theorem dX7_sentLine_105 : decode cX7_sentLine 105 = .ok (.ireturn, 1) := by decide +kernel
theorem dX7_sentLine_106 : decode cX7_sentLine 106 = .ok (.aload_n 0, 1) := by decide +kernel
theorem dX7_sentLine_107 : decode cX7_sentLine 107 = .ok (.getfield 44, 3) := by decide +kernel
theorem dX7_sentLine_110 : decode cX7_sentLine 110 = .ok (.iload_n 1, 1) := by decide +kernel
theorem dX7_sentLine_111 : decode cX7_sentLine 111 = .ok (.aload_n 0, 1) := by decide +kernel
theorem dX7_sentLine_112 : decode cX7_sentLine 112 = .ok (.getfield 10, 3) := by decide +kernel
theorem dX7_sentLine_115 : decode cX7_sentLine 115 = .ok (.invokevirtual 288, 3) := by decide +kernel
theorem dX7_sentLine_118 : decode cX7_sentLine 118 = .ok (.ireturn, 1) := by decide +kernel
theorem dX7_sentLine_119 : decode cX7_sentLine 119 = .ok (.aload_n 0, 1) := by decide +kernel
theorem dX7_sentLine_120 : decode cX7_sentLine 120 = .ok (.getfield 44, 3) := by decide +kernel
theorem dX7_sentLine_123 : decode cX7_sentLine 123 = .ok (.getfield 292, 3) := by decide +kernel
theorem dX7_sentLine_126 : decode cX7_sentLine 126 = .ok (.iload_n 1, 1) := by decide +kernel
theorem dX7_sentLine_127 : decode cX7_sentLine 127 = .ok (.iaload, 1) := by decide +kernel
theorem dX7_sentLine_128 : decode cX7_sentLine 128 = .ok (.ireturn, 1) := by decide +kernel
theorem dX7_received_0 : decode cX7_received 0 = .ok (.aload_n 0, 1) := by decide +kernel
theorem dX7_received_1 : decode cX7_received 1 = .ok (.iload_n 1, 1) := by decide +kernel
theorem dX7_received_2 : decode cX7_received 2 = .ok (.iload_n 2, 1) := by decide +kernel
theorem dX7_received_3 : decode cX7_received 3 = .ok (.invokevirtual 127, 3) := by decide +kernel
theorem dX7_received_6 : decode cX7_received 6 = .ok (.aload_n 0, 1) := by decide +kernel
theorem dX7_received_7 : decode cX7_received 7 = .ok (.getfield 44, 3) := by decide +kernel
theorem dX7_received_10 : decode cX7_received 10 = .ok (.aload_n 0, 1) := by decide +kernel
theorem dX7_received_11 : decode cX7_received 11 = .ok (.getfield 10, 3) := by decide +kernel
theorem dX7_received_14 : decode cX7_received 14 = .ok (.invokevirtual 253, 3) := by decide +kernel
theorem dX7_received_17 : decode cX7_received 17 = .ok (.aload_n 0, 1) := by decide +kernel
theorem dX7_received_18 : decode cX7_received 18 = .ok (.getfield 44, 3) := by decide +kernel
theorem dX7_received_21 : decode cX7_received 21 = .ok (.aload_n 0, 1) := by decide +kernel
theorem dX7_received_22 : decode cX7_received 22 = .ok (.getfield 10, 3) := by decide +kernel
theorem dX7_received_25 : decode cX7_received 25 = .ok (.invokevirtual 256, 3) := by decide +kernel
theorem dX7_received_28 : decode cX7_received 28 = .ok (.aload_n 0, 1) := by decide +kernel
theorem dX7_received_29 : decode cX7_received 29 = .ok (.getfield 44, 3) := by decide +kernel
theorem dX7_received_32 : decode cX7_received 32 = .ok (.getfield 295, 3) := by decide +kernel
theorem dX7_received_35 : decode cX7_received 35 = .ok (.iload_n 1, 1) := by decide +kernel
theorem dX7_received_36 : decode cX7_received 36 = .ok (.laload, 1) := by decide +kernel
theorem dX7_received_37 : decode cX7_received 37 = .ok (.iload_n 2, 1) := by decide +kernel
theorem dX7_received_38 : decode cX7_received 38 = .ok (.invokestatic 135, 3) := by decide +kernel
theorem dX7_received_41 : decode cX7_received 41 = .ok (.ireturn, 1) := by decide +kernel
theorem dX7_harm_0 : decode cX7_harm 0 = .ok (.aload_n 0, 1) := by decide +kernel
theorem dX7_harm_1 : decode cX7_harm 1 = .ok (.iload_n 1, 1) := by decide +kernel
theorem dX7_harm_2 : decode cX7_harm 2 = .ok (.invokevirtual 139, 3) := by decide +kernel
theorem dX7_harm_5 : decode cX7_harm 5 = .ok (.iload_n 2, 1) := by decide +kernel
theorem dX7_harm_6 : decode cX7_harm 6 = .ok (.ifCond .lt 8, 3) := by decide +kernel
theorem dX7_harm_9 : decode cX7_harm 9 = .ok (.iload_n 2, 1) := by decide +kernel
theorem dX7_harm_10 : decode cX7_harm 10 = .ok (.iconst 2, 1) := by decide +kernel
theorem dX7_harm_11 : decode cX7_harm 11 = .ok (.if_icmp .le 13, 3) := by decide +kernel
theorem dX7_harm_14 : decode cX7_harm 14 = .ok (.new 76, 3) := by decide +kernel
theorem dX7_harm_17 : decode cX7_harm 17 = .ok (.dup, 1) := by decide +kernel
theorem dX7_harm_18 : decode cX7_harm 18 = .ok (.ldc 102, 2) := by decide +kernel
theorem dX7_harm_20 : decode cX7_harm 20 = .ok (.invokespecial 80, 3) := by decide +kernel
theorem dX7_harm_23 : decode cX7_harm 23 = .ok (.athrow, 1) := by decide +kernel
theorem dX7_harm_24 : decode cX7_harm 24 = .ok (.aload_n 0, 1) := by decide +kernel
theorem dX7_harm_25 : decode cX7_harm 25 = .ok (.getfield 44, 3) := by decide +kernel
theorem dX7_harm_28 : decode cX7_harm 28 = .ok (.aload_n 0, 1) := by decide +kernel
theorem dX7_harm_29 : decode cX7_harm 29 = .ok (.getfield 10, 3) := by decide +kernel
theorem dX7_harm_32 : decode cX7_harm 32 = .ok (.invokevirtual 253, 3) := by decide +kernel
theorem dX7_harm_35 : decode cX7_harm 35 = .ok (.aload_n 0, 1) := by decide +kernel
theorem dX7_harm_36 : decode cX7_harm 36 = .ok (.getfield 44, 3) := by decide +kernel
theorem dX7_harm_39 : decode cX7_harm 39 = .ok (.iload_n 1, 1) := by decide +kernel
theorem dX7_harm_40 : decode cX7_harm 40 = .ok (.invokevirtual 299, 3) := by decide +kernel
theorem dX7_harm_43 : decode cX7_harm 43 = .ok (.aload_n 0, 1) := by decide +kernel
theorem dX7_harm_44 : decode cX7_harm 44 = .ok (.getfield 44, 3) := by decide +kernel
theorem dX7_harm_47 : decode cX7_harm 47 = .ok (.aload_n 0, 1) := by decide +kernel
theorem dX7_harm_48 : decode cX7_harm 48 = .ok (.getfield 10, 3) := by decide +kernel
theorem dX7_harm_51 : decode cX7_harm 51 = .ok (.invokevirtual 256, 3) := by decide +kernel
theorem dX7_harm_54 : decode cX7_harm 54 = .ok (.iload_n 2, 1) := by decide +kernel
theorem dX7_harm_55 : decode cX7_harm 55 = .ok (.ifCond .ne 15, 3) := by decide +kernel
theorem dX7_harm_58 : decode cX7_harm 58 = .ok (.aload_n 0, 1) := by decide +kernel
theorem dX7_harm_59 : decode cX7_harm 59 = .ok (.getfield 44, 3) := by decide +kernel
theorem dX7_harm_62 : decode cX7_harm 62 = .ok (.aload_n 0, 1) := by decide +kernel
theorem dX7_harm_63 : decode cX7_harm 63 = .ok (.getfield 10, 3) := by decide +kernel
theorem dX7_harm_66 : decode cX7_harm 66 = .ok (.invokevirtual 302, 3) := by decide +kernel
theorem dX7_harm_69 : decode cX7_harm 69 = .ok (.ireturn, 1) := by decide +kernel
theorem dX7_harm_70 : decode cX7_harm 70 = .ok (.iload_n 2, 1) := by decide +kernel
theorem dX7_harm_71 : decode cX7_harm 71 = .ok (.iconst 1, 1) := by decide +kernel
theorem dX7_harm_72 : decode cX7_harm 72 = .ok (.if_icmp .ne 17, 3) := by decide +kernel
theorem dX7_harm_75 : decode cX7_harm 75 = .ok (.aload_n 0, 1) := by decide +kernel
theorem dX7_harm_76 : decode cX7_harm 76 = .ok (.getfield 44, 3) := by decide +kernel
theorem dX7_harm_79 : decode cX7_harm 79 = .ok (.aload_n 0, 1) := by decide +kernel
theorem dX7_harm_80 : decode cX7_harm 80 = .ok (.getfield 10, 3) := by decide +kernel
theorem dX7_harm_83 : decode cX7_harm 83 = .ok (.invokevirtual 266, 3) := by decide +kernel
theorem dX7_harm_86 : decode cX7_harm 86 = .ok (.goto 14, 3) := by decide +kernel
theorem dX7_harm_89 : decode cX7_harm 89 = .ok (.aload_n 0, 1) := by decide +kernel
theorem dX7_harm_90 : decode cX7_harm 90 = .ok (.getfield 44, 3) := by decide +kernel
theorem dX7_harm_93 : decode cX7_harm 93 = .ok (.aload_n 0, 1) := by decide +kernel
theorem dX7_harm_94 : decode cX7_harm 94 = .ok (.getfield 10, 3) := by decide +kernel
theorem dX7_harm_97 : decode cX7_harm 97 = .ok (.invokevirtual 305, 3) := by decide +kernel
theorem dX7_harm_100 : decode cX7_harm 100 = .ok (.ireturn, 1) := by decide +kernel
theorem dX7_worst_0 : decode cX7_worst 0 = .ok (.aload_n 0, 1) := by decide +kernel
theorem dX7_worst_1 : decode cX7_worst 1 = .ok (.getfield 44, 3) := by decide +kernel
theorem dX7_worst_4 : decode cX7_worst 4 = .ok (.aload_n 0, 1) := by decide +kernel
theorem dX7_worst_5 : decode cX7_worst 5 = .ok (.getfield 10, 3) := by decide +kernel
theorem dX7_worst_8 : decode cX7_worst 8 = .ok (.invokevirtual 253, 3) := by decide +kernel
theorem dX7_worst_11 : decode cX7_worst 11 = .ok (.iconst (-1), 1) := by decide +kernel
theorem dX7_worst_12 : decode cX7_worst 12 = .ok (.istore_n 1, 1) := by decide +kernel
theorem dX7_worst_13 : decode cX7_worst 13 = .ok (.iconst (-1), 1) := by decide +kernel
theorem dX7_worst_14 : decode cX7_worst 14 = .ok (.istore_n 2, 1) := by decide +kernel
theorem dX7_worst_15 : decode cX7_worst 15 = .ok (.iconst 0, 1) := by decide +kernel
theorem dX7_worst_16 : decode cX7_worst 16 = .ok (.istore_n 3, 1) := by decide +kernel
theorem dX7_worst_17 : decode cX7_worst 17 = .ok (.iload_n 3, 1) := by decide +kernel
theorem dX7_worst_18 : decode cX7_worst 18 = .ok (.aload_n 0, 1) := by decide +kernel
theorem dX7_worst_19 : decode cX7_worst 19 = .ok (.getfield 10, 3) := by decide +kernel
theorem dX7_worst_22 : decode cX7_worst 22 = .ok (.getfield 93, 3) := by decide +kernel
theorem dX7_worst_25 : decode cX7_worst 25 = .ok (.if_icmp .ge 52, 3) := by decide +kernel
theorem dX7_worst_28 : decode cX7_worst 28 = .ok (.aload_n 0, 1) := by decide +kernel
theorem dX7_worst_29 : decode cX7_worst 29 = .ok (.getfield 44, 3) := by decide +kernel
theorem dX7_worst_32 : decode cX7_worst 32 = .ok (.iload_n 3, 1) := by decide +kernel
theorem dX7_worst_33 : decode cX7_worst 33 = .ok (.invokevirtual 299, 3) := by decide +kernel
theorem dX7_worst_36 : decode cX7_worst 36 = .ok (.aload_n 0, 1) := by decide +kernel
theorem dX7_worst_37 : decode cX7_worst 37 = .ok (.getfield 44, 3) := by decide +kernel
theorem dX7_worst_40 : decode cX7_worst 40 = .ok (.aload_n 0, 1) := by decide +kernel
theorem dX7_worst_41 : decode cX7_worst 41 = .ok (.getfield 10, 3) := by decide +kernel
theorem dX7_worst_44 : decode cX7_worst 44 = .ok (.invokevirtual 256, 3) := by decide +kernel
theorem dX7_worst_47 : decode cX7_worst 47 = .ok (.aload_n 0, 1) := by decide +kernel
theorem dX7_worst_48 : decode cX7_worst 48 = .ok (.getfield 44, 3) := by decide +kernel
theorem dX7_worst_51 : decode cX7_worst 51 = .ok (.aload_n 0, 1) := by decide +kernel
theorem dX7_worst_52 : decode cX7_worst 52 = .ok (.getfield 10, 3) := by decide +kernel
theorem dX7_worst_55 : decode cX7_worst 55 = .ok (.invokevirtual 266, 3) := by decide +kernel
theorem dX7_worst_58 : decode cX7_worst 58 = .ok (.istore 4, 2) := by decide +kernel
theorem dX7_worst_60 : decode cX7_worst 60 = .ok (.iload 4, 2) := by decide +kernel
theorem dX7_worst_62 : decode cX7_worst 62 = .ok (.iload_n 2, 1) := by decide +kernel
theorem dX7_worst_63 : decode cX7_worst 63 = .ok (.if_icmp .le 8, 3) := by decide +kernel
theorem dX7_worst_66 : decode cX7_worst 66 = .ok (.iload 4, 2) := by decide +kernel
theorem dX7_worst_68 : decode cX7_worst 68 = .ok (.istore_n 2, 1) := by decide +kernel
theorem dX7_worst_69 : decode cX7_worst 69 = .ok (.iload_n 3, 1) := by decide +kernel
theorem dX7_worst_70 : decode cX7_worst 70 = .ok (.istore_n 1, 1) := by decide +kernel
theorem dX7_worst_71 : decode cX7_worst 71 = .ok (.iinc 3 1, 3) := by decide +kernel
theorem dX7_worst_74 : decode cX7_worst 74 = .ok (.goto (-57), 3) := by decide +kernel
theorem dX7_worst_77 : decode cX7_worst 77 = .ok (.iload_n 1, 1) := by decide +kernel
theorem dX7_worst_78 : decode cX7_worst 78 = .ok (.ireturn, 1) := by decide +kernel
theorem dX7_bestEvery_0 : decode cX7_bestEvery 0 = .ok (.aload_n 0, 1) := by decide +kernel
theorem dX7_bestEvery_1 : decode cX7_bestEvery 1 = .ok (.getfield 44, 3) := by decide +kernel
theorem dX7_bestEvery_4 : decode cX7_bestEvery 4 = .ok (.aload_n 0, 1) := by decide +kernel
theorem dX7_bestEvery_5 : decode cX7_bestEvery 5 = .ok (.getfield 10, 3) := by decide +kernel
theorem dX7_bestEvery_8 : decode cX7_bestEvery 8 = .ok (.invokevirtual 253, 3) := by decide +kernel
theorem dX7_bestEvery_11 : decode cX7_bestEvery 11 = .ok (.iconst (-1), 1) := by decide +kernel
theorem dX7_bestEvery_12 : decode cX7_bestEvery 12 = .ok (.istore_n 1, 1) := by decide +kernel
theorem dX7_bestEvery_13 : decode cX7_bestEvery 13 = .ok (.iconst 0, 1) := by decide +kernel
theorem dX7_bestEvery_14 : decode cX7_bestEvery 14 = .ok (.istore_n 2, 1) := by decide +kernel
theorem dX7_bestEvery_15 : decode cX7_bestEvery 15 = .ok (.iconst 0, 1) := by decide +kernel
theorem dX7_bestEvery_16 : decode cX7_bestEvery 16 = .ok (.istore_n 3, 1) := by decide +kernel
theorem dX7_bestEvery_17 : decode cX7_bestEvery 17 = .ok (.getstatic 308, 3) := by decide +kernel
theorem dX7_bestEvery_20 : decode cX7_bestEvery 20 = .ok (.iconst 0, 1) := by decide +kernel
theorem dX7_bestEvery_21 : decode cX7_bestEvery 21 = .ok (.iaload, 1) := by decide +kernel
theorem dX7_bestEvery_22 : decode cX7_bestEvery 22 = .ok (.istore 4, 2) := by decide +kernel
theorem dX7_bestEvery_24 : decode cX7_bestEvery 24 = .ok (.iload 4, 2) := by decide +kernel
theorem dX7_bestEvery_26 : decode cX7_bestEvery 26 = .ok (.getstatic 311, 3) := by decide +kernel
theorem dX7_bestEvery_29 : decode cX7_bestEvery 29 = .ok (.iconst 0, 1) := by decide +kernel
theorem dX7_bestEvery_30 : decode cX7_bestEvery 30 = .ok (.iaload, 1) := by decide +kernel
theorem dX7_bestEvery_31 : decode cX7_bestEvery 31 = .ok (.if_icmp .gt 84, 3) := by decide +kernel
theorem dX7_bestEvery_34 : decode cX7_bestEvery 34 = .ok (.aload_n 0, 1) := by decide +kernel
theorem dX7_bestEvery_35 : decode cX7_bestEvery 35 = .ok (.getfield 44, 3) := by decide +kernel
theorem dX7_bestEvery_38 : decode cX7_bestEvery 38 = .ok (.iload 4, 2) := by decide +kernel
theorem dX7_bestEvery_40 : decode cX7_bestEvery 40 = .ok (.putfield 314, 3) := by decide +kernel
theorem dX7_bestEvery_43 : decode cX7_bestEvery 43 = .ok (.aload_n 0, 1) := by decide +kernel
theorem dX7_bestEvery_44 : decode cX7_bestEvery 44 = .ok (.getfield 44, 3) := by decide +kernel
theorem dX7_bestEvery_47 : decode cX7_bestEvery 47 = .ok (.aload_n 0, 1) := by decide +kernel
theorem dX7_bestEvery_48 : decode cX7_bestEvery 48 = .ok (.getfield 10, 3) := by decide +kernel
theorem dX7_bestEvery_51 : decode cX7_bestEvery 51 = .ok (.invokevirtual 256, 3) := by decide +kernel
theorem dX7_bestEvery_54 : decode cX7_bestEvery 54 = .ok (.aload_n 0, 1) := by decide +kernel
theorem dX7_bestEvery_55 : decode cX7_bestEvery 55 = .ok (.getfield 44, 3) := by decide +kernel
theorem dX7_bestEvery_58 : decode cX7_bestEvery 58 = .ok (.aload_n 0, 1) := by decide +kernel
theorem dX7_bestEvery_59 : decode cX7_bestEvery 59 = .ok (.getfield 10, 3) := by decide +kernel
theorem dX7_bestEvery_62 : decode cX7_bestEvery 62 = .ok (.invokevirtual 266, 3) := by decide +kernel
theorem dX7_bestEvery_65 : decode cX7_bestEvery 65 = .ok (.istore 5, 2) := by decide +kernel
theorem dX7_bestEvery_67 : decode cX7_bestEvery 67 = .ok (.iload_n 1, 1) := by decide +kernel
theorem dX7_bestEvery_68 : decode cX7_bestEvery 68 = .ok (.iconst (-1), 1) := by decide +kernel
theorem dX7_bestEvery_69 : decode cX7_bestEvery 69 = .ok (.if_icmp .eq 26, 3) := by decide +kernel
theorem dX7_bestEvery_72 : decode cX7_bestEvery 72 = .ok (.iload 5, 2) := by decide +kernel
theorem dX7_bestEvery_74 : decode cX7_bestEvery 74 = .ok (.iload_n 2, 1) := by decide +kernel
theorem dX7_bestEvery_75 : decode cX7_bestEvery 75 = .ok (.if_icmp .lt 20, 3) := by decide +kernel
theorem dX7_bestEvery_78 : decode cX7_bestEvery 78 = .ok (.iload 5, 2) := by decide +kernel
theorem dX7_bestEvery_80 : decode cX7_bestEvery 80 = .ok (.iload_n 2, 1) := by decide +kernel
theorem dX7_bestEvery_81 : decode cX7_bestEvery 81 = .ok (.if_icmp .ne 28, 3) := by decide +kernel
theorem dX7_bestEvery_84 : decode cX7_bestEvery 84 = .ok (.aload_n 0, 1) := by decide +kernel
theorem dX7_bestEvery_85 : decode cX7_bestEvery 85 = .ok (.getfield 44, 3) := by decide +kernel
theorem dX7_bestEvery_88 : decode cX7_bestEvery 88 = .ok (.getfield 259, 3) := by decide +kernel
theorem dX7_bestEvery_91 : decode cX7_bestEvery 91 = .ok (.iload_n 3, 1) := by decide +kernel
theorem dX7_bestEvery_92 : decode cX7_bestEvery 92 = .ok (.if_icmp .ge 17, 3) := by decide +kernel
theorem dX7_bestEvery_95 : decode cX7_bestEvery 95 = .ok (.iload 4, 2) := by decide +kernel
theorem dX7_bestEvery_97 : decode cX7_bestEvery 97 = .ok (.istore_n 1, 1) := by decide +kernel
theorem dX7_bestEvery_98 : decode cX7_bestEvery 98 = .ok (.iload 5, 2) := by decide +kernel
theorem dX7_bestEvery_100 : decode cX7_bestEvery 100 = .ok (.istore_n 2, 1) := by decide +kernel
theorem dX7_bestEvery_101 : decode cX7_bestEvery 101 = .ok (.aload_n 0, 1) := by decide +kernel
theorem dX7_bestEvery_102 : decode cX7_bestEvery 102 = .ok (.getfield 44, 3) := by decide +kernel
theorem dX7_bestEvery_105 : decode cX7_bestEvery 105 = .ok (.getfield 259, 3) := by decide +kernel
theorem dX7_bestEvery_108 : decode cX7_bestEvery 108 = .ok (.istore_n 3, 1) := by decide +kernel
theorem dX7_bestEvery_109 : decode cX7_bestEvery 109 = .ok (.iinc 4 1, 3) := by decide +kernel
theorem dX7_bestEvery_112 : decode cX7_bestEvery 112 = .ok (.goto (-88), 3) := by decide +kernel
theorem dX7_bestEvery_115 : decode cX7_bestEvery 115 = .ok (.iload_n 1, 1) := by decide +kernel
theorem dX7_bestEvery_116 : decode cX7_bestEvery 116 = .ok (.ireturn, 1) := by decide +kernel
theorem dX7_needsSteps_0 : decode cX7_needsSteps 0 = .ok (.aload_n 0, 1) := by decide +kernel
theorem dX7_needsSteps_1 : decode cX7_needsSteps 1 = .ok (.getfield 44, 3) := by decide +kernel
theorem dX7_needsSteps_4 : decode cX7_needsSteps 4 = .ok (.aload_n 0, 1) := by decide +kernel
theorem dX7_needsSteps_5 : decode cX7_needsSteps 5 = .ok (.getfield 10, 3) := by decide +kernel
theorem dX7_needsSteps_8 : decode cX7_needsSteps 8 = .ok (.invokevirtual 253, 3) := by decide +kernel
theorem dX7_needsSteps_11 : decode cX7_needsSteps 11 = .ok (.getstatic 308, 3) := by decide +kernel
theorem dX7_needsSteps_14 : decode cX7_needsSteps 14 = .ok (.iconst 3, 1) := by decide +kernel
theorem dX7_needsSteps_15 : decode cX7_needsSteps 15 = .ok (.iaload, 1) := by decide +kernel
theorem dX7_needsSteps_16 : decode cX7_needsSteps 16 = .ok (.istore_n 1, 1) := by decide +kernel
theorem dX7_needsSteps_17 : decode cX7_needsSteps 17 = .ok (.iload_n 1, 1) := by decide +kernel
theorem dX7_needsSteps_18 : decode cX7_needsSteps 18 = .ok (.getstatic 311, 3) := by decide +kernel
theorem dX7_needsSteps_21 : decode cX7_needsSteps 21 = .ok (.iconst 3, 1) := by decide +kernel
theorem dX7_needsSteps_22 : decode cX7_needsSteps 22 = .ok (.iaload, 1) := by decide +kernel
theorem dX7_needsSteps_23 : decode cX7_needsSteps 23 = .ok (.if_icmp .gt 44, 3) := by decide +kernel
theorem dX7_needsSteps_26 : decode cX7_needsSteps 26 = .ok (.aload_n 0, 1) := by decide +kernel
theorem dX7_needsSteps_27 : decode cX7_needsSteps 27 = .ok (.getfield 44, 3) := by decide +kernel
theorem dX7_needsSteps_30 : decode cX7_needsSteps 30 = .ok (.iload_n 1, 1) := by decide +kernel
theorem dX7_needsSteps_31 : decode cX7_needsSteps 31 = .ok (.putfield 317, 3) := by decide +kernel
theorem dX7_needsSteps_34 : decode cX7_needsSteps 34 = .ok (.aload_n 0, 1) := by decide +kernel
theorem dX7_needsSteps_35 : decode cX7_needsSteps 35 = .ok (.getfield 44, 3) := by decide +kernel
theorem dX7_needsSteps_38 : decode cX7_needsSteps 38 = .ok (.aload_n 0, 1) := by decide +kernel
theorem dX7_needsSteps_39 : decode cX7_needsSteps 39 = .ok (.getfield 10, 3) := by decide +kernel
theorem dX7_needsSteps_42 : decode cX7_needsSteps 42 = .ok (.invokevirtual 256, 3) := by decide +kernel
theorem dX7_needsSteps_45 : decode cX7_needsSteps 45 = .ok (.aload_n 0, 1) := by decide +kernel
theorem dX7_needsSteps_46 : decode cX7_needsSteps 46 = .ok (.getfield 44, 3) := by decide +kernel
theorem dX7_needsSteps_49 : decode cX7_needsSteps 49 = .ok (.aload_n 0, 1) := by decide +kernel
theorem dX7_needsSteps_50 : decode cX7_needsSteps 50 = .ok (.getfield 10, 3) := by decide +kernel
theorem dX7_needsSteps_53 : decode cX7_needsSteps 53 = .ok (.invokevirtual 266, 3) := by decide +kernel
theorem dX7_needsSteps_56 : decode cX7_needsSteps 56 = .ok (.ifCond .ne 5, 3) := by decide +kernel
theorem dX7_needsSteps_59 : decode cX7_needsSteps 59 = .ok (.iload_n 1, 1) := by decide +kernel
theorem dX7_needsSteps_60 : decode cX7_needsSteps 60 = .ok (.ireturn, 1) := by decide +kernel
theorem dX7_needsSteps_61 : decode cX7_needsSteps 61 = .ok (.iinc 1 1, 3) := by decide +kernel
theorem dX7_needsSteps_64 : decode cX7_needsSteps 64 = .ok (.goto (-47), 3) := by decide +kernel
theorem dX7_needsSteps_67 : decode cX7_needsSteps 67 = .ok (.iconst (-1), 1) := by decide +kernel
theorem dX7_needsSteps_68 : decode cX7_needsSteps 68 = .ok (.ireturn, 1) := by decide +kernel
theorem dX7_undo_0 : decode cX7_undo 0 = .ok (.aload_n 0, 1) := by decide +kernel
theorem dX7_undo_1 : decode cX7_undo 1 = .ok (.getfield 19, 3) := by decide +kernel
theorem dX7_undo_4 : decode cX7_undo 4 = .ok (.aload_n 0, 1) := by decide +kernel
theorem dX7_undo_5 : decode cX7_undo 5 = .ok (.getfield 10, 3) := by decide +kernel
theorem dX7_undo_8 : decode cX7_undo 8 = .ok (.invokevirtual 334, 3) := by decide +kernel
theorem dX7_undo_11 : decode cX7_undo 11 = .ok (.ifCond .eq 13, 3) := by decide +kernel
theorem dX7_undo_14 : decode cX7_undo 14 = .ok (.aload_n 0, 1) := by decide +kernel
theorem dX7_undo_15 : decode cX7_undo 15 = .ok (.getfield 19, 3) := by decide +kernel
theorem dX7_undo_18 : decode cX7_undo 18 = .ok (.getfield 121, 3) := by decide +kernel
theorem dX7_undo_21 : decode cX7_undo 21 = .ok (.goto 4, 3) := by decide +kernel
theorem dX7_undo_24 : decode cX7_undo 24 = .ok (.iconst (-1), 1) := by decide +kernel
theorem dX7_undo_25 : decode cX7_undo 25 = .ok (.ireturn, 1) := by decide +kernel
theorem dX7_needLine_0 : decode cX7_needLine 0 = .ok (.aload_n 0, 1) := by decide +kernel
theorem dX7_needLine_1 : decode cX7_needLine 1 = .ok (.getfield 10, 3) := by decide +kernel
theorem dX7_needLine_4 : decode cX7_needLine 4 = .ok (.iload_n 1, 1) := by decide +kernel
theorem dX7_needLine_5 : decode cX7_needLine 5 = .ok (.invokevirtual 343, 3) := by decide +kernel
theorem dX7_needLine_8 : decode cX7_needLine 8 = .ok (.ifCond .ne 14, 3) := by decide +kernel
theorem dX7_needLine_11 : decode cX7_needLine 11 = .ok (.new 222, 3) := by decide +kernel
theorem dX7_needLine_14 : decode cX7_needLine 14 = .ok (.dup, 1) := by decide +kernel
theorem dX7_needLine_15 : decode cX7_needLine 15 = .ok (.ldc_w 346, 3) := by decide +kernel
theorem dX7_needLine_18 : decode cX7_needLine 18 = .ok (.invokespecial 226, 3) := by decide +kernel
theorem dX7_needLine_21 : decode cX7_needLine 21 = .ok (.athrow, 1) := by decide +kernel
theorem dX7_needLine_22 : decode cX7_needLine 22 = .ok (.return_, 1) := by decide +kernel
theorem dX7_needDot_0 : decode cX7_needDot 0 = .ok (.aload_n 0, 1) := by decide +kernel
theorem dX7_needDot_1 : decode cX7_needDot 1 = .ok (.getfield 10, 3) := by decide +kernel
theorem dX7_needDot_4 : decode cX7_needDot 4 = .ok (.iload_n 1, 1) := by decide +kernel
theorem dX7_needDot_5 : decode cX7_needDot 5 = .ok (.invokevirtual 343, 3) := by decide +kernel
theorem dX7_needDot_8 : decode cX7_needDot 8 = .ok (.ifCond .eq 18, 3) := by decide +kernel
theorem dX7_needDot_11 : decode cX7_needDot 11 = .ok (.iload_n 2, 1) := by decide +kernel
theorem dX7_needDot_12 : decode cX7_needDot 12 = .ok (.ifCond .lt 14, 3) := by decide +kernel
theorem dX7_needDot_15 : decode cX7_needDot 15 = .ok (.iload_n 2, 1) := by decide +kernel
theorem dX7_needDot_16 : decode cX7_needDot 16 = .ok (.aload_n 0, 1) := by decide +kernel
theorem dX7_needDot_17 : decode cX7_needDot 17 = .ok (.getfield 10, 3) := by decide +kernel
theorem dX7_needDot_20 : decode cX7_needDot 20 = .ok (.getfield 108, 3) := by decide +kernel
theorem dX7_needDot_23 : decode cX7_needDot 23 = .ok (.if_icmp .lt 14, 3) := by decide +kernel
theorem dX7_needDot_26 : decode cX7_needDot 26 = .ok (.new 222, 3) := by decide +kernel
theorem dX7_needDot_29 : decode cX7_needDot 29 = .ok (.dup, 1) := by decide +kernel
theorem dX7_needDot_30 : decode cX7_needDot 30 = .ok (.ldc_w 348, 3) := by decide +kernel
theorem dX7_needDot_33 : decode cX7_needDot 33 = .ok (.invokespecial 226, 3) := by decide +kernel
theorem dX7_needDot_36 : decode cX7_needDot 36 = .ok (.athrow, 1) := by decide +kernel
theorem dX7_needDot_37 : decode cX7_needDot 37 = .ok (.return_, 1) := by decide +kernel
theorem dX7_needPlace_0 : decode cX7_needPlace 0 = .ok (.aload_n 0, 1) := by decide +kernel
theorem dX7_needPlace_1 : decode cX7_needPlace 1 = .ok (.getfield 10, 3) := by decide +kernel
theorem dX7_needPlace_4 : decode cX7_needPlace 4 = .ok (.iload_n 1, 1) := by decide +kernel
theorem dX7_needPlace_5 : decode cX7_needPlace 5 = .ok (.invokevirtual 343, 3) := by decide +kernel
theorem dX7_needPlace_8 : decode cX7_needPlace 8 = .ok (.ifCond .eq 7, 3) := by decide +kernel
theorem dX7_needPlace_11 : decode cX7_needPlace 11 = .ok (.iload_n 2, 1) := by decide +kernel
theorem dX7_needPlace_12 : decode cX7_needPlace 12 = .ok (.ifCond .ge 14, 3) := by decide +kernel
theorem dX7_needPlace_15 : decode cX7_needPlace 15 = .ok (.new 222, 3) := by decide +kernel
theorem dX7_needPlace_18 : decode cX7_needPlace 18 = .ok (.dup, 1) := by decide +kernel
theorem dX7_needPlace_19 : decode cX7_needPlace 19 = .ok (.ldc_w 350, 3) := by decide +kernel
theorem dX7_needPlace_22 : decode cX7_needPlace 22 = .ok (.invokespecial 226, 3) := by decide +kernel
theorem dX7_needPlace_25 : decode cX7_needPlace 25 = .ok (.athrow, 1) := by decide +kernel
theorem dX7_needPlace_26 : decode cX7_needPlace 26 = .ok (.return_, 1) := by decide +kernel
theorem dX7_needSpan_0 : decode cX7_needSpan 0 = .ok (.iload_n 1, 1) := by decide +kernel
theorem dX7_needSpan_1 : decode cX7_needSpan 1 = .ok (.ifCond .lt 30, 3) := by decide +kernel
theorem dX7_needSpan_4 : decode cX7_needSpan 4 = .ok (.iload_n 1, 1) := by decide +kernel
theorem dX7_needSpan_5 : decode cX7_needSpan 5 = .ok (.aload_n 0, 1) := by decide +kernel
theorem dX7_needSpan_6 : decode cX7_needSpan 6 = .ok (.getfield 10, 3) := by decide +kernel
theorem dX7_needSpan_9 : decode cX7_needSpan 9 = .ok (.getfield 108, 3) := by decide +kernel
theorem dX7_needSpan_12 : decode cX7_needSpan 12 = .ok (.if_icmp .gt 19, 3) := by decide +kernel
theorem dX7_needSpan_15 : decode cX7_needSpan 15 = .ok (.iload_n 2, 1) := by decide +kernel
theorem dX7_needSpan_16 : decode cX7_needSpan 16 = .ok (.iload_n 1, 1) := by decide +kernel
theorem dX7_needSpan_17 : decode cX7_needSpan 17 = .ok (.if_icmp .lt 14, 3) := by decide +kernel
theorem dX7_needSpan_20 : decode cX7_needSpan 20 = .ok (.iload_n 2, 1) := by decide +kernel
theorem dX7_needSpan_21 : decode cX7_needSpan 21 = .ok (.aload_n 0, 1) := by decide +kernel
theorem dX7_needSpan_22 : decode cX7_needSpan 22 = .ok (.getfield 10, 3) := by decide +kernel
theorem dX7_needSpan_25 : decode cX7_needSpan 25 = .ok (.getfield 108, 3) := by decide +kernel
theorem dX7_needSpan_28 : decode cX7_needSpan 28 = .ok (.if_icmp .le 14, 3) := by decide +kernel
theorem dX7_needSpan_31 : decode cX7_needSpan 31 = .ok (.new 76, 3) := by decide +kernel
theorem dX7_needSpan_34 : decode cX7_needSpan 34 = .ok (.dup, 1) := by decide +kernel
theorem dX7_needSpan_35 : decode cX7_needSpan 35 = .ok (.ldc_w 352, 3) := by decide +kernel
theorem dX7_needSpan_38 : decode cX7_needSpan 38 = .ok (.invokespecial 80, 3) := by decide +kernel
theorem dX7_needSpan_41 : decode cX7_needSpan 41 = .ok (.athrow, 1) := by decide +kernel
theorem dX7_needSpan_42 : decode cX7_needSpan 42 = .ok (.return_, 1) := by decide +kernel
theorem dX7_needRoom_0 : decode cX7_needRoom 0 = .ok (.aload_n 0, 1) := by decide +kernel
theorem dX7_needRoom_1 : decode cX7_needRoom 1 = .ok (.getfield 10, 3) := by decide +kernel
theorem dX7_needRoom_4 : decode cX7_needRoom 4 = .ok (.getfield 93, 3) := by decide +kernel
theorem dX7_needRoom_7 : decode cX7_needRoom 7 = .ok (.bipush 20, 2) := by decide +kernel
theorem dX7_needRoom_9 : decode cX7_needRoom 9 = .ok (.if_icmp .lt 14, 3) := by decide +kernel
theorem dX7_needRoom_12 : decode cX7_needRoom 12 = .ok (.new 65, 3) := by decide +kernel
theorem dX7_needRoom_15 : decode cX7_needRoom 15 = .ok (.dup, 1) := by decide +kernel
theorem dX7_needRoom_16 : decode cX7_needRoom 16 = .ok (.ldc_w 354, 3) := by decide +kernel
theorem dX7_needRoom_19 : decode cX7_needRoom 19 = .ok (.invokespecial 69, 3) := by decide +kernel
theorem dX7_needRoom_22 : decode cX7_needRoom 22 = .ok (.athrow, 1) := by decide +kernel
theorem dX7_needRoom_23 : decode cX7_needRoom 23 = .ok (.return_, 1) := by decide +kernel
theorem dX7_needColour_0 : decode cX7_needColour 0 = .ok (.iload_n 0, 1) := by decide +kernel
theorem dX7_needColour_1 : decode cX7_needColour 1 = .ok (.ifCond .lt 8, 3) := by decide +kernel
theorem dX7_needColour_4 : decode cX7_needColour 4 = .ok (.iload_n 0, 1) := by decide +kernel
theorem dX7_needColour_5 : decode cX7_needColour 5 = .ok (.iconst 1, 1) := by decide +kernel
theorem dX7_needColour_6 : decode cX7_needColour 6 = .ok (.if_icmp .le 14, 3) := by decide +kernel
theorem dX7_needColour_9 : decode cX7_needColour 9 = .ok (.new 76, 3) := by decide +kernel
theorem dX7_needColour_12 : decode cX7_needColour 12 = .ok (.dup, 1) := by decide +kernel
theorem dX7_needColour_13 : decode cX7_needColour 13 = .ok (.ldc_w 356, 3) := by decide +kernel
theorem dX7_needColour_16 : decode cX7_needColour 16 = .ok (.invokespecial 80, 3) := by decide +kernel
theorem dX7_needColour_19 : decode cX7_needColour 19 = .ok (.athrow, 1) := by decide +kernel
theorem dX7_needColour_20 : decode cX7_needColour 20 = .ok (.return_, 1) := by decide +kernel
theorem dX7_blackDots_0 : decode cX7_blackDots 0 = .ok (.iconst 0, 1) := by decide +kernel
theorem dX7_blackDots_1 : decode cX7_blackDots 1 = .ok (.istore_n 1, 1) := by decide +kernel
theorem dX7_blackDots_2 : decode cX7_blackDots 2 = .ok (.iconst 0, 1) := by decide +kernel
theorem dX7_blackDots_3 : decode cX7_blackDots 3 = .ok (.istore_n 2, 1) := by decide +kernel
theorem dX7_blackDots_4 : decode cX7_blackDots 4 = .ok (.iload_n 2, 1) := by decide +kernel
theorem dX7_blackDots_5 : decode cX7_blackDots 5 = .ok (.aload_n 0, 1) := by decide +kernel
theorem dX7_blackDots_6 : decode cX7_blackDots 6 = .ok (.getfield 10, 3) := by decide +kernel
theorem dX7_blackDots_9 : decode cX7_blackDots 9 = .ok (.getfield 93, 3) := by decide +kernel
theorem dX7_blackDots_12 : decode cX7_blackDots 12 = .ok (.if_icmp .ge 23, 3) := by decide +kernel
theorem dX7_blackDots_15 : decode cX7_blackDots 15 = .ok (.iload_n 1, 1) := by decide +kernel
theorem dX7_blackDots_16 : decode cX7_blackDots 16 = .ok (.aload_n 0, 1) := by decide +kernel
theorem dX7_blackDots_17 : decode cX7_blackDots 17 = .ok (.getfield 10, 3) := by decide +kernel
theorem dX7_blackDots_20 : decode cX7_blackDots 20 = .ok (.iload_n 2, 1) := by decide +kernel
theorem dX7_blackDots_21 : decode cX7_blackDots 21 = .ok (.invokevirtual 131, 3) := by decide +kernel
theorem dX7_blackDots_24 : decode cX7_blackDots 24 = .ok (.invokestatic 159, 3) := by decide +kernel
theorem dX7_blackDots_27 : decode cX7_blackDots 27 = .ok (.iadd, 1) := by decide +kernel
theorem dX7_blackDots_28 : decode cX7_blackDots 28 = .ok (.istore_n 1, 1) := by decide +kernel
theorem dX7_blackDots_29 : decode cX7_blackDots 29 = .ok (.iinc 2 1, 3) := by decide +kernel
theorem dX7_blackDots_32 : decode cX7_blackDots 32 = .ok (.goto (-28), 3) := by decide +kernel
theorem dX7_blackDots_35 : decode cX7_blackDots 35 = .ok (.iload_n 1, 1) := by decide +kernel
theorem dX7_blackDots_36 : decode cX7_blackDots 36 = .ok (.ireturn, 1) := by decide +kernel
theorem dX7_allChanges_0 : decode cX7_allChanges 0 = .ok (.iconst 0, 1) := by decide +kernel
theorem dX7_allChanges_1 : decode cX7_allChanges 1 = .ok (.istore_n 1, 1) := by decide +kernel
theorem dX7_allChanges_2 : decode cX7_allChanges 2 = .ok (.iconst 0, 1) := by decide +kernel
theorem dX7_allChanges_3 : decode cX7_allChanges 3 = .ok (.istore_n 2, 1) := by decide +kernel
theorem dX7_allChanges_4 : decode cX7_allChanges 4 = .ok (.iload_n 2, 1) := by decide +kernel
theorem dX7_allChanges_5 : decode cX7_allChanges 5 = .ok (.aload_n 0, 1) := by decide +kernel
theorem dX7_allChanges_6 : decode cX7_allChanges 6 = .ok (.getfield 10, 3) := by decide +kernel
theorem dX7_allChanges_9 : decode cX7_allChanges 9 = .ok (.getfield 93, 3) := by decide +kernel
theorem dX7_allChanges_12 : decode cX7_allChanges 12 = .ok (.if_icmp .ge 33, 3) := by decide +kernel
theorem dX7_allChanges_15 : decode cX7_allChanges 15 = .ok (.iload_n 1, 1) := by decide +kernel
theorem dX7_allChanges_16 : decode cX7_allChanges 16 = .ok (.aload_n 0, 1) := by decide +kernel
theorem dX7_allChanges_17 : decode cX7_allChanges 17 = .ok (.getfield 10, 3) := by decide +kernel
theorem dX7_allChanges_20 : decode cX7_allChanges 20 = .ok (.iload_n 2, 1) := by decide +kernel
theorem dX7_allChanges_21 : decode cX7_allChanges 21 = .ok (.invokevirtual 131, 3) := by decide +kernel
theorem dX7_allChanges_24 : decode cX7_allChanges 24 = .ok (.aload_n 0, 1) := by decide +kernel
theorem dX7_allChanges_25 : decode cX7_allChanges 25 = .ok (.getfield 10, 3) := by decide +kernel
theorem dX7_allChanges_28 : decode cX7_allChanges 28 = .ok (.getfield 108, 3) := by decide +kernel
theorem dX7_allChanges_31 : decode cX7_allChanges 31 = .ok (.invokestatic 155, 3) := by decide +kernel
theorem dX7_allChanges_34 : decode cX7_allChanges 34 = .ok (.invokestatic 159, 3) := by decide +kernel
theorem dX7_allChanges_37 : decode cX7_allChanges 37 = .ok (.iadd, 1) := by decide +kernel
theorem dX7_allChanges_38 : decode cX7_allChanges 38 = .ok (.istore_n 1, 1) := by decide +kernel
theorem dX7_allChanges_39 : decode cX7_allChanges 39 = .ok (.iinc 2 1, 3) := by decide +kernel
theorem dX7_allChanges_42 : decode cX7_allChanges 42 = .ok (.goto (-38), 3) := by decide +kernel
theorem dX7_allChanges_45 : decode cX7_allChanges 45 = .ok (.iload_n 1, 1) := by decide +kernel
theorem dX7_allChanges_46 : decode cX7_allChanges 46 = .ok (.ireturn, 1) := by decide +kernel
theorem dX7_linesAsAbove_0 : decode cX7_linesAsAbove 0 = .ok (.iconst 0, 1) := by decide +kernel
theorem dX7_linesAsAbove_1 : decode cX7_linesAsAbove 1 = .ok (.istore_n 1, 1) := by decide +kernel
theorem dX7_linesAsAbove_2 : decode cX7_linesAsAbove 2 = .ok (.iconst 0, 1) := by decide +kernel
theorem dX7_linesAsAbove_3 : decode cX7_linesAsAbove 3 = .ok (.istore_n 2, 1) := by decide +kernel
theorem dX7_linesAsAbove_4 : decode cX7_linesAsAbove 4 = .ok (.iload_n 2, 1) := by decide +kernel
theorem dX7_linesAsAbove_5 : decode cX7_linesAsAbove 5 = .ok (.aload_n 0, 1) := by decide +kernel
theorem dX7_linesAsAbove_6 : decode cX7_linesAsAbove 6 = .ok (.getfield 10, 3) := by decide +kernel
theorem dX7_linesAsAbove_9 : decode cX7_linesAsAbove 9 = .ok (.getfield 93, 3) := by decide +kernel
theorem dX7_linesAsAbove_12 : decode cX7_linesAsAbove 12 = .ok (.if_icmp .ge 34, 3) := by decide +kernel
theorem dX7_linesAsAbove_15 : decode cX7_linesAsAbove 15 = .ok (.aload_n 0, 1) := by decide +kernel
theorem dX7_linesAsAbove_16 : decode cX7_linesAsAbove 16 = .ok (.getfield 10, 3) := by decide +kernel
theorem dX7_linesAsAbove_19 : decode cX7_linesAsAbove 19 = .ok (.iload_n 2, 1) := by decide +kernel
theorem dX7_linesAsAbove_20 : decode cX7_linesAsAbove 20 = .ok (.invokevirtual 131, 3) := by decide +kernel
theorem dX7_linesAsAbove_23 : decode cX7_linesAsAbove 23 = .ok (.aload_n 0, 1) := by decide +kernel
theorem dX7_linesAsAbove_24 : decode cX7_linesAsAbove 24 = .ok (.getfield 10, 3) := by decide +kernel
theorem dX7_linesAsAbove_27 : decode cX7_linesAsAbove 27 = .ok (.iload_n 2, 1) := by decide +kernel
theorem dX7_linesAsAbove_28 : decode cX7_linesAsAbove 28 = .ok (.iconst 1, 1) := by decide +kernel
theorem dX7_linesAsAbove_29 : decode cX7_linesAsAbove 29 = .ok (.isub, 1) := by decide +kernel
theorem dX7_linesAsAbove_30 : decode cX7_linesAsAbove 30 = .ok (.invokevirtual 131, 3) := by decide +kernel
theorem dX7_linesAsAbove_33 : decode cX7_linesAsAbove 33 = .ok (.lcmp, 1) := by decide +kernel
theorem dX7_linesAsAbove_34 : decode cX7_linesAsAbove 34 = .ok (.ifCond .ne 6, 3) := by decide +kernel
theorem dX7_linesAsAbove_37 : decode cX7_linesAsAbove 37 = .ok (.iinc 1 1, 3) := by decide +kernel
theorem dX7_linesAsAbove_40 : decode cX7_linesAsAbove 40 = .ok (.iinc 2 1, 3) := by decide +kernel
theorem dX7_linesAsAbove_43 : decode cX7_linesAsAbove 43 = .ok (.goto (-39), 3) := by decide +kernel
theorem dX7_linesAsAbove_46 : decode cX7_linesAsAbove 46 = .ok (.iload_n 1, 1) := by decide +kernel
theorem dX7_linesAsAbove_47 : decode cX7_linesAsAbove 47 = .ok (.ireturn, 1) := by decide +kernel
theorem dX7_marks_0 : decode cX7_marks 0 = .ok (.iconst 0, 1) := by decide +kernel
theorem dX7_marks_1 : decode cX7_marks 1 = .ok (.istore_n 1, 1) := by decide +kernel
theorem dX7_marks_2 : decode cX7_marks 2 = .ok (.iconst 0, 1) := by decide +kernel
theorem dX7_marks_3 : decode cX7_marks 3 = .ok (.istore_n 2, 1) := by decide +kernel
theorem dX7_marks_4 : decode cX7_marks 4 = .ok (.iload_n 2, 1) := by decide +kernel
theorem dX7_marks_5 : decode cX7_marks 5 = .ok (.aload_n 0, 1) := by decide +kernel
theorem dX7_marks_6 : decode cX7_marks 6 = .ok (.getfield 10, 3) := by decide +kernel
theorem dX7_marks_9 : decode cX7_marks 9 = .ok (.getfield 93, 3) := by decide +kernel
theorem dX7_marks_12 : decode cX7_marks 12 = .ok (.if_icmp .ge 20, 3) := by decide +kernel
theorem dX7_marks_15 : decode cX7_marks 15 = .ok (.aload_n 0, 1) := by decide +kernel
theorem dX7_marks_16 : decode cX7_marks 16 = .ok (.iload_n 2, 1) := by decide +kernel
theorem dX7_marks_17 : decode cX7_marks 17 = .ok (.invokevirtual 145, 3) := by decide +kernel
theorem dX7_marks_20 : decode cX7_marks 20 = .ok (.ifCond .eq 6, 3) := by decide +kernel
theorem dX7_marks_23 : decode cX7_marks 23 = .ok (.iinc 1 1, 3) := by decide +kernel
theorem dX7_marks_26 : decode cX7_marks 26 = .ok (.iinc 2 1, 3) := by decide +kernel
theorem dX7_marks_29 : decode cX7_marks 29 = .ok (.goto (-25), 3) := by decide +kernel
theorem dX7_marks_32 : decode cX7_marks 32 = .ok (.iload_n 1, 1) := by decide +kernel
theorem dX7_marks_33 : decode cX7_marks 33 = .ok (.ireturn, 1) := by decide +kernel
theorem dX7_isMark_0 : decode cX7_isMark 0 = .ok (.iload_n 1, 1) := by decide +kernel
theorem dX7_isMark_1 : decode cX7_isMark 1 = .ok (.aload_n 0, 1) := by decide +kernel
theorem dX7_isMark_2 : decode cX7_isMark 2 = .ok (.getfield 10, 3) := by decide +kernel
theorem dX7_isMark_5 : decode cX7_isMark 5 = .ok (.getfield 104, 3) := by decide +kernel
theorem dX7_isMark_8 : decode cX7_isMark 8 = .ok (.iconst 0, 1) := by decide +kernel
theorem dX7_isMark_9 : decode cX7_isMark 9 = .ok (.iaload, 1) := by decide +kernel
theorem dX7_isMark_10 : decode cX7_isMark 10 = .ok (.invokestatic 360, 3) := by decide +kernel
theorem dX7_isMark_13 : decode cX7_isMark 13 = .ok (.ifCond .eq 5, 3) := by decide +kernel
theorem dX7_isMark_16 : decode cX7_isMark 16 = .ok (.iconst 1, 1) := by decide +kernel
theorem dX7_isMark_17 : decode cX7_isMark 17 = .ok (.ireturn, 1) := by decide +kernel
theorem dX7_isMark_18 : decode cX7_isMark 18 = .ok (.aload_n 0, 1) := by decide +kernel
theorem dX7_isMark_19 : decode cX7_isMark 19 = .ok (.getfield 10, 3) := by decide +kernel
theorem dX7_isMark_22 : decode cX7_isMark 22 = .ok (.getfield 104, 3) := by decide +kernel
theorem dX7_isMark_25 : decode cX7_isMark 25 = .ok (.iconst 1, 1) := by decide +kernel
theorem dX7_isMark_26 : decode cX7_isMark 26 = .ok (.iaload, 1) := by decide +kernel
theorem dX7_isMark_27 : decode cX7_isMark 27 = .ok (.ifCond .ne 5, 3) := by decide +kernel
theorem dX7_isMark_30 : decode cX7_isMark 30 = .ok (.iconst 0, 1) := by decide +kernel
theorem dX7_isMark_31 : decode cX7_isMark 31 = .ok (.ireturn, 1) := by decide +kernel
theorem dX7_isMark_32 : decode cX7_isMark 32 = .ok (.aload_n 0, 1) := by decide +kernel
theorem dX7_isMark_33 : decode cX7_isMark 33 = .ok (.iload_n 1, 1) := by decide +kernel
theorem dX7_isMark_34 : decode cX7_isMark 34 = .ok (.invokevirtual 142, 3) := by decide +kernel
theorem dX7_isMark_37 : decode cX7_isMark 37 = .ok (.aload_n 0, 1) := by decide +kernel
theorem dX7_isMark_38 : decode cX7_isMark 38 = .ok (.getfield 10, 3) := by decide +kernel
theorem dX7_isMark_41 : decode cX7_isMark 41 = .ok (.iload_n 1, 1) := by decide +kernel
theorem dX7_isMark_42 : decode cX7_isMark 42 = .ok (.invokevirtual 131, 3) := by decide +kernel
theorem dX7_isMark_45 : decode cX7_isMark 45 = .ok (.aload_n 0, 1) := by decide +kernel
theorem dX7_isMark_46 : decode cX7_isMark 46 = .ok (.getfield 10, 3) := by decide +kernel
theorem dX7_isMark_49 : decode cX7_isMark 49 = .ok (.getfield 108, 3) := by decide +kernel
theorem dX7_isMark_52 : decode cX7_isMark 52 = .ok (.invokestatic 149, 3) := by decide +kernel
theorem dX7_isMark_55 : decode cX7_isMark 55 = .ok (.aload_n 0, 1) := by decide +kernel
theorem dX7_isMark_56 : decode cX7_isMark 56 = .ok (.getfield 37, 3) := by decide +kernel
theorem dX7_isMark_59 : decode cX7_isMark 59 = .ok (.getfield 152, 3) := by decide +kernel
theorem dX7_isMark_62 : decode cX7_isMark 62 = .ok (.if_icmp .ge 7, 3) := by decide +kernel
theorem dX7_isMark_65 : decode cX7_isMark 65 = .ok (.iconst 1, 1) := by decide +kernel
theorem dX7_isMark_66 : decode cX7_isMark 66 = .ok (.goto 4, 3) := by decide +kernel
theorem dX7_isMark_69 : decode cX7_isMark 69 = .ok (.iconst 0, 1) := by decide +kernel
theorem dX7_isMark_70 : decode cX7_isMark 70 = .ok (.ireturn, 1) := by decide +kernel
theorem dX7_latestMark_0 : decode cX7_latestMark 0 = .ok (.iload_n 1, 1) := by decide +kernel
theorem dX7_latestMark_1 : decode cX7_latestMark 1 = .ok (.istore_n 2, 1) := by decide +kernel
theorem dX7_latestMark_2 : decode cX7_latestMark 2 = .ok (.iload_n 2, 1) := by decide +kernel
theorem dX7_latestMark_3 : decode cX7_latestMark 3 = .ok (.ifCond .le 19, 3) := by decide +kernel
theorem dX7_latestMark_6 : decode cX7_latestMark 6 = .ok (.aload_n 0, 1) := by decide +kernel
theorem dX7_latestMark_7 : decode cX7_latestMark 7 = .ok (.iload_n 2, 1) := by decide +kernel
theorem dX7_latestMark_8 : decode cX7_latestMark 8 = .ok (.invokevirtual 145, 3) := by decide +kernel
theorem dX7_latestMark_11 : decode cX7_latestMark 11 = .ok (.ifCond .eq 5, 3) := by decide +kernel
theorem dX7_latestMark_14 : decode cX7_latestMark 14 = .ok (.iload_n 2, 1) := by decide +kernel
theorem dX7_latestMark_15 : decode cX7_latestMark 15 = .ok (.ireturn, 1) := by decide +kernel
theorem dX7_latestMark_16 : decode cX7_latestMark 16 = .ok (.iinc 2 (-1), 3) := by decide +kernel
theorem dX7_latestMark_19 : decode cX7_latestMark 19 = .ok (.goto (-17), 3) := by decide +kernel
theorem dX7_latestMark_22 : decode cX7_latestMark 22 = .ok (.iconst 0, 1) := by decide +kernel
theorem dX7_latestMark_23 : decode cX7_latestMark 23 = .ok (.ireturn, 1) := by decide +kernel
theorem dX7_codeLine_0 : decode cX7_codeLine 0 = .ok (.aload_n 0, 1) := by decide +kernel
theorem dX7_codeLine_1 : decode cX7_codeLine 1 = .ok (.getfield 37, 3) := by decide +kernel
theorem dX7_codeLine_4 : decode cX7_codeLine 4 = .ok (.aload_n 0, 1) := by decide +kernel
theorem dX7_codeLine_5 : decode cX7_codeLine 5 = .ok (.getfield 10, 3) := by decide +kernel
theorem dX7_codeLine_8 : decode cX7_codeLine 8 = .ok (.iload_n 1, 1) := by decide +kernel
theorem dX7_codeLine_9 : decode cX7_codeLine 9 = .ok (.invokevirtual 131, 3) := by decide +kernel
theorem dX7_codeLine_12 : decode cX7_codeLine 12 = .ok (.aload_n 0, 1) := by decide +kernel
theorem dX7_codeLine_13 : decode cX7_codeLine 13 = .ok (.getfield 10, 3) := by decide +kernel
theorem dX7_codeLine_16 : decode cX7_codeLine 16 = .ok (.iload_n 1, 1) := by decide +kernel
theorem dX7_codeLine_17 : decode cX7_codeLine 17 = .ok (.iconst 1, 1) := by decide +kernel
theorem dX7_codeLine_18 : decode cX7_codeLine 18 = .ok (.isub, 1) := by decide +kernel
theorem dX7_codeLine_19 : decode cX7_codeLine 19 = .ok (.invokevirtual 131, 3) := by decide +kernel
theorem dX7_codeLine_22 : decode cX7_codeLine 22 = .ok (.aload_n 0, 1) := by decide +kernel
theorem dX7_codeLine_23 : decode cX7_codeLine 23 = .ok (.getfield 10, 3) := by decide +kernel
theorem dX7_codeLine_26 : decode cX7_codeLine 26 = .ok (.getfield 108, 3) := by decide +kernel
theorem dX7_codeLine_29 : decode cX7_codeLine 29 = .ok (.invokevirtual 363, 3) := by decide +kernel
theorem dX7_codeLine_32 : decode cX7_codeLine 32 = .ok (.return_, 1) := by decide +kernel
theorem dX7_allBlack_0 : decode cX7_allBlack 0 = .ok (.lconst 1, 1) := by decide +kernel
theorem dX7_allBlack_1 : decode cX7_allBlack 1 = .ok (.iload_n 0, 1) := by decide +kernel
theorem dX7_allBlack_2 : decode cX7_allBlack 2 = .ok (.lshl, 1) := by decide +kernel
theorem dX7_allBlack_3 : decode cX7_allBlack 3 = .ok (.lconst 1, 1) := by decide +kernel
theorem dX7_allBlack_4 : decode cX7_allBlack 4 = .ok (.lsub, 1) := by decide +kernel
theorem dX7_allBlack_5 : decode cX7_allBlack 5 = .ok (.lreturn, 1) := by decide +kernel
theorem dX7_span_0 : decode cX7_span 0 = .ok (.lconst 1, 1) := by decide +kernel
theorem dX7_span_1 : decode cX7_span 1 = .ok (.iload_n 1, 1) := by decide +kernel
theorem dX7_span_2 : decode cX7_span 2 = .ok (.lshl, 1) := by decide +kernel
theorem dX7_span_3 : decode cX7_span 3 = .ok (.lconst 1, 1) := by decide +kernel
theorem dX7_span_4 : decode cX7_span 4 = .ok (.iload_n 0, 1) := by decide +kernel
theorem dX7_span_5 : decode cX7_span 5 = .ok (.lshl, 1) := by decide +kernel
theorem dX7_span_6 : decode cX7_span 6 = .ok (.lsub, 1) := by decide +kernel
theorem dX7_span_7 : decode cX7_span 7 = .ok (.lreturn, 1) := by decide +kernel
theorem dX7_colourAt_0 : decode cX7_colourAt 0 = .ok (.lload_n 0, 1) := by decide +kernel
theorem dX7_colourAt_1 : decode cX7_colourAt 1 = .ok (.iload_n 2, 1) := by decide +kernel
theorem dX7_colourAt_2 : decode cX7_colourAt 2 = .ok (.lushr, 1) := by decide +kernel
theorem dX7_colourAt_3 : decode cX7_colourAt 3 = .ok (.lconst 1, 1) := by decide +kernel
theorem dX7_colourAt_4 : decode cX7_colourAt 4 = .ok (.land, 1) := by decide +kernel
theorem dX7_colourAt_5 : decode cX7_colourAt 5 = .ok (.l2i, 1) := by decide +kernel
theorem dX7_colourAt_6 : decode cX7_colourAt 6 = .ok (.ireturn, 1) := by decide +kernel
theorem dX7_changesOf_0 : decode cX7_changesOf 0 = .ok (.lload_n 0, 1) := by decide +kernel
theorem dX7_changesOf_1 : decode cX7_changesOf 1 = .ok (.lload_n 0, 1) := by decide +kernel
theorem dX7_changesOf_2 : decode cX7_changesOf 2 = .ok (.iconst 1, 1) := by decide +kernel
theorem dX7_changesOf_3 : decode cX7_changesOf 3 = .ok (.lshl, 1) := by decide +kernel
theorem dX7_changesOf_4 : decode cX7_changesOf 4 = .ok (.lxor, 1) := by decide +kernel
theorem dX7_changesOf_5 : decode cX7_changesOf 5 = .ok (.iload_n 2, 1) := by decide +kernel
theorem dX7_changesOf_6 : decode cX7_changesOf 6 = .ok (.invokestatic 367, 3) := by decide +kernel
theorem dX7_changesOf_9 : decode cX7_changesOf 9 = .ok (.land, 1) := by decide +kernel
theorem dX7_changesOf_10 : decode cX7_changesOf 10 = .ok (.lreturn, 1) := by decide +kernel
theorem dX7_lowestOf_0 : decode cX7_lowestOf 0 = .ok (.lload_n 0, 1) := by decide +kernel
theorem dX7_lowestOf_1 : decode cX7_lowestOf 1 = .ok (.lload_n 0, 1) := by decide +kernel
theorem dX7_lowestOf_2 : decode cX7_lowestOf 2 = .ok (.lneg, 1) := by decide +kernel
theorem dX7_lowestOf_3 : decode cX7_lowestOf 3 = .ok (.land, 1) := by decide +kernel
theorem dX7_lowestOf_4 : decode cX7_lowestOf 4 = .ok (.lconst 1, 1) := by decide +kernel
theorem dX7_lowestOf_5 : decode cX7_lowestOf 5 = .ok (.lsub, 1) := by decide +kernel
theorem dX7_lowestOf_6 : decode cX7_lowestOf 6 = .ok (.invokestatic 159, 3) := by decide +kernel
theorem dX7_lowestOf_9 : decode cX7_lowestOf 9 = .ok (.ireturn, 1) := by decide +kernel
theorem dX7_firstBehind_0 : decode cX7_firstBehind 0 = .ok (.lload_n 0, 1) := by decide +kernel
theorem dX7_firstBehind_1 : decode cX7_firstBehind 1 = .ok (.ldc2_w 211, 3) := by decide +kernel
theorem dX7_firstBehind_4 : decode cX7_firstBehind 4 = .ok (.iload_n 2, 1) := by decide +kernel
theorem dX7_firstBehind_5 : decode cX7_firstBehind 5 = .ok (.iconst 1, 1) := by decide +kernel
theorem dX7_firstBehind_6 : decode cX7_firstBehind 6 = .ok (.iadd, 1) := by decide +kernel
theorem dX7_firstBehind_7 : decode cX7_firstBehind 7 = .ok (.lshl, 1) := by decide +kernel
theorem dX7_firstBehind_8 : decode cX7_firstBehind 8 = .ok (.land, 1) := by decide +kernel
theorem dX7_firstBehind_9 : decode cX7_firstBehind 9 = .ok (.lstore 4, 2) := by decide +kernel
theorem dX7_firstBehind_11 : decode cX7_firstBehind 11 = .ok (.lload 4, 2) := by decide +kernel
theorem dX7_firstBehind_13 : decode cX7_firstBehind 13 = .ok (.lconst 0, 1) := by decide +kernel
theorem dX7_firstBehind_14 : decode cX7_firstBehind 14 = .ok (.lcmp, 1) := by decide +kernel
theorem dX7_firstBehind_15 : decode cX7_firstBehind 15 = .ok (.ifCond .ne 7, 3) := by decide +kernel
theorem dX7_firstBehind_18 : decode cX7_firstBehind 18 = .ok (.iload_n 3, 1) := by decide +kernel
theorem dX7_firstBehind_19 : decode cX7_firstBehind 19 = .ok (.goto 14, 3) := by decide +kernel
theorem dX7_firstBehind_22 : decode cX7_firstBehind 22 = .ok (.lload 4, 2) := by decide +kernel
theorem dX7_firstBehind_24 : decode cX7_firstBehind 24 = .ok (.lload 4, 2) := by decide +kernel
theorem dX7_firstBehind_26 : decode cX7_firstBehind 26 = .ok (.lneg, 1) := by decide +kernel
theorem dX7_firstBehind_27 : decode cX7_firstBehind 27 = .ok (.land, 1) := by decide +kernel
theorem dX7_firstBehind_28 : decode cX7_firstBehind 28 = .ok (.lconst 1, 1) := by decide +kernel
theorem dX7_firstBehind_29 : decode cX7_firstBehind 29 = .ok (.lsub, 1) := by decide +kernel
theorem dX7_firstBehind_30 : decode cX7_firstBehind 30 = .ok (.invokestatic 159, 3) := by decide +kernel
theorem dX7_firstBehind_33 : decode cX7_firstBehind 33 = .ok (.ireturn, 1) := by decide +kernel
theorem dX7_changeAt_0 : decode cX7_changeAt 0 = .ok (.lload_n 0, 1) := by decide +kernel
theorem dX7_changeAt_1 : decode cX7_changeAt 1 = .ok (.lstore_n 3, 1) := by decide +kernel
theorem dX7_changeAt_2 : decode cX7_changeAt 2 = .ok (.iconst 0, 1) := by decide +kernel
theorem dX7_changeAt_3 : decode cX7_changeAt 3 = .ok (.istore 5, 2) := by decide +kernel
theorem dX7_changeAt_5 : decode cX7_changeAt 5 = .ok (.iload 5, 2) := by decide +kernel
theorem dX7_changeAt_7 : decode cX7_changeAt 7 = .ok (.iload_n 2, 1) := by decide +kernel
theorem dX7_changeAt_8 : decode cX7_changeAt 8 = .ok (.if_icmp .ge 21, 3) := by decide +kernel
theorem dX7_changeAt_11 : decode cX7_changeAt 11 = .ok (.lload_n 3, 1) := by decide +kernel
theorem dX7_changeAt_12 : decode cX7_changeAt 12 = .ok (.lconst 0, 1) := by decide +kernel
theorem dX7_changeAt_13 : decode cX7_changeAt 13 = .ok (.lcmp, 1) := by decide +kernel
theorem dX7_changeAt_14 : decode cX7_changeAt 14 = .ok (.ifCond .eq 15, 3) := by decide +kernel
theorem dX7_changeAt_17 : decode cX7_changeAt 17 = .ok (.lload_n 3, 1) := by decide +kernel
theorem dX7_changeAt_18 : decode cX7_changeAt 18 = .ok (.lload_n 3, 1) := by decide +kernel
theorem dX7_changeAt_19 : decode cX7_changeAt 19 = .ok (.lconst 1, 1) := by decide +kernel
theorem dX7_changeAt_20 : decode cX7_changeAt 20 = .ok (.lsub, 1) := by decide +kernel
theorem dX7_changeAt_21 : decode cX7_changeAt 21 = .ok (.land, 1) := by decide +kernel
theorem dX7_changeAt_22 : decode cX7_changeAt 22 = .ok (.lstore_n 3, 1) := by decide +kernel
theorem dX7_changeAt_23 : decode cX7_changeAt 23 = .ok (.iinc 5 1, 3) := by decide +kernel
theorem dX7_changeAt_26 : decode cX7_changeAt 26 = .ok (.goto (-21), 3) := by decide +kernel
theorem dX7_changeAt_29 : decode cX7_changeAt 29 = .ok (.lload_n 3, 1) := by decide +kernel
theorem dX7_changeAt_30 : decode cX7_changeAt 30 = .ok (.lconst 0, 1) := by decide +kernel
theorem dX7_changeAt_31 : decode cX7_changeAt 31 = .ok (.lcmp, 1) := by decide +kernel
theorem dX7_changeAt_32 : decode cX7_changeAt 32 = .ok (.ifCond .ne 7, 3) := by decide +kernel
theorem dX7_changeAt_35 : decode cX7_changeAt 35 = .ok (.iconst (-1), 1) := by decide +kernel
theorem dX7_changeAt_36 : decode cX7_changeAt 36 = .ok (.goto 7, 3) := by decide +kernel
theorem dX7_changeAt_39 : decode cX7_changeAt 39 = .ok (.lload_n 3, 1) := by decide +kernel
theorem dX7_changeAt_40 : decode cX7_changeAt 40 = .ok (.invokestatic 370, 3) := by decide +kernel
theorem dX7_changeAt_43 : decode cX7_changeAt 43 = .ok (.ireturn, 1) := by decide +kernel
theorem dX7_runAt_0 : decode cX7_runAt 0 = .ok (.lload_n 0, 1) := by decide +kernel
theorem dX7_runAt_1 : decode cX7_runAt 1 = .ok (.iload_n 2, 1) := by decide +kernel
theorem dX7_runAt_2 : decode cX7_runAt 2 = .ok (.invokestatic 155, 3) := by decide +kernel
theorem dX7_runAt_5 : decode cX7_runAt 5 = .ok (.lstore 4, 2) := by decide +kernel
theorem dX7_runAt_7 : decode cX7_runAt 7 = .ok (.iload_n 3, 1) := by decide +kernel
theorem dX7_runAt_8 : decode cX7_runAt 8 = .ok (.lload 4, 2) := by decide +kernel
theorem dX7_runAt_10 : decode cX7_runAt 10 = .ok (.invokestatic 159, 3) := by decide +kernel
theorem dX7_runAt_13 : decode cX7_runAt 13 = .ok (.if_icmp .le 5, 3) := by decide +kernel
theorem dX7_runAt_16 : decode cX7_runAt 16 = .ok (.iconst (-1), 1) := by decide +kernel
theorem dX7_runAt_17 : decode cX7_runAt 17 = .ok (.ireturn, 1) := by decide +kernel
theorem dX7_runAt_18 : decode cX7_runAt 18 = .ok (.iload_n 3, 1) := by decide +kernel
theorem dX7_runAt_19 : decode cX7_runAt 19 = .ok (.ifCond .ne 7, 3) := by decide +kernel
theorem dX7_runAt_22 : decode cX7_runAt 22 = .ok (.iconst 0, 1) := by decide +kernel
theorem dX7_runAt_23 : decode cX7_runAt 23 = .ok (.goto 11, 3) := by decide +kernel
theorem dX7_runAt_26 : decode cX7_runAt 26 = .ok (.lload 4, 2) := by decide +kernel
theorem dX7_runAt_28 : decode cX7_runAt 28 = .ok (.iload_n 3, 1) := by decide +kernel
theorem dX7_runAt_29 : decode cX7_runAt 29 = .ok (.iconst 1, 1) := by decide +kernel
theorem dX7_runAt_30 : decode cX7_runAt 30 = .ok (.isub, 1) := by decide +kernel
theorem dX7_runAt_31 : decode cX7_runAt 31 = .ok (.invokestatic 189, 3) := by decide +kernel
theorem dX7_runAt_34 : decode cX7_runAt 34 = .ok (.istore 6, 2) := by decide +kernel
theorem dX7_runAt_36 : decode cX7_runAt 36 = .ok (.lload 4, 2) := by decide +kernel
theorem dX7_runAt_38 : decode cX7_runAt 38 = .ok (.iload_n 3, 1) := by decide +kernel
theorem dX7_runAt_39 : decode cX7_runAt 39 = .ok (.invokestatic 189, 3) := by decide +kernel
theorem dX7_runAt_42 : decode cX7_runAt 42 = .ok (.istore 7, 2) := by decide +kernel
theorem dX7_runAt_44 : decode cX7_runAt 44 = .ok (.iload 7, 2) := by decide +kernel
theorem dX7_runAt_46 : decode cX7_runAt 46 = .ok (.iconst (-1), 1) := by decide +kernel
theorem dX7_runAt_47 : decode cX7_runAt 47 = .ok (.if_icmp .ne 7, 3) := by decide +kernel
theorem dX7_runAt_50 : decode cX7_runAt 50 = .ok (.iload_n 2, 1) := by decide +kernel
theorem dX7_runAt_51 : decode cX7_runAt 51 = .ok (.goto 5, 3) := by decide +kernel
theorem dX7_runAt_54 : decode cX7_runAt 54 = .ok (.iload 7, 2) := by decide +kernel
theorem dX7_runAt_56 : decode cX7_runAt 56 = .ok (.iload 6, 2) := by decide +kernel
theorem dX7_runAt_58 : decode cX7_runAt 58 = .ok (.isub, 1) := by decide +kernel
theorem dX7_runAt_59 : decode cX7_runAt 59 = .ok (.ireturn, 1) := by decide +kernel
theorem dX7_aloneBits_0 : decode cX7_aloneBits 0 = .ok (.lload_n 0, 1) := by decide +kernel
theorem dX7_aloneBits_1 : decode cX7_aloneBits 1 = .ok (.iload_n 2, 1) := by decide +kernel
theorem dX7_aloneBits_2 : decode cX7_aloneBits 2 = .ok (.invokestatic 155, 3) := by decide +kernel
theorem dX7_aloneBits_5 : decode cX7_aloneBits 5 = .ok (.lstore_n 3, 1) := by decide +kernel
theorem dX7_aloneBits_6 : decode cX7_aloneBits 6 = .ok (.iconst 0, 1) := by decide +kernel
theorem dX7_aloneBits_7 : decode cX7_aloneBits 7 = .ok (.istore 5, 2) := by decide +kernel
theorem dX7_aloneBits_9 : decode cX7_aloneBits 9 = .ok (.iconst 0, 1) := by decide +kernel
theorem dX7_aloneBits_10 : decode cX7_aloneBits 10 = .ok (.istore 6, 2) := by decide +kernel
theorem dX7_aloneBits_12 : decode cX7_aloneBits 12 = .ok (.iconst 0, 1) := by decide +kernel
theorem dX7_aloneBits_13 : decode cX7_aloneBits 13 = .ok (.istore 7, 2) := by decide +kernel
theorem dX7_aloneBits_15 : decode cX7_aloneBits 15 = .ok (.iload 7, 2) := by decide +kernel
theorem dX7_aloneBits_17 : decode cX7_aloneBits 17 = .ok (.bipush 40, 2) := by decide +kernel
theorem dX7_aloneBits_19 : decode cX7_aloneBits 19 = .ok (.if_icmp .ge 44, 3) := by decide +kernel
theorem dX7_aloneBits_22 : decode cX7_aloneBits 22 = .ok (.lload_n 3, 1) := by decide +kernel
theorem dX7_aloneBits_23 : decode cX7_aloneBits 23 = .ok (.lconst 0, 1) := by decide +kernel
theorem dX7_aloneBits_24 : decode cX7_aloneBits 24 = .ok (.lcmp, 1) := by decide +kernel
theorem dX7_aloneBits_25 : decode cX7_aloneBits 25 = .ok (.ifCond .eq 38, 3) := by decide +kernel
theorem dX7_aloneBits_28 : decode cX7_aloneBits 28 = .ok (.lload_n 3, 1) := by decide +kernel
theorem dX7_aloneBits_29 : decode cX7_aloneBits 29 = .ok (.invokestatic 370, 3) := by decide +kernel
theorem dX7_aloneBits_32 : decode cX7_aloneBits 32 = .ok (.istore 8, 2) := by decide +kernel
theorem dX7_aloneBits_34 : decode cX7_aloneBits 34 = .ok (.iload 5, 2) := by decide +kernel
theorem dX7_aloneBits_36 : decode cX7_aloneBits 36 = .ok (.iload 8, 2) := by decide +kernel
theorem dX7_aloneBits_38 : decode cX7_aloneBits 38 = .ok (.iload 6, 2) := by decide +kernel
theorem dX7_aloneBits_40 : decode cX7_aloneBits 40 = .ok (.isub, 1) := by decide +kernel
theorem dX7_aloneBits_41 : decode cX7_aloneBits 41 = .ok (.invokestatic 373, 3) := by decide +kernel
theorem dX7_aloneBits_44 : decode cX7_aloneBits 44 = .ok (.iadd, 1) := by decide +kernel
theorem dX7_aloneBits_45 : decode cX7_aloneBits 45 = .ok (.istore 5, 2) := by decide +kernel
theorem dX7_aloneBits_47 : decode cX7_aloneBits 47 = .ok (.iload 8, 2) := by decide +kernel
theorem dX7_aloneBits_49 : decode cX7_aloneBits 49 = .ok (.istore 6, 2) := by decide +kernel
theorem dX7_aloneBits_51 : decode cX7_aloneBits 51 = .ok (.lload_n 3, 1) := by decide +kernel
theorem dX7_aloneBits_52 : decode cX7_aloneBits 52 = .ok (.lload_n 3, 1) := by decide +kernel
theorem dX7_aloneBits_53 : decode cX7_aloneBits 53 = .ok (.lconst 1, 1) := by decide +kernel
theorem dX7_aloneBits_54 : decode cX7_aloneBits 54 = .ok (.lsub, 1) := by decide +kernel
theorem dX7_aloneBits_55 : decode cX7_aloneBits 55 = .ok (.land, 1) := by decide +kernel
theorem dX7_aloneBits_56 : decode cX7_aloneBits 56 = .ok (.lstore_n 3, 1) := by decide +kernel
theorem dX7_aloneBits_57 : decode cX7_aloneBits 57 = .ok (.iinc 7 1, 3) := by decide +kernel
theorem dX7_aloneBits_60 : decode cX7_aloneBits 60 = .ok (.goto (-45), 3) := by decide +kernel
theorem dX7_aloneBits_63 : decode cX7_aloneBits 63 = .ok (.iload 5, 2) := by decide +kernel
theorem dX7_aloneBits_65 : decode cX7_aloneBits 65 = .ok (.iload_n 2, 1) := by decide +kernel
theorem dX7_aloneBits_66 : decode cX7_aloneBits 66 = .ok (.iload 6, 2) := by decide +kernel
theorem dX7_aloneBits_68 : decode cX7_aloneBits 68 = .ok (.isub, 1) := by decide +kernel
theorem dX7_aloneBits_69 : decode cX7_aloneBits 69 = .ok (.invokestatic 373, 3) := by decide +kernel
theorem dX7_aloneBits_72 : decode cX7_aloneBits 72 = .ok (.iadd, 1) := by decide +kernel
theorem dX7_aloneBits_73 : decode cX7_aloneBits 73 = .ok (.ireturn, 1) := by decide +kernel
theorem dX7_numberBits_0 : decode cX7_numberBits 0 = .ok (.iload_n 0, 1) := by decide +kernel
theorem dX7_numberBits_1 : decode cX7_numberBits 1 = .ok (.bipush 8, 2) := by decide +kernel
theorem dX7_numberBits_3 : decode cX7_numberBits 3 = .ok (.if_icmp .ge 7, 3) := by decide +kernel
theorem dX7_numberBits_6 : decode cX7_numberBits 6 = .ok (.iconst 4, 1) := by decide +kernel
theorem dX7_numberBits_7 : decode cX7_numberBits 7 = .ok (.goto 5, 3) := by decide +kernel
theorem dX7_numberBits_10 : decode cX7_numberBits 10 = .ok (.bipush 8, 2) := by decide +kernel
theorem dX7_numberBits_12 : decode cX7_numberBits 12 = .ok (.ireturn, 1) := by decide +kernel
theorem dX7_isEvery_0 : decode cX7_isEvery 0 = .ok (.iload_n 1, 1) := by decide +kernel
theorem dX7_isEvery_1 : decode cX7_isEvery 1 = .ok (.ifCond .le 13, 3) := by decide +kernel
theorem dX7_isEvery_4 : decode cX7_isEvery 4 = .ok (.iload_n 0, 1) := by decide +kernel
theorem dX7_isEvery_5 : decode cX7_isEvery 5 = .ok (.iload_n 1, 1) := by decide +kernel
theorem dX7_isEvery_6 : decode cX7_isEvery 6 = .ok (.irem, 1) := by decide +kernel
theorem dX7_isEvery_7 : decode cX7_isEvery 7 = .ok (.ifCond .ne 7, 3) := by decide +kernel
theorem dX7_isEvery_10 : decode cX7_isEvery 10 = .ok (.iconst 1, 1) := by decide +kernel
theorem dX7_isEvery_11 : decode cX7_isEvery 11 = .ok (.goto 4, 3) := by decide +kernel
theorem dX7_isEvery_14 : decode cX7_isEvery 14 = .ok (.iconst 0, 1) := by decide +kernel
theorem dX7_isEvery_15 : decode cX7_isEvery 15 = .ok (.ireturn, 1) := by decide +kernel
theorem dJ13_bitCount_95d88_0 : decode cJ13_bitCount_95d88 0 = .ok (.lload_n 0, 1) := by decide +kernel
theorem dJ13_bitCount_95d88_1 : decode cJ13_bitCount_95d88 1 = .ok (.lload_n 0, 1) := by decide +kernel
theorem dJ13_bitCount_95d88_2 : decode cJ13_bitCount_95d88 2 = .ok (.iconst 1, 1) := by decide +kernel
theorem dJ13_bitCount_95d88_3 : decode cJ13_bitCount_95d88 3 = .ok (.lushr, 1) := by decide +kernel
theorem dJ13_bitCount_95d88_4 : decode cJ13_bitCount_95d88 4 = .ok (.ldc2_w 314, 3) := by decide +kernel
theorem dJ13_bitCount_95d88_7 : decode cJ13_bitCount_95d88 7 = .ok (.land, 1) := by decide +kernel
theorem dJ13_bitCount_95d88_8 : decode cJ13_bitCount_95d88 8 = .ok (.lsub, 1) := by decide +kernel
theorem dJ13_bitCount_95d88_9 : decode cJ13_bitCount_95d88 9 = .ok (.lstore_n 0, 1) := by decide +kernel
theorem dJ13_bitCount_95d88_10 : decode cJ13_bitCount_95d88 10 = .ok (.lload_n 0, 1) := by decide +kernel
theorem dJ13_bitCount_95d88_11 : decode cJ13_bitCount_95d88 11 = .ok (.ldc2_w 316, 3) := by decide +kernel
theorem dJ13_bitCount_95d88_14 : decode cJ13_bitCount_95d88 14 = .ok (.land, 1) := by decide +kernel
theorem dJ13_bitCount_95d88_15 : decode cJ13_bitCount_95d88 15 = .ok (.lload_n 0, 1) := by decide +kernel
theorem dJ13_bitCount_95d88_16 : decode cJ13_bitCount_95d88 16 = .ok (.iconst 2, 1) := by decide +kernel
theorem dJ13_bitCount_95d88_17 : decode cJ13_bitCount_95d88 17 = .ok (.lushr, 1) := by decide +kernel
theorem dJ13_bitCount_95d88_18 : decode cJ13_bitCount_95d88 18 = .ok (.ldc2_w 316, 3) := by decide +kernel
theorem dJ13_bitCount_95d88_21 : decode cJ13_bitCount_95d88 21 = .ok (.land, 1) := by decide +kernel
theorem dJ13_bitCount_95d88_22 : decode cJ13_bitCount_95d88 22 = .ok (.ladd, 1) := by decide +kernel
theorem dJ13_bitCount_95d88_23 : decode cJ13_bitCount_95d88 23 = .ok (.lstore_n 0, 1) := by decide +kernel
theorem dJ13_bitCount_95d88_24 : decode cJ13_bitCount_95d88 24 = .ok (.lload_n 0, 1) := by decide +kernel
theorem dJ13_bitCount_95d88_25 : decode cJ13_bitCount_95d88 25 = .ok (.lload_n 0, 1) := by decide +kernel
theorem dJ13_bitCount_95d88_26 : decode cJ13_bitCount_95d88 26 = .ok (.iconst 4, 1) := by decide +kernel
theorem dJ13_bitCount_95d88_27 : decode cJ13_bitCount_95d88 27 = .ok (.lushr, 1) := by decide +kernel
theorem dJ13_bitCount_95d88_28 : decode cJ13_bitCount_95d88 28 = .ok (.ladd, 1) := by decide +kernel
theorem dJ13_bitCount_95d88_29 : decode cJ13_bitCount_95d88 29 = .ok (.ldc2_w 318, 3) := by decide +kernel
theorem dJ13_bitCount_95d88_32 : decode cJ13_bitCount_95d88 32 = .ok (.land, 1) := by decide +kernel
theorem dJ13_bitCount_95d88_33 : decode cJ13_bitCount_95d88 33 = .ok (.lstore_n 0, 1) := by decide +kernel
theorem dJ13_bitCount_95d88_34 : decode cJ13_bitCount_95d88 34 = .ok (.lload_n 0, 1) := by decide +kernel
theorem dJ13_bitCount_95d88_35 : decode cJ13_bitCount_95d88 35 = .ok (.lload_n 0, 1) := by decide +kernel
theorem dJ13_bitCount_95d88_36 : decode cJ13_bitCount_95d88 36 = .ok (.bipush 8, 2) := by decide +kernel
theorem dJ13_bitCount_95d88_38 : decode cJ13_bitCount_95d88 38 = .ok (.lushr, 1) := by decide +kernel
theorem dJ13_bitCount_95d88_39 : decode cJ13_bitCount_95d88 39 = .ok (.ladd, 1) := by decide +kernel
theorem dJ13_bitCount_95d88_40 : decode cJ13_bitCount_95d88 40 = .ok (.lstore_n 0, 1) := by decide +kernel
theorem dJ13_bitCount_95d88_41 : decode cJ13_bitCount_95d88 41 = .ok (.lload_n 0, 1) := by decide +kernel
theorem dJ13_bitCount_95d88_42 : decode cJ13_bitCount_95d88 42 = .ok (.lload_n 0, 1) := by decide +kernel
theorem dJ13_bitCount_95d88_43 : decode cJ13_bitCount_95d88 43 = .ok (.bipush 16, 2) := by decide +kernel
theorem dJ13_bitCount_95d88_45 : decode cJ13_bitCount_95d88 45 = .ok (.lushr, 1) := by decide +kernel
theorem dJ13_bitCount_95d88_46 : decode cJ13_bitCount_95d88 46 = .ok (.ladd, 1) := by decide +kernel
theorem dJ13_bitCount_95d88_47 : decode cJ13_bitCount_95d88 47 = .ok (.lstore_n 0, 1) := by decide +kernel
theorem dJ13_bitCount_95d88_48 : decode cJ13_bitCount_95d88 48 = .ok (.lload_n 0, 1) := by decide +kernel
theorem dJ13_bitCount_95d88_49 : decode cJ13_bitCount_95d88 49 = .ok (.lload_n 0, 1) := by decide +kernel
theorem dJ13_bitCount_95d88_50 : decode cJ13_bitCount_95d88 50 = .ok (.bipush 32, 2) := by decide +kernel
theorem dJ13_bitCount_95d88_52 : decode cJ13_bitCount_95d88 52 = .ok (.lushr, 1) := by decide +kernel
theorem dJ13_bitCount_95d88_53 : decode cJ13_bitCount_95d88 53 = .ok (.ladd, 1) := by decide +kernel
theorem dJ13_bitCount_95d88_54 : decode cJ13_bitCount_95d88 54 = .ok (.lstore_n 0, 1) := by decide +kernel
theorem dJ13_bitCount_95d88_55 : decode cJ13_bitCount_95d88 55 = .ok (.lload_n 0, 1) := by decide +kernel
theorem dJ13_bitCount_95d88_56 : decode cJ13_bitCount_95d88 56 = .ok (.l2i, 1) := by decide +kernel
theorem dJ13_bitCount_95d88_57 : decode cJ13_bitCount_95d88 57 = .ok (.bipush 127, 2) := by decide +kernel
theorem dJ13_bitCount_95d88_59 : decode cJ13_bitCount_95d88 59 = .ok (.iand, 1) := by decide +kernel
theorem dJ13_bitCount_95d88_60 : decode cJ13_bitCount_95d88 60 = .ok (.ireturn, 1) := by decide +kernel
theorem dJ0_length_8abf5_0 : decode cJ0_length_8abf5 0 = .ok (.aload_n 0, 1) := by decide +kernel
theorem dJ0_length_8abf5_1 : decode cJ0_length_8abf5 1 = .ok (.getfield 9, 3) := by decide +kernel
theorem dJ0_length_8abf5_4 : decode cJ0_length_8abf5 4 = .ok (.arraylength, 1) := by decide +kernel
theorem dJ0_length_8abf5_5 : decode cJ0_length_8abf5 5 = .ok (.aload_n 0, 1) := by decide +kernel
theorem dJ0_length_8abf5_6 : decode cJ0_length_8abf5 6 = .ok (.invokevirtual 335, 3) := by decide +kernel
theorem dJ0_length_8abf5_9 : decode cJ0_length_8abf5 9 = .ok (.ishr, 1) := by decide +kernel
theorem dJ0_length_8abf5_10 : decode cJ0_length_8abf5 10 = .ok (.ireturn, 1) := by decide +kernel
theorem dJ0_charAt_5068e_0 : decode cJ0_charAt_5068e 0 = .ok (.aload_n 0, 1) := by decide +kernel
theorem dJ0_charAt_5068e_1 : decode cJ0_charAt_5068e 1 = .ok (.invokevirtual 492, 3) := by decide +kernel
theorem dJ0_charAt_5068e_4 : decode cJ0_charAt_5068e 4 = .ok (.ifCond .eq 12, 3) := by decide +kernel
theorem dJ0_charAt_5068e_7 : decode cJ0_charAt_5068e 7 = .ok (.aload_n 0, 1) := by decide +kernel
theorem dJ0_charAt_5068e_8 : decode cJ0_charAt_5068e 8 = .ok (.getfield 9, 3) := by decide +kernel
theorem dJ0_charAt_5068e_11 : decode cJ0_charAt_5068e 11 = .ok (.iload_n 1, 1) := by decide +kernel
theorem dJ0_charAt_5068e_12 : decode cJ0_charAt_5068e 12 = .ok (.invokestatic 495, 3) := by decide +kernel
theorem dJ0_charAt_5068e_15 : decode cJ0_charAt_5068e 15 = .ok (.ireturn, 1) := by decide +kernel
theorem dJ0_charAt_5068e_16 : decode cJ0_charAt_5068e 16 = .ok (.aload_n 0, 1) := by decide +kernel
theorem dJ0_charAt_5068e_17 : decode cJ0_charAt_5068e 17 = .ok (.getfield 9, 3) := by decide +kernel
theorem dJ0_charAt_5068e_20 : decode cJ0_charAt_5068e 20 = .ok (.iload_n 1, 1) := by decide +kernel
theorem dJ0_charAt_5068e_21 : decode cJ0_charAt_5068e 21 = .ok (.invokestatic 498, 3) := by decide +kernel
theorem dJ0_charAt_5068e_24 : decode cJ0_charAt_5068e 24 = .ok (.ireturn, 1) := by decide +kernel
theorem dJ0_coder_7d493_0 : decode cJ0_coder_7d493 0 = .ok (.getstatic 38, 3) := by decide +kernel
theorem dJ0_coder_7d493_3 : decode cJ0_coder_7d493 3 = .ok (.ifCond .eq 10, 3) := by decide +kernel
theorem dJ0_coder_7d493_6 : decode cJ0_coder_7d493 6 = .ok (.aload_n 0, 1) := by decide +kernel
theorem dJ0_coder_7d493_7 : decode cJ0_coder_7d493 7 = .ok (.getfield 15, 3) := by decide +kernel
theorem dJ0_coder_7d493_10 : decode cJ0_coder_7d493 10 = .ok (.goto 4, 3) := by decide +kernel
theorem dJ0_coder_7d493_13 : decode cJ0_coder_7d493 13 = .ok (.iconst 1, 1) := by decide +kernel
theorem dJ0_coder_7d493_14 : decode cJ0_coder_7d493 14 = .ok (.ireturn, 1) := by decide +kernel
theorem dJ0_isLatin1_aae02_0 : decode cJ0_isLatin1_aae02 0 = .ok (.getstatic 38, 3) := by decide +kernel
theorem dJ0_isLatin1_aae02_3 : decode cJ0_isLatin1_aae02 3 = .ok (.ifCond .eq 14, 3) := by decide +kernel
theorem dJ0_isLatin1_aae02_6 : decode cJ0_isLatin1_aae02 6 = .ok (.aload_n 0, 1) := by decide +kernel
theorem dJ0_isLatin1_aae02_7 : decode cJ0_isLatin1_aae02 7 = .ok (.getfield 15, 3) := by decide +kernel
theorem dJ0_isLatin1_aae02_10 : decode cJ0_isLatin1_aae02 10 = .ok (.ifCond .ne 7, 3) := by decide +kernel
theorem dJ0_isLatin1_aae02_13 : decode cJ0_isLatin1_aae02 13 = .ok (.iconst 1, 1) := by decide +kernel
theorem dJ0_isLatin1_aae02_14 : decode cJ0_isLatin1_aae02 14 = .ok (.goto 4, 3) := by decide +kernel
theorem dJ0_isLatin1_aae02_17 : decode cJ0_isLatin1_aae02 17 = .ok (.iconst 0, 1) := by decide +kernel
theorem dJ0_isLatin1_aae02_18 : decode cJ0_isLatin1_aae02 18 = .ok (.ireturn, 1) := by decide +kernel
theorem dJ0_checkIndex_df160_0 : decode cJ0_checkIndex_df160 0 = .ok (.iload_n 0, 1) := by decide +kernel
theorem dJ0_checkIndex_df160_1 : decode cJ0_checkIndex_df160 1 = .ok (.iload_n 1, 1) := by decide +kernel
theorem dJ0_checkIndex_df160_2 : decode cJ0_checkIndex_df160 2 = .ok (.getstatic 1053, 3) := by decide +kernel
theorem dJ0_checkIndex_df160_5 : decode cJ0_checkIndex_df160 5 = .ok (.invokestatic 1059, 3) := by decide +kernel
theorem dJ0_checkIndex_df160_8 : decode cJ0_checkIndex_df160 8 = .ok (.pop, 1) := by decide +kernel
theorem dJ0_checkIndex_df160_9 : decode cJ0_checkIndex_df160 9 = .ok (.return_, 1) := by decide +kernel
theorem dJ1_charAt_3b067_0 : decode cJ1_charAt_3b067 0 = .ok (.iload_n 1, 1) := by decide +kernel
theorem dJ1_charAt_3b067_1 : decode cJ1_charAt_3b067 1 = .ok (.aload_n 0, 1) := by decide +kernel
theorem dJ1_charAt_3b067_2 : decode cJ1_charAt_3b067 2 = .ok (.arraylength, 1) := by decide +kernel
theorem dJ1_charAt_3b067_3 : decode cJ1_charAt_3b067 3 = .ok (.invokestatic 9, 3) := by decide +kernel
theorem dJ1_charAt_3b067_6 : decode cJ1_charAt_3b067 6 = .ok (.aload_n 0, 1) := by decide +kernel
theorem dJ1_charAt_3b067_7 : decode cJ1_charAt_3b067 7 = .ok (.iload_n 1, 1) := by decide +kernel
theorem dJ1_charAt_3b067_8 : decode cJ1_charAt_3b067 8 = .ok (.baload, 1) := by decide +kernel
theorem dJ1_charAt_3b067_9 : decode cJ1_charAt_3b067 9 = .ok (.sipush 255, 3) := by decide +kernel
theorem dJ1_charAt_3b067_12 : decode cJ1_charAt_3b067 12 = .ok (.iand, 1) := by decide +kernel
theorem dJ1_charAt_3b067_13 : decode cJ1_charAt_3b067 13 = .ok (.i2c, 1) := by decide +kernel
theorem dJ1_charAt_3b067_14 : decode cJ1_charAt_3b067 14 = .ok (.ireturn, 1) := by decide +kernel
theorem dJ3_checkIndex_8e157_0 : decode cJ3_checkIndex_8e157 0 = .ok (.iload_n 0, 1) := by decide +kernel
theorem dJ3_checkIndex_8e157_1 : decode cJ3_checkIndex_8e157 1 = .ok (.ifCond .lt 8, 3) := by decide +kernel
theorem dJ3_checkIndex_8e157_4 : decode cJ3_checkIndex_8e157 4 = .ok (.iload_n 0, 1) := by decide +kernel
theorem dJ3_checkIndex_8e157_5 : decode cJ3_checkIndex_8e157 5 = .ok (.iload_n 1, 1) := by decide +kernel
theorem dJ3_checkIndex_8e157_6 : decode cJ3_checkIndex_8e157 6 = .ok (.if_icmp .lt 10, 3) := by decide +kernel
theorem dJ3_checkIndex_8e157_9 : decode cJ3_checkIndex_8e157 9 = .ok (.aload_n 2, 1) := by decide +kernel
theorem dJ3_checkIndex_8e157_10 : decode cJ3_checkIndex_8e157 10 = .ok (.iload_n 0, 1) := by decide +kernel
theorem dJ3_checkIndex_8e157_11 : decode cJ3_checkIndex_8e157 11 = .ok (.iload_n 1, 1) := by decide +kernel
theorem dJ3_checkIndex_8e157_12 : decode cJ3_checkIndex_8e157 12 = .ok (.invokestatic 95, 3) := by decide +kernel
theorem dJ3_checkIndex_8e157_15 : decode cJ3_checkIndex_8e157 15 = .ok (.athrow, 1) := by decide +kernel
theorem dJ3_checkIndex_8e157_16 : decode cJ3_checkIndex_8e157 16 = .ok (.iload_n 0, 1) := by decide +kernel
theorem dJ3_checkIndex_8e157_17 : decode cJ3_checkIndex_8e157 17 = .ok (.ireturn, 1) := by decide +kernel
