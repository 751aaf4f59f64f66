/-! the law decoded -/
theorem dL_law_0 : decode cL_law 0 = .ok (.new 212, 3) := by decide +kernel
theorem dL_law_3 : decode cL_law 3 = .ok (.dup, 1) := by decide +kernel
theorem dL_law_4 : decode cL_law 4 = .ok (.aload_n 0, 1) := by decide +kernel
theorem dL_law_5 : decode cL_law 5 = .ok (.invokespecial 253, 3) := by decide +kernel
theorem dL_law_8 : decode cL_law 8 = .ok (.astore_n 1, 1) := by decide +kernel
theorem dL_law_9 : decode cL_law 9 = .ok (.new 94, 3) := by decide +kernel
theorem dL_law_12 : decode cL_law 12 = .ok (.dup, 1) := by decide +kernel
theorem dL_law_13 : decode cL_law 13 = .ok (.invokespecial 256, 3) := by decide +kernel
theorem dL_law_16 : decode cL_law 16 = .ok (.astore_n 2, 1) := by decide +kernel
theorem dL_law_17 : decode cL_law 17 = .ok (.new 85, 3) := by decide +kernel
theorem dL_law_20 : decode cL_law 20 = .ok (.dup, 1) := by decide +kernel
theorem dL_law_21 : decode cL_law 21 = .ok (.invokespecial 257, 3) := by decide +kernel
theorem dL_law_24 : decode cL_law 24 = .ok (.astore_n 3, 1) := by decide +kernel
theorem dL_law_25 : decode cL_law 25 = .ok (.aload_n 3, 1) := by decide +kernel
theorem dL_law_26 : decode cL_law 26 = .ok (.bipush 8, 2) := by decide +kernel
theorem dL_law_28 : decode cL_law 28 = .ok (.aload_n 1, 1) := by decide +kernel
theorem dL_law_29 : decode cL_law 29 = .ok (.bipush 20, 2) := by decide +kernel
theorem dL_law_31 : decode cL_law 31 = .ok (.invokevirtual 211, 3) := by decide +kernel
theorem dL_law_34 : decode cL_law 34 = .ok (.iadd, 1) := by decide +kernel
theorem dL_law_35 : decode cL_law 35 = .ok (.putfield 98, 3) := by decide +kernel
theorem dL_law_38 : decode cL_law 38 = .ok (.new 224, 3) := by decide +kernel
theorem dL_law_41 : decode cL_law 41 = .ok (.dup, 1) := by decide +kernel
theorem dL_law_42 : decode cL_law 42 = .ok (.new 224, 3) := by decide +kernel
theorem dL_law_45 : decode cL_law 45 = .ok (.dup, 1) := by decide +kernel
theorem dL_law_46 : decode cL_law 46 = .ok (.invokespecial 226, 3) := by decide +kernel
theorem dL_law_49 : decode cL_law 49 = .ok (.ldc_w 258, 3) := by decide +kernel
theorem dL_law_52 : decode cL_law 52 = .ok (.invokevirtual 260, 3) := by decide +kernel
theorem dL_law_55 : decode cL_law 55 = .ok (.aload_n 3, 1) := by decide +kernel
theorem dL_law_56 : decode cL_law 56 = .ok (.getfield 98, 3) := by decide +kernel
theorem dL_law_59 : decode cL_law 59 = .ok (.invokevirtual 263, 3) := by decide +kernel
theorem dL_law_62 : decode cL_law 62 = .ok (.ldc_w 266, 3) := by decide +kernel
theorem dL_law_65 : decode cL_law 65 = .ok (.invokevirtual 260, 3) := by decide +kernel
theorem dL_law_68 : decode cL_law 68 = .ok (.invokevirtual 231, 3) := by decide +kernel
theorem dL_law_71 : decode cL_law 71 = .ok (.invokespecial 268, 3) := by decide +kernel
theorem dL_law_74 : decode cL_law 74 = .ok (.astore 4, 2) := by decide +kernel
theorem dL_law_76 : decode cL_law 76 = .ok (.aload_n 3, 1) := by decide +kernel
theorem dL_law_77 : decode cL_law 77 = .ok (.getfield 98, 3) := by decide +kernel
theorem dL_law_80 : decode cL_law 80 = .ok (.newarray .boolean, 2) := by decide +kernel
theorem dL_law_82 : decode cL_law 82 = .ok (.astore 5, 2) := by decide +kernel
theorem dL_law_84 : decode cL_law 84 = .ok (.iconst 1, 1) := by decide +kernel
theorem dL_law_85 : decode cL_law 85 = .ok (.aload_n 1, 1) := by decide +kernel
theorem dL_law_86 : decode cL_law 86 = .ok (.bipush 6, 2) := by decide +kernel
theorem dL_law_88 : decode cL_law 88 = .ok (.invokevirtual 211, 3) := by decide +kernel
theorem dL_law_91 : decode cL_law 91 = .ok (.iadd, 1) := by decide +kernel
theorem dL_law_92 : decode cL_law 92 = .ok (.istore 6, 2) := by decide +kernel
theorem dL_law_94 : decode cL_law 94 = .ok (.iload 6, 2) := by decide +kernel
theorem dL_law_96 : decode cL_law 96 = .ok (.ifCond .le 49, 3) := by decide +kernel
theorem dL_law_99 : decode cL_law 99 = .ok (.aload_n 1, 1) := by decide +kernel
theorem dL_law_100 : decode cL_law 100 = .ok (.aload 5, 2) := by decide +kernel
theorem dL_law_102 : decode cL_law 102 = .ok (.invokestatic 271, 3) := by decide +kernel
theorem dL_law_105 : decode cL_law 105 = .ok (.astore 5, 2) := by decide +kernel
theorem dL_law_107 : decode cL_law 107 = .ok (.aload_n 3, 1) := by decide +kernel
theorem dL_law_108 : decode cL_law 108 = .ok (.getfield 84, 3) := by decide +kernel
theorem dL_law_111 : decode cL_law 111 = .ok (.aload 5, 2) := by decide +kernel
theorem dL_law_113 : decode cL_law 113 = .ok (.invokevirtual 17, 3) := by decide +kernel
theorem dL_law_116 : decode cL_law 116 = .ok (.pop, 1) := by decide +kernel
theorem dL_law_117 : decode cL_law 117 = .ok (.aload 4, 2) := by decide +kernel
theorem dL_law_119 : decode cL_law 119 = .ok (.ldc_w 275, 3) := by decide +kernel
theorem dL_law_122 : decode cL_law 122 = .ok (.invokevirtual 260, 3) := by decide +kernel
theorem dL_law_125 : decode cL_law 125 = .ok (.aload 5, 2) := by decide +kernel
theorem dL_law_127 : decode cL_law 127 = .ok (.invokestatic 277, 3) := by decide +kernel
theorem dL_law_130 : decode cL_law 130 = .ok (.invokevirtual 260, 3) := by decide +kernel
theorem dL_law_133 : decode cL_law 133 = .ok (.bipush 59, 2) := by decide +kernel
theorem dL_law_135 : decode cL_law 135 = .ok (.invokevirtual 227, 3) := by decide +kernel
theorem dL_law_138 : decode cL_law 138 = .ok (.pop, 1) := by decide +kernel
theorem dL_law_139 : decode cL_law 139 = .ok (.iinc 6 (-1), 3) := by decide +kernel
theorem dL_law_142 : decode cL_law 142 = .ok (.goto (-48), 3) := by decide +kernel
theorem dL_law_145 : decode cL_law 145 = .ok (.bipush 6, 2) := by decide +kernel
theorem dL_law_147 : decode cL_law 147 = .ok (.newarray .int, 2) := by decide +kernel
theorem dL_law_149 : decode cL_law 149 = .ok (.dup, 1) := by decide +kernel
theorem dL_law_150 : decode cL_law 150 = .ok (.iconst 0, 1) := by decide +kernel
theorem dL_law_151 : decode cL_law 151 = .ok (.bipush 8, 2) := by decide +kernel
theorem dL_law_153 : decode cL_law 153 = .ok (.iastore, 1) := by decide +kernel
theorem dL_law_154 : decode cL_law 154 = .ok (.dup, 1) := by decide +kernel
theorem dL_law_155 : decode cL_law 155 = .ok (.iconst 1, 1) := by decide +kernel
theorem dL_law_156 : decode cL_law 156 = .ok (.iconst 2, 1) := by decide +kernel
theorem dL_law_157 : decode cL_law 157 = .ok (.iastore, 1) := by decide +kernel
theorem dL_law_158 : decode cL_law 158 = .ok (.dup, 1) := by decide +kernel
theorem dL_law_159 : decode cL_law 159 = .ok (.iconst 2, 1) := by decide +kernel
theorem dL_law_160 : decode cL_law 160 = .ok (.iconst 2, 1) := by decide +kernel
theorem dL_law_161 : decode cL_law 161 = .ok (.iastore, 1) := by decide +kernel
theorem dL_law_162 : decode cL_law 162 = .ok (.dup, 1) := by decide +kernel
theorem dL_law_163 : decode cL_law 163 = .ok (.iconst 3, 1) := by decide +kernel
theorem dL_law_164 : decode cL_law 164 = .ok (.iconst 5, 1) := by decide +kernel
theorem dL_law_165 : decode cL_law 165 = .ok (.iastore, 1) := by decide +kernel
theorem dL_law_166 : decode cL_law 166 = .ok (.dup, 1) := by decide +kernel
theorem dL_law_167 : decode cL_law 167 = .ok (.iconst 4, 1) := by decide +kernel
theorem dL_law_168 : decode cL_law 168 = .ok (.bipush 100, 2) := by decide +kernel
theorem dL_law_170 : decode cL_law 170 = .ok (.iastore, 1) := by decide +kernel
theorem dL_law_171 : decode cL_law 171 = .ok (.dup, 1) := by decide +kernel
theorem dL_law_172 : decode cL_law 172 = .ok (.iconst 5, 1) := by decide +kernel
theorem dL_law_173 : decode cL_law 173 = .ok (.bipush 100, 2) := by decide +kernel
theorem dL_law_175 : decode cL_law 175 = .ok (.iastore, 1) := by decide +kernel
theorem dL_law_176 : decode cL_law 176 = .ok (.astore 6, 2) := by decide +kernel
theorem dL_law_178 : decode cL_law 178 = .ok (.iconst 0, 1) := by decide +kernel
theorem dL_law_179 : decode cL_law 179 = .ok (.istore 7, 2) := by decide +kernel
theorem dL_law_181 : decode cL_law 181 = .ok (.iload 7, 2) := by decide +kernel
theorem dL_law_183 : decode cL_law 183 = .ok (.bipush 6, 2) := by decide +kernel
theorem dL_law_185 : decode cL_law 185 = .ok (.if_icmp .ge 70, 3) := by decide +kernel
theorem dL_law_188 : decode cL_law 188 = .ok (.aload_n 3, 1) := by decide +kernel
theorem dL_law_189 : decode cL_law 189 = .ok (.getfield 101, 3) := by decide +kernel
theorem dL_law_192 : decode cL_law 192 = .ok (.iload 7, 2) := by decide +kernel
theorem dL_law_194 : decode cL_law 194 = .ok (.aload_n 1, 1) := by decide +kernel
theorem dL_law_195 : decode cL_law 195 = .ok (.aload 6, 2) := by decide +kernel
theorem dL_law_197 : decode cL_law 197 = .ok (.iload 7, 2) := by decide +kernel
theorem dL_law_199 : decode cL_law 199 = .ok (.iaload, 1) := by decide +kernel
theorem dL_law_200 : decode cL_law 200 = .ok (.invokevirtual 211, 3) := by decide +kernel
theorem dL_law_203 : decode cL_law 203 = .ok (.iload 7, 2) := by decide +kernel
theorem dL_law_205 : decode cL_law 205 = .ok (.ifCond .ne 7, 3) := by decide +kernel
theorem dL_law_208 : decode cL_law 208 = .ok (.iconst 1, 1) := by decide +kernel
theorem dL_law_209 : decode cL_law 209 = .ok (.goto 4, 3) := by decide +kernel
theorem dL_law_212 : decode cL_law 212 = .ok (.iconst 0, 1) := by decide +kernel
theorem dL_law_213 : decode cL_law 213 = .ok (.iadd, 1) := by decide +kernel
theorem dL_law_214 : decode cL_law 214 = .ok (.iastore, 1) := by decide +kernel
theorem dL_law_215 : decode cL_law 215 = .ok (.aload 4, 2) := by decide +kernel
theorem dL_law_217 : decode cL_law 217 = .ok (.ldc_w 281, 3) := by decide +kernel
theorem dL_law_220 : decode cL_law 220 = .ok (.invokevirtual 260, 3) := by decide +kernel
theorem dL_law_223 : decode cL_law 223 = .ok (.iload 7, 2) := by decide +kernel
theorem dL_law_225 : decode cL_law 225 = .ok (.invokevirtual 263, 3) := by decide +kernel
theorem dL_law_228 : decode cL_law 228 = .ok (.bipush 32, 2) := by decide +kernel
theorem dL_law_230 : decode cL_law 230 = .ok (.invokevirtual 227, 3) := by decide +kernel
theorem dL_law_233 : decode cL_law 233 = .ok (.aload_n 3, 1) := by decide +kernel
theorem dL_law_234 : decode cL_law 234 = .ok (.getfield 101, 3) := by decide +kernel
theorem dL_law_237 : decode cL_law 237 = .ok (.iload 7, 2) := by decide +kernel
theorem dL_law_239 : decode cL_law 239 = .ok (.iaload, 1) := by decide +kernel
theorem dL_law_240 : decode cL_law 240 = .ok (.invokevirtual 263, 3) := by decide +kernel
theorem dL_law_243 : decode cL_law 243 = .ok (.bipush 59, 2) := by decide +kernel
theorem dL_law_245 : decode cL_law 245 = .ok (.invokevirtual 227, 3) := by decide +kernel
theorem dL_law_248 : decode cL_law 248 = .ok (.pop, 1) := by decide +kernel
theorem dL_law_249 : decode cL_law 249 = .ok (.iinc 7 1, 3) := by decide +kernel
theorem dL_law_252 : decode cL_law 252 = .ok (.goto (-71), 3) := by decide +kernel
theorem dL_law_255 : decode cL_law 255 = .ok (.iconst 0, 1) := by decide +kernel
theorem dL_law_256 : decode cL_law 256 = .ok (.istore 7, 2) := by decide +kernel
theorem dL_law_258 : decode cL_law 258 = .ok (.iload 7, 2) := by decide +kernel
theorem dL_law_260 : decode cL_law 260 = .ok (.aload_n 3, 1) := by decide +kernel
theorem dL_law_261 : decode cL_law 261 = .ok (.getfield 84, 3) := by decide +kernel
theorem dL_law_264 : decode cL_law 264 = .ok (.invokevirtual 90, 3) := by decide +kernel
theorem dL_law_267 : decode cL_law 267 = .ok (.if_icmp .ge 62, 3) := by decide +kernel
theorem dL_law_270 : decode cL_law 270 = .ok (.aload_n 3, 1) := by decide +kernel
theorem dL_law_271 : decode cL_law 271 = .ok (.getfield 135, 3) := by decide +kernel
