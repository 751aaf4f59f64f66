theorem dX8_init_0 : decode cX8_init 0 = .ok (.aload_n 0, 1) := by decide +kernel
theorem dX8_init_1 : decode cX8_init 1 = .ok (.invokespecial 1, 3) := by decide +kernel
theorem dX8_init_4 : decode cX8_init 4 = .ok (.aload_n 0, 1) := by decide +kernel
theorem dX8_init_5 : decode cX8_init 5 = .ok (.sipush 828, 3) := by decide +kernel
theorem dX8_init_8 : decode cX8_init 8 = .ok (.newarray .int, 2) := by decide +kernel
theorem dX8_init_10 : decode cX8_init 10 = .ok (.putfield 7, 3) := by decide +kernel
theorem dX8_init_13 : decode cX8_init 13 = .ok (.aload_n 0, 1) := by decide +kernel
theorem dX8_init_14 : decode cX8_init 14 = .ok (.sipush 828, 3) := by decide +kernel
theorem dX8_init_17 : decode cX8_init 17 = .ok (.newarray .int, 2) := by decide +kernel
theorem dX8_init_19 : decode cX8_init 19 = .ok (.putfield 13, 3) := by decide +kernel
theorem dX8_init_22 : decode cX8_init 22 = .ok (.aload_n 0, 1) := by decide +kernel
theorem dX8_init_23 : decode cX8_init 23 = .ok (.sipush 8280, 3) := by decide +kernel
theorem dX8_init_26 : decode cX8_init 26 = .ok (.newarray .int, 2) := by decide +kernel
theorem dX8_init_28 : decode cX8_init 28 = .ok (.putfield 16, 3) := by decide +kernel
theorem dX8_init_31 : decode cX8_init 31 = .ok (.aload_n 0, 1) := by decide +kernel
theorem dX8_init_32 : decode cX8_init 32 = .ok (.sipush 1656, 3) := by decide +kernel
theorem dX8_init_35 : decode cX8_init 35 = .ok (.newarray .int, 2) := by decide +kernel
theorem dX8_init_37 : decode cX8_init 37 = .ok (.putfield 19, 3) := by decide +kernel
theorem dX8_init_40 : decode cX8_init 40 = .ok (.aload_n 0, 1) := by decide +kernel
theorem dX8_init_41 : decode cX8_init 41 = .ok (.iconst 2, 1) := by decide +kernel
theorem dX8_init_42 : decode cX8_init 42 = .ok (.newarray .boolean, 2) := by decide +kernel
theorem dX8_init_44 : decode cX8_init 44 = .ok (.putfield 22, 3) := by decide +kernel
theorem dX8_init_47 : decode cX8_init 47 = .ok (.aload_n 0, 1) := by decide +kernel
theorem dX8_init_48 : decode cX8_init 48 = .ok (.bipush 40, 2) := by decide +kernel
theorem dX8_init_50 : decode cX8_init 50 = .ok (.newarray .int, 2) := by decide +kernel
theorem dX8_init_52 : decode cX8_init 52 = .ok (.putfield 26, 3) := by decide +kernel
theorem dX8_init_55 : decode cX8_init 55 = .ok (.aload_n 0, 1) := by decide +kernel
theorem dX8_init_56 : decode cX8_init 56 = .ok (.bipush 40, 2) := by decide +kernel
theorem dX8_init_58 : decode cX8_init 58 = .ok (.newarray .int, 2) := by decide +kernel
theorem dX8_init_60 : decode cX8_init 60 = .ok (.putfield 29, 3) := by decide +kernel
theorem dX8_init_63 : decode cX8_init 63 = .ok (.aload_n 0, 1) := by decide +kernel
theorem dX8_init_64 : decode cX8_init 64 = .ok (.bipush 48, 2) := by decide +kernel
theorem dX8_init_66 : decode cX8_init 66 = .ok (.newarray .int, 2) := by decide +kernel
theorem dX8_init_68 : decode cX8_init 68 = .ok (.putfield 32, 3) := by decide +kernel
theorem dX8_init_71 : decode cX8_init 71 = .ok (.aload_n 0, 1) := by decide +kernel
theorem dX8_init_72 : decode cX8_init 72 = .ok (.bipush 48, 2) := by decide +kernel
theorem dX8_init_74 : decode cX8_init 74 = .ok (.newarray .int, 2) := by decide +kernel
theorem dX8_init_76 : decode cX8_init 76 = .ok (.putfield 35, 3) := by decide +kernel
theorem dX8_init_79 : decode cX8_init 79 = .ok (.aload_n 0, 1) := by decide +kernel
theorem dX8_init_80 : decode cX8_init 80 = .ok (.bipush 48, 2) := by decide +kernel
theorem dX8_init_82 : decode cX8_init 82 = .ok (.newarray .int, 2) := by decide +kernel
theorem dX8_init_84 : decode cX8_init 84 = .ok (.putfield 38, 3) := by decide +kernel
theorem dX8_init_87 : decode cX8_init 87 = .ok (.aload_n 0, 1) := by decide +kernel
theorem dX8_init_88 : decode cX8_init 88 = .ok (.bipush 48, 2) := by decide +kernel
theorem dX8_init_90 : decode cX8_init 90 = .ok (.newarray .int, 2) := by decide +kernel
theorem dX8_init_92 : decode cX8_init 92 = .ok (.putfield 41, 3) := by decide +kernel
theorem dX8_init_95 : decode cX8_init 95 = .ok (.aload_n 0, 1) := by decide +kernel
theorem dX8_init_96 : decode cX8_init 96 = .ok (.bipush 40, 2) := by decide +kernel
theorem dX8_init_98 : decode cX8_init 98 = .ok (.newarray .int, 2) := by decide +kernel
theorem dX8_init_100 : decode cX8_init 100 = .ok (.putfield 44, 3) := by decide +kernel
theorem dX8_init_103 : decode cX8_init 103 = .ok (.aload_n 0, 1) := by decide +kernel
theorem dX8_init_104 : decode cX8_init 104 = .ok (.bipush 44, 2) := by decide +kernel
theorem dX8_init_106 : decode cX8_init 106 = .ok (.newarray .int, 2) := by decide +kernel
theorem dX8_init_108 : decode cX8_init 108 = .ok (.putfield 47, 3) := by decide +kernel
theorem dX8_init_111 : decode cX8_init 111 = .ok (.aload_n 0, 1) := by decide +kernel
theorem dX8_init_112 : decode cX8_init 112 = .ok (.sipush 800, 3) := by decide +kernel
theorem dX8_init_115 : decode cX8_init 115 = .ok (.newarray .int, 2) := by decide +kernel
theorem dX8_init_117 : decode cX8_init 117 = .ok (.putfield 50, 3) := by decide +kernel
theorem dX8_init_120 : decode cX8_init 120 = .ok (.aload_n 0, 1) := by decide +kernel
theorem dX8_init_121 : decode cX8_init 121 = .ok (.bipush 20, 2) := by decide +kernel
theorem dX8_init_123 : decode cX8_init 123 = .ok (.newarray .int, 2) := by decide +kernel
theorem dX8_init_125 : decode cX8_init 125 = .ok (.putfield 53, 3) := by decide +kernel
theorem dX8_init_128 : decode cX8_init 128 = .ok (.aload_n 0, 1) := by decide +kernel
theorem dX8_init_129 : decode cX8_init 129 = .ok (.bipush 20, 2) := by decide +kernel
theorem dX8_init_131 : decode cX8_init 131 = .ok (.newarray .int, 2) := by decide +kernel
theorem dX8_init_133 : decode cX8_init 133 = .ok (.putfield 56, 3) := by decide +kernel
theorem dX8_init_136 : decode cX8_init 136 = .ok (.aload_n 0, 1) := by decide +kernel
theorem dX8_init_137 : decode cX8_init 137 = .ok (.bipush 20, 2) := by decide +kernel
theorem dX8_init_139 : decode cX8_init 139 = .ok (.newarray .int, 2) := by decide +kernel
theorem dX8_init_141 : decode cX8_init 141 = .ok (.putfield 59, 3) := by decide +kernel
theorem dX8_init_144 : decode cX8_init 144 = .ok (.aload_n 0, 1) := by decide +kernel
theorem dX8_init_145 : decode cX8_init 145 = .ok (.bipush 20, 2) := by decide +kernel
theorem dX8_init_147 : decode cX8_init 147 = .ok (.newarray .int, 2) := by decide +kernel
theorem dX8_init_149 : decode cX8_init 149 = .ok (.putfield 62, 3) := by decide +kernel
theorem dX8_init_152 : decode cX8_init 152 = .ok (.aload_n 0, 1) := by decide +kernel
theorem dX8_init_153 : decode cX8_init 153 = .ok (.bipush 20, 2) := by decide +kernel
theorem dX8_init_155 : decode cX8_init 155 = .ok (.newarray .int, 2) := by decide +kernel
theorem dX8_init_157 : decode cX8_init 157 = .ok (.putfield 65, 3) := by decide +kernel
theorem dX8_init_160 : decode cX8_init 160 = .ok (.aload_n 0, 1) := by decide +kernel
theorem dX8_init_161 : decode cX8_init 161 = .ok (.sipush 900, 3) := by decide +kernel
theorem dX8_init_164 : decode cX8_init 164 = .ok (.newarray .byte, 2) := by decide +kernel
theorem dX8_init_166 : decode cX8_init 166 = .ok (.putfield 68, 3) := by decide +kernel
theorem dX8_init_169 : decode cX8_init 169 = .ok (.aload_n 0, 1) := by decide +kernel
theorem dX8_init_170 : decode cX8_init 170 = .ok (.iconst (-1), 1) := by decide +kernel
theorem dX8_init_171 : decode cX8_init 171 = .ok (.putfield 72, 3) := by decide +kernel
theorem dX8_init_174 : decode cX8_init 174 = .ok (.aload_n 0, 1) := by decide +kernel
theorem dX8_init_175 : decode cX8_init 175 = .ok (.bipush 37, 2) := by decide +kernel
theorem dX8_init_177 : decode cX8_init 177 = .ok (.newarray .byte, 2) := by decide +kernel
theorem dX8_init_179 : decode cX8_init 179 = .ok (.dup, 1) := by decide +kernel
theorem dX8_init_180 : decode cX8_init 180 = .ok (.iconst 0, 1) := by decide +kernel
theorem dX8_init_181 : decode cX8_init 181 = .ok (.bipush 108, 2) := by decide +kernel
theorem dX8_init_183 : decode cX8_init 183 = .ok (.bastore, 1) := by decide +kernel
theorem dX8_init_184 : decode cX8_init 184 = .ok (.dup, 1) := by decide +kernel
theorem dX8_init_185 : decode cX8_init 185 = .ok (.iconst 1, 1) := by decide +kernel
theorem dX8_init_186 : decode cX8_init 186 = .ok (.bipush 105, 2) := by decide +kernel
theorem dX8_init_188 : decode cX8_init 188 = .ok (.bastore, 1) := by decide +kernel
theorem dX8_init_189 : decode cX8_init 189 = .ok (.dup, 1) := by decide +kernel
theorem dX8_init_190 : decode cX8_init 190 = .ok (.iconst 2, 1) := by decide +kernel
theorem dX8_init_191 : decode cX8_init 191 = .ok (.bipush 110, 2) := by decide +kernel
theorem dX8_init_193 : decode cX8_init 193 = .ok (.bastore, 1) := by decide +kernel
theorem dX8_init_194 : decode cX8_init 194 = .ok (.dup, 1) := by decide +kernel
theorem dX8_init_195 : decode cX8_init 195 = .ok (.iconst 3, 1) := by decide +kernel
theorem dX8_init_196 : decode cX8_init 196 = .ok (.bipush 101, 2) := by decide +kernel
theorem dX8_init_198 : decode cX8_init 198 = .ok (.bastore, 1) := by decide +kernel
theorem dX8_init_199 : decode cX8_init 199 = .ok (.dup, 1) := by decide +kernel
theorem dX8_init_200 : decode cX8_init 200 = .ok (.iconst 4, 1) := by decide +kernel
theorem dX8_init_201 : decode cX8_init 201 = .ok (.bipush 32, 2) := by decide +kernel
theorem dX8_init_203 : decode cX8_init 203 = .ok (.bastore, 1) := by decide +kernel
theorem dX8_init_204 : decode cX8_init 204 = .ok (.dup, 1) := by decide +kernel
theorem dX8_init_205 : decode cX8_init 205 = .ok (.iconst 5, 1) := by decide +kernel
theorem dX8_init_206 : decode cX8_init 206 = .ok (.bipush 97, 2) := by decide +kernel
theorem dX8_init_208 : decode cX8_init 208 = .ok (.bastore, 1) := by decide +kernel
theorem dX8_init_209 : decode cX8_init 209 = .ok (.dup, 1) := by decide +kernel
theorem dX8_init_210 : decode cX8_init 210 = .ok (.bipush 6, 2) := by decide +kernel
theorem dX8_init_212 : decode cX8_init 212 = .ok (.bipush 108, 2) := by decide +kernel
theorem dX8_init_214 : decode cX8_init 214 = .ok (.bastore, 1) := by decide +kernel
theorem dX8_init_215 : decode cX8_init 215 = .ok (.dup, 1) := by decide +kernel
theorem dX8_init_216 : decode cX8_init 216 = .ok (.bipush 7, 2) := by decide +kernel
theorem dX8_init_218 : decode cX8_init 218 = .ok (.bipush 111, 2) := by decide +kernel
theorem dX8_init_220 : decode cX8_init 220 = .ok (.bastore, 1) := by decide +kernel
theorem dX8_init_221 : decode cX8_init 221 = .ok (.dup, 1) := by decide +kernel
theorem dX8_init_222 : decode cX8_init 222 = .ok (.bipush 8, 2) := by decide +kernel
theorem dX8_init_224 : decode cX8_init 224 = .ok (.bipush 110, 2) := by decide +kernel
theorem dX8_init_226 : decode cX8_init 226 = .ok (.bastore, 1) := by decide +kernel
theorem dX8_init_227 : decode cX8_init 227 = .ok (.dup, 1) := by decide +kernel
theorem dX8_init_228 : decode cX8_init 228 = .ok (.bipush 9, 2) := by decide +kernel
theorem dX8_init_230 : decode cX8_init 230 = .ok (.bipush 101, 2) := by decide +kernel
theorem dX8_init_232 : decode cX8_init 232 = .ok (.bastore, 1) := by decide +kernel
theorem dX8_init_233 : decode cX8_init 233 = .ok (.dup, 1) := by decide +kernel
theorem dX8_init_234 : decode cX8_init 234 = .ok (.bipush 10, 2) := by decide +kernel
theorem dX8_init_236 : decode cX8_init 236 = .ok (.bipush 32, 2) := by decide +kernel
theorem dX8_init_238 : decode cX8_init 238 = .ok (.bastore, 1) := by decide +kernel
theorem dX8_init_239 : decode cX8_init 239 = .ok (.dup, 1) := by decide +kernel
theorem dX8_init_240 : decode cX8_init 240 = .ok (.bipush 11, 2) := by decide +kernel
theorem dX8_init_242 : decode cX8_init 242 = .ok (.bipush 97, 2) := by decide +kernel
theorem dX8_init_244 : decode cX8_init 244 = .ok (.bastore, 1) := by decide +kernel
theorem dX8_init_245 : decode cX8_init 245 = .ok (.dup, 1) := by decide +kernel
theorem dX8_init_246 : decode cX8_init 246 = .ok (.bipush 12, 2) := by decide +kernel
theorem dX8_init_248 : decode cX8_init 248 = .ok (.bipush 98, 2) := by decide +kernel
theorem dX8_init_250 : decode cX8_init 250 = .ok (.bastore, 1) := by decide +kernel
theorem dX8_init_251 : decode cX8_init 251 = .ok (.dup, 1) := by decide +kernel
theorem dX8_init_252 : decode cX8_init 252 = .ok (.bipush 13, 2) := by decide +kernel
theorem dX8_init_254 : decode cX8_init 254 = .ok (.bipush 111, 2) := by decide +kernel
theorem dX8_init_256 : decode cX8_init 256 = .ok (.bastore, 1) := by decide +kernel
theorem dX8_init_257 : decode cX8_init 257 = .ok (.dup, 1) := by decide +kernel
theorem dX8_init_258 : decode cX8_init 258 = .ok (.bipush 14, 2) := by decide +kernel
theorem dX8_init_260 : decode cX8_init 260 = .ok (.bipush 118, 2) := by decide +kernel
theorem dX8_init_262 : decode cX8_init 262 = .ok (.bastore, 1) := by decide +kernel
theorem dX8_init_263 : decode cX8_init 263 = .ok (.dup, 1) := by decide +kernel
theorem dX8_init_264 : decode cX8_init 264 = .ok (.bipush 15, 2) := by decide +kernel
theorem dX8_init_266 : decode cX8_init 266 = .ok (.bipush 101, 2) := by decide +kernel
theorem dX8_init_268 : decode cX8_init 268 = .ok (.bastore, 1) := by decide +kernel
theorem dX8_init_269 : decode cX8_init 269 = .ok (.dup, 1) := by decide +kernel
theorem dX8_init_270 : decode cX8_init 270 = .ok (.bipush 16, 2) := by decide +kernel
theorem dX8_init_272 : decode cX8_init 272 = .ok (.bipush 32, 2) := by decide +kernel
theorem dX8_init_274 : decode cX8_init 274 = .ok (.bastore, 1) := by decide +kernel
theorem dX8_init_275 : decode cX8_init 275 = .ok (.dup, 1) := by decide +kernel
theorem dX8_init_276 : decode cX8_init 276 = .ok (.bipush 17, 2) := by decide +kernel
theorem dX8_init_278 : decode cX8_init 278 = .ok (.bipush 115, 2) := by decide +kernel
theorem dX8_init_280 : decode cX8_init 280 = .ok (.bastore, 1) := by decide +kernel
theorem dX8_init_281 : decode cX8_init 281 = .ok (.dup, 1) := by decide +kernel
theorem dX8_init_282 : decode cX8_init 282 = .ok (.bipush 18, 2) := by decide +kernel
theorem dX8_init_284 : decode cX8_init 284 = .ok (.bipush 101, 2) := by decide +kernel
theorem dX8_init_286 : decode cX8_init 286 = .ok (.bastore, 1) := by decide +kernel
theorem dX8_init_287 : decode cX8_init 287 = .ok (.dup, 1) := by decide +kernel
theorem dX8_init_288 : decode cX8_init 288 = .ok (.bipush 19, 2) := by decide +kernel
theorem dX8_init_290 : decode cX8_init 290 = .ok (.bipush 116, 2) := by decide +kernel
theorem dX8_init_292 : decode cX8_init 292 = .ok (.bastore, 1) := by decide +kernel
theorem dX8_init_293 : decode cX8_init 293 = .ok (.dup, 1) := by decide +kernel
theorem dX8_init_294 : decode cX8_init 294 = .ok (.bipush 20, 2) := by decide +kernel
theorem dX8_init_296 : decode cX8_init 296 = .ok (.bipush 32, 2) := by decide +kernel
theorem dX8_init_298 : decode cX8_init 298 = .ok (.bastore, 1) := by decide +kernel
theorem dX8_init_299 : decode cX8_init 299 = .ok (.dup, 1) := by decide +kernel
theorem dX8_init_300 : decode cX8_init 300 = .ok (.bipush 21, 2) := by decide +kernel
theorem dX8_init_302 : decode cX8_init 302 = .ok (.bipush 108, 2) := by decide +kernel
theorem dX8_init_304 : decode cX8_init 304 = .ok (.bastore, 1) := by decide +kernel
theorem dX8_init_305 : decode cX8_init 305 = .ok (.dup, 1) := by decide +kernel
theorem dX8_init_306 : decode cX8_init 306 = .ok (.bipush 22, 2) := by decide +kernel
theorem dX8_init_308 : decode cX8_init 308 = .ok (.bipush 111, 2) := by decide +kernel
theorem dX8_init_310 : decode cX8_init 310 = .ok (.bastore, 1) := by decide +kernel
theorem dX8_init_311 : decode cX8_init 311 = .ok (.dup, 1) := by decide +kernel
theorem dX8_init_312 : decode cX8_init 312 = .ok (.bipush 23, 2) := by decide +kernel
theorem dX8_init_314 : decode cX8_init 314 = .ok (.bipush 115, 2) := by decide +kernel
theorem dX8_init_316 : decode cX8_init 316 = .ok (.bastore, 1) := by decide +kernel
theorem dX8_init_317 : decode cX8_init 317 = .ok (.dup, 1) := by decide +kernel
theorem dX8_init_318 : decode cX8_init 318 = .ok (.bipush 24, 2) := by decide +kernel
theorem dX8_init_320 : decode cX8_init 320 = .ok (.bipush 115, 2) := by decide +kernel
theorem dX8_init_322 : decode cX8_init 322 = .ok (.bastore, 1) := by decide +kernel
theorem dX8_init_323 : decode cX8_init 323 = .ok (.dup, 1) := by decide +kernel
theorem dX8_init_324 : decode cX8_init 324 = .ok (.bipush 25, 2) := by decide +kernel
theorem dX8_init_326 : decode cX8_init 326 = .ok (.bipush 32, 2) := by decide +kernel
theorem dX8_init_328 : decode cX8_init 328 = .ok (.bastore, 1) := by decide +kernel
theorem dX8_init_329 : decode cX8_init 329 = .ok (.dup, 1) := by decide +kernel
theorem dX8_init_330 : decode cX8_init 330 = .ok (.bipush 26, 2) := by decide +kernel
theorem dX8_init_332 : decode cX8_init 332 = .ok (.bipush 119, 2) := by decide +kernel
theorem dX8_init_334 : decode cX8_init 334 = .ok (.bastore, 1) := by decide +kernel
theorem dX8_init_335 : decode cX8_init 335 = .ok (.dup, 1) := by decide +kernel
theorem dX8_init_336 : decode cX8_init 336 = .ok (.bipush 27, 2) := by decide +kernel
theorem dX8_init_338 : decode cX8_init 338 = .ok (.bipush 105, 2) := by decide +kernel
theorem dX8_init_340 : decode cX8_init 340 = .ok (.bastore, 1) := by decide +kernel
theorem dX8_init_341 : decode cX8_init 341 = .ok (.dup, 1) := by decide +kernel
theorem dX8_init_342 : decode cX8_init 342 = .ok (.bipush 28, 2) := by decide +kernel
theorem dX8_init_344 : decode cX8_init 344 = .ok (.bipush 100, 2) := by decide +kernel
theorem dX8_init_346 : decode cX8_init 346 = .ok (.bastore, 1) := by decide +kernel
theorem dX8_init_347 : decode cX8_init 347 = .ok (.dup, 1) := by decide +kernel
theorem dX8_init_348 : decode cX8_init 348 = .ok (.bipush 29, 2) := by decide +kernel
theorem dX8_init_350 : decode cX8_init 350 = .ok (.bipush 101, 2) := by decide +kernel
theorem dX8_init_352 : decode cX8_init 352 = .ok (.bastore, 1) := by decide +kernel
theorem dX8_init_353 : decode cX8_init 353 = .ok (.dup, 1) := by decide +kernel
theorem dX8_init_354 : decode cX8_init 354 = .ok (.bipush 30, 2) := by decide +kernel
theorem dX8_init_356 : decode cX8_init 356 = .ok (.bipush 32, 2) := by decide +kernel
theorem dX8_init_358 : decode cX8_init 358 = .ok (.bastore, 1) := by decide +kernel
theorem dX8_init_359 : decode cX8_init 359 = .ok (.dup, 1) := by decide +kernel
theorem dX8_init_360 : decode cX8_init 360 = .ok (.bipush 31, 2) := by decide +kernel
theorem dX8_init_362 : decode cX8_init 362 = .ok (.bipush 112, 2) := by decide +kernel
theorem dX8_init_364 : decode cX8_init 364 = .ok (.bastore, 1) := by decide +kernel
theorem dX8_init_365 : decode cX8_init 365 = .ok (.dup, 1) := by decide +kernel
theorem dX8_init_366 : decode cX8_init 366 = .ok (.bipush 32, 2) := by decide +kernel
theorem dX8_init_368 : decode cX8_init 368 = .ok (.bipush 32, 2) := by decide +kernel
theorem dX8_init_370 : decode cX8_init 370 = .ok (.bastore, 1) := by decide +kernel
theorem dX8_init_371 : decode cX8_init 371 = .ok (.dup, 1) := by decide +kernel
theorem dX8_init_372 : decode cX8_init 372 = .ok (.bipush 33, 2) := by decide +kernel
theorem dX8_init_374 : decode cX8_init 374 = .ok (.bipush 118, 2) := by decide +kernel
theorem dX8_init_376 : decode cX8_init 376 = .ok (.bastore, 1) := by decide +kernel
theorem dX8_init_377 : decode cX8_init 377 = .ok (.dup, 1) := by decide +kernel
theorem dX8_init_378 : decode cX8_init 378 = .ok (.bipush 34, 2) := by decide +kernel
theorem dX8_init_380 : decode cX8_init 380 = .ok (.bipush 32, 2) := by decide +kernel
theorem dX8_init_382 : decode cX8_init 382 = .ok (.bastore, 1) := by decide +kernel
theorem dX8_init_383 : decode cX8_init 383 = .ok (.dup, 1) := by decide +kernel
theorem dX8_init_384 : decode cX8_init 384 = .ok (.bipush 35, 2) := by decide +kernel
theorem dX8_init_386 : decode cX8_init 386 = .ok (.bipush 104, 2) := by decide +kernel
theorem dX8_init_388 : decode cX8_init 388 = .ok (.bastore, 1) := by decide +kernel
theorem dX8_init_389 : decode cX8_init 389 = .ok (.dup, 1) := by decide +kernel
theorem dX8_init_390 : decode cX8_init 390 = .ok (.bipush 36, 2) := by decide +kernel
theorem dX8_init_392 : decode cX8_init 392 = .ok (.bipush 32, 2) := by decide +kernel
theorem dX8_init_394 : decode cX8_init 394 = .ok (.bastore, 1) := by decide +kernel
theorem dX8_init_395 : decode cX8_init 395 = .ok (.putfield 76, 3) := by decide +kernel
theorem dX8_init_398 : decode cX8_init 398 = .ok (.aload_n 0, 1) := by decide +kernel
theorem dX8_init_399 : decode cX8_init 399 = .ok (.sipush 600, 3) := by decide +kernel
theorem dX8_init_402 : decode cX8_init 402 = .ok (.newarray .byte, 2) := by decide +kernel
theorem dX8_init_404 : decode cX8_init 404 = .ok (.putfield 79, 3) := by decide +kernel
theorem dX8_init_407 : decode cX8_init 407 = .ok (.aload_n 0, 1) := by decide +kernel
theorem dX8_init_408 : decode cX8_init 408 = .ok (.bipush 16, 2) := by decide +kernel
theorem dX8_init_410 : decode cX8_init 410 = .ok (.invokevirtual 82, 3) := by decide +kernel
theorem dX8_init_413 : decode cX8_init 413 = .ok (.aload_n 0, 1) := by decide +kernel
theorem dX8_init_414 : decode cX8_init 414 = .ok (.getfield 13, 3) := by decide +kernel
theorem dX8_init_417 : decode cX8_init 417 = .ok (.iconst 0, 1) := by decide +kernel
theorem dX8_init_418 : decode cX8_init 418 = .ok (.aload_n 0, 1) := by decide +kernel
theorem dX8_init_419 : decode cX8_init 419 = .ok (.getfield 7, 3) := by decide +kernel
theorem dX8_init_422 : decode cX8_init 422 = .ok (.iconst 0, 1) := by decide +kernel
theorem dX8_init_423 : decode cX8_init 423 = .ok (.invokestatic 86, 3) := by decide +kernel
theorem dX8_init_426 : decode cX8_init 426 = .ok (.return_, 1) := by decide +kernel
theorem dX8_thrown_0 : decode cX8_thrown 0 = .ok (.aload_n 0, 1) := by decide +kernel
theorem dX8_thrown_1 : decode cX8_thrown 1 = .ok (.getfield 90, 3) := by decide +kernel
theorem dX8_thrown_4 : decode cX8_thrown 4 = .ok (.ireturn, 1) := by decide +kernel
theorem dX8_in_0 : decode cX8_in 0 = .ok (.iload_n 0, 1) := by decide +kernel
theorem dX8_in_1 : decode cX8_in 1 = .ok (.iload_n 1, 1) := by decide +kernel
theorem dX8_in_2 : decode cX8_in 2 = .ok (.if_icmp .lt 12, 3) := by decide +kernel
theorem dX8_in_5 : decode cX8_in 5 = .ok (.iload_n 0, 1) := by decide +kernel
theorem dX8_in_6 : decode cX8_in 6 = .ok (.iload_n 2, 1) := by decide +kernel
theorem dX8_in_7 : decode cX8_in 7 = .ok (.if_icmp .gt 7, 3) := by decide +kernel
theorem dX8_in_10 : decode cX8_in 10 = .ok (.iconst 1, 1) := by decide +kernel
theorem dX8_in_11 : decode cX8_in 11 = .ok (.goto 4, 3) := by decide +kernel
theorem dX8_in_14 : decode cX8_in 14 = .ok (.iconst 0, 1) := by decide +kernel
theorem dX8_in_15 : decode cX8_in 15 = .ok (.ireturn, 1) := by decide +kernel
theorem dX8_copies_0 : decode cX8_copies 0 = .ok (.iconst 0, 1) := by decide +kernel
theorem dX8_copies_1 : decode cX8_copies 1 = .ok (.istore 4, 2) := by decide +kernel
theorem dX8_copies_3 : decode cX8_copies 3 = .ok (.iload 4, 2) := by decide +kernel
theorem dX8_copies_5 : decode cX8_copies 5 = .ok (.sipush 828, 3) := by decide +kernel
theorem dX8_copies_8 : decode cX8_copies 8 = .ok (.if_icmp .ge 21, 3) := by decide +kernel
theorem dX8_copies_11 : decode cX8_copies 11 = .ok (.aload_n 2, 1) := by decide +kernel
theorem dX8_copies_12 : decode cX8_copies 12 = .ok (.iload_n 3, 1) := by decide +kernel
theorem dX8_copies_13 : decode cX8_copies 13 = .ok (.iload 4, 2) := by decide +kernel
theorem dX8_copies_15 : decode cX8_copies 15 = .ok (.iadd, 1) := by decide +kernel
theorem dX8_copies_16 : decode cX8_copies 16 = .ok (.aload_n 0, 1) := by decide +kernel
theorem dX8_copies_17 : decode cX8_copies 17 = .ok (.iload_n 1, 1) := by decide +kernel
theorem dX8_copies_18 : decode cX8_copies 18 = .ok (.iload 4, 2) := by decide +kernel
theorem dX8_copies_20 : decode cX8_copies 20 = .ok (.iadd, 1) := by decide +kernel
theorem dX8_copies_21 : decode cX8_copies 21 = .ok (.iaload, 1) := by decide +kernel
theorem dX8_copies_22 : decode cX8_copies 22 = .ok (.iastore, 1) := by decide +kernel
theorem dX8_copies_23 : decode cX8_copies 23 = .ok (.iinc 4 1, 3) := by decide +kernel
theorem dX8_copies_26 : decode cX8_copies 26 = .ok (.goto (-23), 3) := by decide +kernel
theorem dX8_copies_29 : decode cX8_copies 29 = .ok (.return_, 1) := by decide +kernel
theorem dX8_begins_0 : decode cX8_begins 0 = .ok (.iconst 0, 1) := by decide +kernel
theorem dX8_begins_1 : decode cX8_begins 1 = .ok (.istore_n 2, 1) := by decide +kernel
theorem dX8_begins_2 : decode cX8_begins 2 = .ok (.iload_n 2, 1) := by decide +kernel
theorem dX8_begins_3 : decode cX8_begins 3 = .ok (.sipush 828, 3) := by decide +kernel
theorem dX8_begins_6 : decode cX8_begins 6 = .ok (.if_icmp .ge 16, 3) := by decide +kernel
theorem dX8_begins_9 : decode cX8_begins 9 = .ok (.aload_n 0, 1) := by decide +kernel
theorem dX8_begins_10 : decode cX8_begins 10 = .ok (.getfield 13, 3) := by decide +kernel
theorem dX8_begins_13 : decode cX8_begins 13 = .ok (.iload_n 2, 1) := by decide +kernel
theorem dX8_begins_14 : decode cX8_begins 14 = .ok (.iconst 0, 1) := by decide +kernel
theorem dX8_begins_15 : decode cX8_begins 15 = .ok (.iastore, 1) := by decide +kernel
theorem dX8_begins_16 : decode cX8_begins 16 = .ok (.iinc 2 1, 3) := by decide +kernel
theorem dX8_begins_19 : decode cX8_begins 19 = .ok (.goto (-17), 3) := by decide +kernel
theorem dX8_begins_22 : decode cX8_begins 22 = .ok (.aload_n 0, 1) := by decide +kernel
theorem dX8_begins_23 : decode cX8_begins 23 = .ok (.getfield 13, 3) := by decide +kernel
theorem dX8_begins_26 : decode cX8_begins 26 = .ok (.iconst 0, 1) := by decide +kernel
theorem dX8_begins_27 : decode cX8_begins 27 = .ok (.iload_n 1, 1) := by decide +kernel
theorem dX8_begins_28 : decode cX8_begins 28 = .ok (.iastore, 1) := by decide +kernel
theorem dX8_begins_29 : decode cX8_begins 29 = .ok (.aload_n 0, 1) := by decide +kernel
theorem dX8_begins_30 : decode cX8_begins 30 = .ok (.getfield 13, 3) := by decide +kernel
theorem dX8_begins_33 : decode cX8_begins 33 = .ok (.iconst 2, 1) := by decide +kernel
theorem dX8_begins_34 : decode cX8_begins 34 = .ok (.iconst 4, 1) := by decide +kernel
theorem dX8_begins_35 : decode cX8_begins 35 = .ok (.iastore, 1) := by decide +kernel
theorem dX8_begins_36 : decode cX8_begins 36 = .ok (.aload_n 0, 1) := by decide +kernel
theorem dX8_begins_37 : decode cX8_begins 37 = .ok (.getfield 13, 3) := by decide +kernel
theorem dX8_begins_40 : decode cX8_begins 40 = .ok (.bipush 6, 2) := by decide +kernel
theorem dX8_begins_42 : decode cX8_begins 42 = .ok (.bipush 8, 2) := by decide +kernel
theorem dX8_begins_44 : decode cX8_begins 44 = .ok (.iastore, 1) := by decide +kernel
theorem dX8_begins_45 : decode cX8_begins 45 = .ok (.aload_n 0, 1) := by decide +kernel
theorem dX8_begins_46 : decode cX8_begins 46 = .ok (.getfield 13, 3) := by decide +kernel
theorem dX8_begins_49 : decode cX8_begins 49 = .ok (.bipush 7, 2) := by decide +kernel
theorem dX8_begins_51 : decode cX8_begins 51 = .ok (.bipush 16, 2) := by decide +kernel
theorem dX8_begins_53 : decode cX8_begins 53 = .ok (.iastore, 1) := by decide +kernel
theorem dX8_begins_54 : decode cX8_begins 54 = .ok (.return_, 1) := by decide +kernel
theorem dX8_dotAt_0 : decode cX8_dotAt 0 = .ok (.bipush 28, 2) := by decide +kernel
theorem dX8_dotAt_2 : decode cX8_dotAt 2 = .ok (.bipush 40, 2) := by decide +kernel
theorem dX8_dotAt_4 : decode cX8_dotAt 4 = .ok (.iload_n 0, 1) := by decide +kernel
theorem dX8_dotAt_5 : decode cX8_dotAt 5 = .ok (.imul, 1) := by decide +kernel
theorem dX8_dotAt_6 : decode cX8_dotAt 6 = .ok (.iadd, 1) := by decide +kernel
theorem dX8_dotAt_7 : decode cX8_dotAt 7 = .ok (.iload_n 1, 1) := by decide +kernel
theorem dX8_dotAt_8 : decode cX8_dotAt 8 = .ok (.iadd, 1) := by decide +kernel
theorem dX8_dotAt_9 : decode cX8_dotAt 9 = .ok (.ireturn, 1) := by decide +kernel
theorem dX8_laysUpper_0 : decode cX8_laysUpper 0 = .ok (.iconst 0, 1) := by decide +kernel
theorem dX8_laysUpper_1 : decode cX8_laysUpper 1 = .ok (.istore_n 3, 1) := by decide +kernel
theorem dX8_laysUpper_2 : decode cX8_laysUpper 2 = .ok (.iload_n 3, 1) := by decide +kernel
theorem dX8_laysUpper_3 : decode cX8_laysUpper 3 = .ok (.bipush 40, 2) := by decide +kernel
theorem dX8_laysUpper_5 : decode cX8_laysUpper 5 = .ok (.if_icmp .ge 29, 3) := by decide +kernel
theorem dX8_laysUpper_8 : decode cX8_laysUpper 8 = .ok (.aload_n 0, 1) := by decide +kernel
theorem dX8_laysUpper_9 : decode cX8_laysUpper 9 = .ok (.getfield 26, 3) := by decide +kernel
theorem dX8_laysUpper_12 : decode cX8_laysUpper 12 = .ok (.iload_n 3, 1) := by decide +kernel
theorem dX8_laysUpper_13 : decode cX8_laysUpper 13 = .ok (.iload_n 2, 1) := by decide +kernel
theorem dX8_laysUpper_14 : decode cX8_laysUpper 14 = .ok (.iconst (-1), 1) := by decide +kernel
theorem dX8_laysUpper_15 : decode cX8_laysUpper 15 = .ok (.if_icmp .ne 7, 3) := by decide +kernel
theorem dX8_laysUpper_18 : decode cX8_laysUpper 18 = .ok (.iconst 0, 1) := by decide +kernel
theorem dX8_laysUpper_19 : decode cX8_laysUpper 19 = .ok (.goto 8, 3) := by decide +kernel
theorem dX8_laysUpper_22 : decode cX8_laysUpper 22 = .ok (.aload_n 1, 1) := by decide +kernel
theorem dX8_laysUpper_23 : decode cX8_laysUpper 23 = .ok (.iload_n 2, 1) := by decide +kernel
theorem dX8_laysUpper_24 : decode cX8_laysUpper 24 = .ok (.iload_n 3, 1) := by decide +kernel
theorem dX8_laysUpper_25 : decode cX8_laysUpper 25 = .ok (.iadd, 1) := by decide +kernel
theorem dX8_laysUpper_26 : decode cX8_laysUpper 26 = .ok (.iaload, 1) := by decide +kernel
theorem dX8_laysUpper_27 : decode cX8_laysUpper 27 = .ok (.iastore, 1) := by decide +kernel
theorem dX8_laysUpper_28 : decode cX8_laysUpper 28 = .ok (.iinc 3 1, 3) := by decide +kernel
theorem dX8_laysUpper_31 : decode cX8_laysUpper 31 = .ok (.goto (-29), 3) := by decide +kernel
theorem dX8_laysUpper_34 : decode cX8_laysUpper 34 = .ok (.return_, 1) := by decide +kernel
theorem dX8_laysLower_0 : decode cX8_laysLower 0 = .ok (.iconst 0, 1) := by decide +kernel
theorem dX8_laysLower_1 : decode cX8_laysLower 1 = .ok (.istore_n 3, 1) := by decide +kernel
theorem dX8_laysLower_2 : decode cX8_laysLower 2 = .ok (.iload_n 3, 1) := by decide +kernel
theorem dX8_laysLower_3 : decode cX8_laysLower 3 = .ok (.bipush 40, 2) := by decide +kernel
theorem dX8_laysLower_5 : decode cX8_laysLower 5 = .ok (.if_icmp .ge 20, 3) := by decide +kernel
theorem dX8_laysLower_8 : decode cX8_laysLower 8 = .ok (.aload_n 0, 1) := by decide +kernel
theorem dX8_laysLower_9 : decode cX8_laysLower 9 = .ok (.getfield 29, 3) := by decide +kernel
theorem dX8_laysLower_12 : decode cX8_laysLower 12 = .ok (.iload_n 3, 1) := by decide +kernel
theorem dX8_laysLower_13 : decode cX8_laysLower 13 = .ok (.aload_n 1, 1) := by decide +kernel
theorem dX8_laysLower_14 : decode cX8_laysLower 14 = .ok (.iload_n 2, 1) := by decide +kernel
theorem dX8_laysLower_15 : decode cX8_laysLower 15 = .ok (.iload_n 3, 1) := by decide +kernel
theorem dX8_laysLower_16 : decode cX8_laysLower 16 = .ok (.iadd, 1) := by decide +kernel
theorem dX8_laysLower_17 : decode cX8_laysLower 17 = .ok (.iaload, 1) := by decide +kernel
theorem dX8_laysLower_18 : decode cX8_laysLower 18 = .ok (.iastore, 1) := by decide +kernel
theorem dX8_laysLower_19 : decode cX8_laysLower 19 = .ok (.iinc 3 1, 3) := by decide +kernel
theorem dX8_laysLower_22 : decode cX8_laysLower 22 = .ok (.goto (-20), 3) := by decide +kernel
theorem dX8_laysLower_25 : decode cX8_laysLower 25 = .ok (.return_, 1) := by decide +kernel
theorem dX8_laysLine_0 : decode cX8_laysLine 0 = .ok (.aload_n 0, 1) := by decide +kernel
theorem dX8_laysLine_1 : decode cX8_laysLine 1 = .ok (.aload_n 0, 1) := by decide +kernel
theorem dX8_laysLine_2 : decode cX8_laysLine 2 = .ok (.getfield 7, 3) := by decide +kernel
theorem dX8_laysLine_5 : decode cX8_laysLine 5 = .ok (.iconst 0, 1) := by decide +kernel
theorem dX8_laysLine_6 : decode cX8_laysLine 6 = .ok (.iaload, 1) := by decide +kernel
theorem dX8_laysLine_7 : decode cX8_laysLine 7 = .ok (.putfield 93, 3) := by decide +kernel
theorem dX8_laysLine_10 : decode cX8_laysLine 10 = .ok (.aload_n 0, 1) := by decide +kernel
theorem dX8_laysLine_11 : decode cX8_laysLine 11 = .ok (.aload_n 0, 1) := by decide +kernel
theorem dX8_laysLine_12 : decode cX8_laysLine 12 = .ok (.getfield 7, 3) := by decide +kernel
theorem dX8_laysLine_15 : decode cX8_laysLine 15 = .ok (.iload_n 1, 1) := by decide +kernel
theorem dX8_laysLine_16 : decode cX8_laysLine 16 = .ok (.ifCond .ne 7, 3) := by decide +kernel
theorem dX8_laysLine_19 : decode cX8_laysLine 19 = .ok (.iconst (-1), 1) := by decide +kernel
theorem dX8_laysLine_20 : decode cX8_laysLine 20 = .ok (.goto 10, 3) := by decide +kernel
theorem dX8_laysLine_23 : decode cX8_laysLine 23 = .ok (.iload_n 1, 1) := by decide +kernel
theorem dX8_laysLine_24 : decode cX8_laysLine 24 = .ok (.iconst 1, 1) := by decide +kernel
theorem dX8_laysLine_25 : decode cX8_laysLine 25 = .ok (.isub, 1) := by decide +kernel
theorem dX8_laysLine_26 : decode cX8_laysLine 26 = .ok (.iconst 0, 1) := by decide +kernel
theorem dX8_laysLine_27 : decode cX8_laysLine 27 = .ok (.invokestatic 96, 3) := by decide +kernel
theorem dX8_laysLine_30 : decode cX8_laysLine 30 = .ok (.invokevirtual 100, 3) := by decide +kernel
theorem dX8_laysLine_33 : decode cX8_laysLine 33 = .ok (.aload_n 0, 1) := by decide +kernel
theorem dX8_laysLine_34 : decode cX8_laysLine 34 = .ok (.aload_n 0, 1) := by decide +kernel
theorem dX8_laysLine_35 : decode cX8_laysLine 35 = .ok (.getfield 7, 3) := by decide +kernel
theorem dX8_laysLine_38 : decode cX8_laysLine 38 = .ok (.iload_n 1, 1) := by decide +kernel
theorem dX8_laysLine_39 : decode cX8_laysLine 39 = .ok (.iconst 0, 1) := by decide +kernel
theorem dX8_laysLine_40 : decode cX8_laysLine 40 = .ok (.invokestatic 96, 3) := by decide +kernel
theorem dX8_laysLine_43 : decode cX8_laysLine 43 = .ok (.invokevirtual 104, 3) := by decide +kernel
theorem dX8_laysLine_46 : decode cX8_laysLine 46 = .ok (.return_, 1) := by decide +kernel
theorem dX8_isChange_0 : decode cX8_isChange 0 = .ok (.aload_n 0, 1) := by decide +kernel
theorem dX8_isChange_1 : decode cX8_isChange 1 = .ok (.getfield 26, 3) := by decide +kernel
theorem dX8_isChange_4 : decode cX8_isChange 4 = .ok (.iload_n 1, 1) := by decide +kernel
theorem dX8_isChange_5 : decode cX8_isChange 5 = .ok (.iaload, 1) := by decide +kernel
theorem dX8_isChange_6 : decode cX8_isChange 6 = .ok (.iload_n 1, 1) := by decide +kernel
theorem dX8_isChange_7 : decode cX8_isChange 7 = .ok (.ifCond .ne 7, 3) := by decide +kernel
theorem dX8_isChange_10 : decode cX8_isChange 10 = .ok (.iconst 0, 1) := by decide +kernel
theorem dX8_isChange_11 : decode cX8_isChange 11 = .ok (.goto 11, 3) := by decide +kernel
theorem dX8_isChange_14 : decode cX8_isChange 14 = .ok (.aload_n 0, 1) := by decide +kernel
theorem dX8_isChange_15 : decode cX8_isChange 15 = .ok (.getfield 26, 3) := by decide +kernel
theorem dX8_isChange_18 : decode cX8_isChange 18 = .ok (.iload_n 1, 1) := by decide +kernel
theorem dX8_isChange_19 : decode cX8_isChange 19 = .ok (.iconst 1, 1) := by decide +kernel
theorem dX8_isChange_20 : decode cX8_isChange 20 = .ok (.isub, 1) := by decide +kernel
theorem dX8_isChange_21 : decode cX8_isChange 21 = .ok (.iaload, 1) := by decide +kernel
theorem dX8_isChange_22 : decode cX8_isChange 22 = .ok (.if_icmp .eq 7, 3) := by decide +kernel
theorem dX8_isChange_25 : decode cX8_isChange 25 = .ok (.iconst 1, 1) := by decide +kernel
theorem dX8_isChange_26 : decode cX8_isChange 26 = .ok (.goto 4, 3) := by decide +kernel
theorem dX8_isChange_29 : decode cX8_isChange 29 = .ok (.iconst 0, 1) := by decide +kernel
theorem dX8_isChange_30 : decode cX8_isChange 30 = .ok (.ireturn, 1) := by decide +kernel
theorem dX8_changeBehind_0 : decode cX8_changeBehind 0 = .ok (.iload_n 1, 1) := by decide +kernel
theorem dX8_changeBehind_1 : decode cX8_changeBehind 1 = .ok (.iconst 1, 1) := by decide +kernel
theorem dX8_changeBehind_2 : decode cX8_changeBehind 2 = .ok (.iadd, 1) := by decide +kernel
theorem dX8_changeBehind_3 : decode cX8_changeBehind 3 = .ok (.istore_n 3, 1) := by decide +kernel
theorem dX8_changeBehind_4 : decode cX8_changeBehind 4 = .ok (.iload_n 3, 1) := by decide +kernel
theorem dX8_changeBehind_5 : decode cX8_changeBehind 5 = .ok (.aload_n 0, 1) := by decide +kernel
theorem dX8_changeBehind_6 : decode cX8_changeBehind 6 = .ok (.getfield 93, 3) := by decide +kernel
theorem dX8_changeBehind_9 : decode cX8_changeBehind 9 = .ok (.if_icmp .ge 27, 3) := by decide +kernel
theorem dX8_changeBehind_12 : decode cX8_changeBehind 12 = .ok (.aload_n 0, 1) := by decide +kernel
theorem dX8_changeBehind_13 : decode cX8_changeBehind 13 = .ok (.iload_n 3, 1) := by decide +kernel
theorem dX8_changeBehind_14 : decode cX8_changeBehind 14 = .ok (.invokevirtual 107, 3) := by decide +kernel
theorem dX8_changeBehind_17 : decode cX8_changeBehind 17 = .ok (.ifCond .eq 13, 3) := by decide +kernel
theorem dX8_changeBehind_20 : decode cX8_changeBehind 20 = .ok (.aload_n 0, 1) := by decide +kernel
theorem dX8_changeBehind_21 : decode cX8_changeBehind 21 = .ok (.getfield 26, 3) := by decide +kernel
theorem dX8_changeBehind_24 : decode cX8_changeBehind 24 = .ok (.iload_n 3, 1) := by decide +kernel
theorem dX8_changeBehind_25 : decode cX8_changeBehind 25 = .ok (.iaload, 1) := by decide +kernel
theorem dX8_changeBehind_26 : decode cX8_changeBehind 26 = .ok (.iload_n 2, 1) := by decide +kernel
theorem dX8_changeBehind_27 : decode cX8_changeBehind 27 = .ok (.if_icmp .ne 9, 3) := by decide +kernel
theorem dX8_changeBehind_30 : decode cX8_changeBehind 30 = .ok (.iinc 3 1, 3) := by decide +kernel
theorem dX8_changeBehind_33 : decode cX8_changeBehind 33 = .ok (.goto (-29), 3) := by decide +kernel
theorem dX8_changeBehind_36 : decode cX8_changeBehind 36 = .ok (.iload_n 3, 1) := by decide +kernel
theorem dX8_changeBehind_37 : decode cX8_changeBehind 37 = .ok (.aload_n 0, 1) := by decide +kernel
theorem dX8_changeBehind_38 : decode cX8_changeBehind 38 = .ok (.getfield 93, 3) := by decide +kernel
theorem dX8_changeBehind_41 : decode cX8_changeBehind 41 = .ok (.if_icmp .ge 7, 3) := by decide +kernel
theorem dX8_changeBehind_44 : decode cX8_changeBehind 44 = .ok (.iload_n 3, 1) := by decide +kernel
theorem dX8_changeBehind_45 : decode cX8_changeBehind 45 = .ok (.goto 7, 3) := by decide +kernel
theorem dX8_changeBehind_48 : decode cX8_changeBehind 48 = .ok (.aload_n 0, 1) := by decide +kernel
theorem dX8_changeBehind_49 : decode cX8_changeBehind 49 = .ok (.getfield 93, 3) := by decide +kernel
theorem dX8_changeBehind_52 : decode cX8_changeBehind 52 = .ok (.ireturn, 1) := by decide +kernel
theorem dX8_dotBehind_0 : decode cX8_dotBehind 0 = .ok (.iload_n 1, 1) := by decide +kernel
theorem dX8_dotBehind_1 : decode cX8_dotBehind 1 = .ok (.iconst 1, 1) := by decide +kernel
theorem dX8_dotBehind_2 : decode cX8_dotBehind 2 = .ok (.iadd, 1) := by decide +kernel
theorem dX8_dotBehind_3 : decode cX8_dotBehind 3 = .ok (.istore_n 3, 1) := by decide +kernel
theorem dX8_dotBehind_4 : decode cX8_dotBehind 4 = .ok (.iload_n 3, 1) := by decide +kernel
theorem dX8_dotBehind_5 : decode cX8_dotBehind 5 = .ok (.aload_n 0, 1) := by decide +kernel
theorem dX8_dotBehind_6 : decode cX8_dotBehind 6 = .ok (.getfield 93, 3) := by decide +kernel
theorem dX8_dotBehind_9 : decode cX8_dotBehind 9 = .ok (.if_icmp .ge 19, 3) := by decide +kernel
theorem dX8_dotBehind_12 : decode cX8_dotBehind 12 = .ok (.aload_n 0, 1) := by decide +kernel
theorem dX8_dotBehind_13 : decode cX8_dotBehind 13 = .ok (.getfield 29, 3) := by decide +kernel
theorem dX8_dotBehind_16 : decode cX8_dotBehind 16 = .ok (.iload_n 3, 1) := by decide +kernel
theorem dX8_dotBehind_17 : decode cX8_dotBehind 17 = .ok (.iaload, 1) := by decide +kernel
theorem dX8_dotBehind_18 : decode cX8_dotBehind 18 = .ok (.iload_n 2, 1) := by decide +kernel
theorem dX8_dotBehind_19 : decode cX8_dotBehind 19 = .ok (.if_icmp .eq 9, 3) := by decide +kernel
theorem dX8_dotBehind_22 : decode cX8_dotBehind 22 = .ok (.iinc 3 1, 3) := by decide +kernel
theorem dX8_dotBehind_25 : decode cX8_dotBehind 25 = .ok (.goto (-21), 3) := by decide +kernel
theorem dX8_dotBehind_28 : decode cX8_dotBehind 28 = .ok (.iload_n 3, 1) := by decide +kernel
theorem dX8_dotBehind_29 : decode cX8_dotBehind 29 = .ok (.aload_n 0, 1) := by decide +kernel
theorem dX8_dotBehind_30 : decode cX8_dotBehind 30 = .ok (.getfield 93, 3) := by decide +kernel
theorem dX8_dotBehind_33 : decode cX8_dotBehind 33 = .ok (.if_icmp .ge 7, 3) := by decide +kernel
theorem dX8_dotBehind_36 : decode cX8_dotBehind 36 = .ok (.iload_n 3, 1) := by decide +kernel
theorem dX8_dotBehind_37 : decode cX8_dotBehind 37 = .ok (.goto 7, 3) := by decide +kernel
theorem dX8_dotBehind_40 : decode cX8_dotBehind 40 = .ok (.aload_n 0, 1) := by decide +kernel
theorem dX8_dotBehind_41 : decode cX8_dotBehind 41 = .ok (.getfield 93, 3) := by decide +kernel
theorem dX8_dotBehind_44 : decode cX8_dotBehind 44 = .ok (.ireturn, 1) := by decide +kernel
theorem dX8_adds_0 : decode cX8_adds 0 = .ok (.aload_n 0, 1) := by decide +kernel
theorem dX8_adds_1 : decode cX8_adds 1 = .ok (.getfield 32, 3) := by decide +kernel
theorem dX8_adds_4 : decode cX8_adds 4 = .ok (.aload_n 0, 1) := by decide +kernel
theorem dX8_adds_5 : decode cX8_adds 5 = .ok (.getfield 111, 3) := by decide +kernel
theorem dX8_adds_8 : decode cX8_adds 8 = .ok (.iload_n 1, 1) := by decide +kernel
theorem dX8_adds_9 : decode cX8_adds 9 = .ok (.iastore, 1) := by decide +kernel
theorem dX8_adds_10 : decode cX8_adds 10 = .ok (.aload_n 0, 1) := by decide +kernel
theorem dX8_adds_11 : decode cX8_adds 11 = .ok (.getfield 35, 3) := by decide +kernel
theorem dX8_adds_14 : decode cX8_adds 14 = .ok (.aload_n 0, 1) := by decide +kernel
theorem dX8_adds_15 : decode cX8_adds 15 = .ok (.getfield 111, 3) := by decide +kernel
theorem dX8_adds_18 : decode cX8_adds 18 = .ok (.iload_n 2, 1) := by decide +kernel
theorem dX8_adds_19 : decode cX8_adds 19 = .ok (.iastore, 1) := by decide +kernel
theorem dX8_adds_20 : decode cX8_adds 20 = .ok (.aload_n 0, 1) := by decide +kernel
theorem dX8_adds_21 : decode cX8_adds 21 = .ok (.getfield 38, 3) := by decide +kernel
theorem dX8_adds_24 : decode cX8_adds 24 = .ok (.aload_n 0, 1) := by decide +kernel
theorem dX8_adds_25 : decode cX8_adds 25 = .ok (.getfield 111, 3) := by decide +kernel
theorem dX8_adds_28 : decode cX8_adds 28 = .ok (.iload_n 3, 1) := by decide +kernel
theorem dX8_adds_29 : decode cX8_adds 29 = .ok (.iastore, 1) := by decide +kernel
theorem dX8_adds_30 : decode cX8_adds 30 = .ok (.aload_n 0, 1) := by decide +kernel
theorem dX8_adds_31 : decode cX8_adds 31 = .ok (.getfield 41, 3) := by decide +kernel
theorem dX8_adds_34 : decode cX8_adds 34 = .ok (.aload_n 0, 1) := by decide +kernel
theorem dX8_adds_35 : decode cX8_adds 35 = .ok (.getfield 111, 3) := by decide +kernel
theorem dX8_adds_38 : decode cX8_adds 38 = .ok (.iload 4, 2) := by decide +kernel
theorem dX8_adds_40 : decode cX8_adds 40 = .ok (.iastore, 1) := by decide +kernel
theorem dX8_adds_41 : decode cX8_adds 41 = .ok (.aload_n 0, 1) := by decide +kernel
theorem dX8_adds_42 : decode cX8_adds 42 = .ok (.dup, 1) := by decide +kernel
theorem dX8_adds_43 : decode cX8_adds 43 = .ok (.getfield 111, 3) := by decide +kernel
theorem dX8_adds_46 : decode cX8_adds 46 = .ok (.iconst 1, 1) := by decide +kernel
theorem dX8_adds_47 : decode cX8_adds 47 = .ok (.iadd, 1) := by decide +kernel
theorem dX8_adds_48 : decode cX8_adds 48 = .ok (.putfield 111, 3) := by decide +kernel
theorem dX8_adds_51 : decode cX8_adds 51 = .ok (.return_, 1) := by decide +kernel
theorem dX8_least0_0 : decode cX8_least0 0 = .ok (.iload_n 0, 1) := by decide +kernel
theorem dX8_least0_1 : decode cX8_least0 1 = .ok (.ifCond .ge 7, 3) := by decide +kernel
theorem dX8_least0_4 : decode cX8_least0 4 = .ok (.iconst 0, 1) := by decide +kernel
theorem dX8_least0_5 : decode cX8_least0 5 = .ok (.goto 4, 3) := by decide +kernel
theorem dX8_least0_8 : decode cX8_least0 8 = .ok (.iload_n 0, 1) := by decide +kernel
theorem dX8_least0_9 : decode cX8_least0 9 = .ok (.ireturn, 1) := by decide +kernel
theorem dX8_codes_0 : decode cX8_codes 0 = .ok (.aload_n 0, 1) := by decide +kernel
theorem dX8_codes_1 : decode cX8_codes 1 = .ok (.iconst 0, 1) := by decide +kernel
theorem dX8_codes_2 : decode cX8_codes 2 = .ok (.putfield 111, 3) := by decide +kernel
theorem dX8_codes_5 : decode cX8_codes 5 = .ok (.iconst (-1), 1) := by decide +kernel
theorem dX8_codes_6 : decode cX8_codes 6 = .ok (.istore_n 1, 1) := by decide +kernel
theorem dX8_codes_7 : decode cX8_codes 7 = .ok (.iconst 0, 1) := by decide +kernel
theorem dX8_codes_8 : decode cX8_codes 8 = .ok (.istore_n 2, 1) := by decide +kernel
theorem dX8_codes_9 : decode cX8_codes 9 = .ok (.iload_n 1, 1) := by decide +kernel
theorem dX8_codes_10 : decode cX8_codes 10 = .ok (.aload_n 0, 1) := by decide +kernel
theorem dX8_codes_11 : decode cX8_codes 11 = .ok (.getfield 93, 3) := by decide +kernel
theorem dX8_codes_14 : decode cX8_codes 14 = .ok (.if_icmp .eq 145, 3) := by decide +kernel
theorem dX8_codes_17 : decode cX8_codes 17 = .ok (.aload_n 0, 1) := by decide +kernel
theorem dX8_codes_18 : decode cX8_codes 18 = .ok (.iload_n 1, 1) := by decide +kernel
theorem dX8_codes_19 : decode cX8_codes 19 = .ok (.iconst 1, 1) := by decide +kernel
theorem dX8_codes_20 : decode cX8_codes 20 = .ok (.iload_n 2, 1) := by decide +kernel
theorem dX8_codes_21 : decode cX8_codes 21 = .ok (.isub, 1) := by decide +kernel
theorem dX8_codes_22 : decode cX8_codes 22 = .ok (.invokevirtual 114, 3) := by decide +kernel
theorem dX8_codes_25 : decode cX8_codes 25 = .ok (.istore_n 3, 1) := by decide +kernel
theorem dX8_codes_26 : decode cX8_codes 26 = .ok (.aload_n 0, 1) := by decide +kernel
theorem dX8_codes_27 : decode cX8_codes 27 = .ok (.iload_n 1, 1) := by decide +kernel
theorem dX8_codes_28 : decode cX8_codes 28 = .ok (.iload_n 2, 1) := by decide +kernel
theorem dX8_codes_29 : decode cX8_codes 29 = .ok (.invokevirtual 117, 3) := by decide +kernel
theorem dX8_codes_32 : decode cX8_codes 32 = .ok (.istore 4, 2) := by decide +kernel
theorem dX8_codes_34 : decode cX8_codes 34 = .ok (.iload 4, 2) := by decide +kernel
theorem dX8_codes_36 : decode cX8_codes 36 = .ok (.aload_n 0, 1) := by decide +kernel
theorem dX8_codes_37 : decode cX8_codes 37 = .ok (.getfield 93, 3) := by decide +kernel
theorem dX8_codes_40 : decode cX8_codes 40 = .ok (.if_icmp .ne 10, 3) := by decide +kernel
theorem dX8_codes_43 : decode cX8_codes 43 = .ok (.aload_n 0, 1) := by decide +kernel
theorem dX8_codes_44 : decode cX8_codes 44 = .ok (.getfield 93, 3) := by decide +kernel
theorem dX8_codes_47 : decode cX8_codes 47 = .ok (.goto 10, 3) := by decide +kernel
theorem dX8_codes_50 : decode cX8_codes 50 = .ok (.aload_n 0, 1) := by decide +kernel
theorem dX8_codes_51 : decode cX8_codes 51 = .ok (.iload 4, 2) := by decide +kernel
theorem dX8_codes_53 : decode cX8_codes 53 = .ok (.iconst 2, 1) := by decide +kernel
theorem dX8_codes_54 : decode cX8_codes 54 = .ok (.invokevirtual 117, 3) := by decide +kernel
theorem dX8_codes_57 : decode cX8_codes 57 = .ok (.istore 5, 2) := by decide +kernel
theorem dX8_codes_59 : decode cX8_codes 59 = .ok (.iload 5, 2) := by decide +kernel
theorem dX8_codes_61 : decode cX8_codes 61 = .ok (.iload_n 3, 1) := by decide +kernel
theorem dX8_codes_62 : decode cX8_codes 62 = .ok (.if_icmp .ge 18, 3) := by decide +kernel
theorem dX8_codes_65 : decode cX8_codes 65 = .ok (.aload_n 0, 1) := by decide +kernel
theorem dX8_codes_66 : decode cX8_codes 66 = .ok (.iconst 0, 1) := by decide +kernel
theorem dX8_codes_67 : decode cX8_codes 67 = .ok (.iconst 0, 1) := by decide +kernel
theorem dX8_codes_68 : decode cX8_codes 68 = .ok (.iconst 0, 1) := by decide +kernel
theorem dX8_codes_69 : decode cX8_codes 69 = .ok (.iload 5, 2) := by decide +kernel
theorem dX8_codes_71 : decode cX8_codes 71 = .ok (.invokevirtual 120, 3) := by decide +kernel
theorem dX8_codes_74 : decode cX8_codes 74 = .ok (.iload 5, 2) := by decide +kernel
theorem dX8_codes_76 : decode cX8_codes 76 = .ok (.istore_n 1, 1) := by decide +kernel
theorem dX8_codes_77 : decode cX8_codes 77 = .ok (.goto 79, 3) := by decide +kernel
theorem dX8_codes_80 : decode cX8_codes 80 = .ok (.iload_n 3, 1) := by decide +kernel
theorem dX8_codes_81 : decode cX8_codes 81 = .ok (.iload 4, 2) := by decide +kernel
theorem dX8_codes_83 : decode cX8_codes 83 = .ok (.isub, 1) := by decide +kernel
theorem dX8_codes_84 : decode cX8_codes 84 = .ok (.bipush (-3), 2) := by decide +kernel
theorem dX8_codes_86 : decode cX8_codes 86 = .ok (.iconst 3, 1) := by decide +kernel
theorem dX8_codes_87 : decode cX8_codes 87 = .ok (.invokestatic 124, 3) := by decide +kernel
theorem dX8_codes_90 : decode cX8_codes 90 = .ok (.ifCond .eq 23, 3) := by decide +kernel
theorem dX8_codes_93 : decode cX8_codes 93 = .ok (.aload_n 0, 1) := by decide +kernel
theorem dX8_codes_94 : decode cX8_codes 94 = .ok (.iconst 1, 1) := by decide +kernel
theorem dX8_codes_95 : decode cX8_codes 95 = .ok (.iload_n 3, 1) := by decide +kernel
theorem dX8_codes_96 : decode cX8_codes 96 = .ok (.iload 4, 2) := by decide +kernel
theorem dX8_codes_98 : decode cX8_codes 98 = .ok (.isub, 1) := by decide +kernel
theorem dX8_codes_99 : decode cX8_codes 99 = .ok (.iconst 0, 1) := by decide +kernel
theorem dX8_codes_100 : decode cX8_codes 100 = .ok (.iload_n 3, 1) := by decide +kernel
theorem dX8_codes_101 : decode cX8_codes 101 = .ok (.invokevirtual 120, 3) := by decide +kernel
theorem dX8_codes_104 : decode cX8_codes 104 = .ok (.iload_n 3, 1) := by decide +kernel
theorem dX8_codes_105 : decode cX8_codes 105 = .ok (.istore_n 1, 1) := by decide +kernel
theorem dX8_codes_106 : decode cX8_codes 106 = .ok (.iconst 1, 1) := by decide +kernel
theorem dX8_codes_107 : decode cX8_codes 107 = .ok (.iload_n 2, 1) := by decide +kernel
theorem dX8_codes_108 : decode cX8_codes 108 = .ok (.isub, 1) := by decide +kernel
theorem dX8_codes_109 : decode cX8_codes 109 = .ok (.istore_n 2, 1) := by decide +kernel
theorem dX8_codes_110 : decode cX8_codes 110 = .ok (.goto 46, 3) := by decide +kernel
theorem dX8_codes_113 : decode cX8_codes 113 = .ok (.iload_n 3, 1) := by decide +kernel
theorem dX8_codes_114 : decode cX8_codes 114 = .ok (.aload_n 0, 1) := by decide +kernel
theorem dX8_codes_115 : decode cX8_codes 115 = .ok (.getfield 93, 3) := by decide +kernel
theorem dX8_codes_118 : decode cX8_codes 118 = .ok (.if_icmp .ne 10, 3) := by decide +kernel
theorem dX8_codes_121 : decode cX8_codes 121 = .ok (.aload_n 0, 1) := by decide +kernel
theorem dX8_codes_122 : decode cX8_codes 122 = .ok (.getfield 93, 3) := by decide +kernel
theorem dX8_codes_125 : decode cX8_codes 125 = .ok (.goto 9, 3) := by decide +kernel
theorem dX8_codes_128 : decode cX8_codes 128 = .ok (.aload_n 0, 1) := by decide +kernel
theorem dX8_codes_129 : decode cX8_codes 129 = .ok (.iload_n 3, 1) := by decide +kernel
theorem dX8_codes_130 : decode cX8_codes 130 = .ok (.iload_n 2, 1) := by decide +kernel
theorem dX8_codes_131 : decode cX8_codes 131 = .ok (.invokevirtual 114, 3) := by decide +kernel
theorem dX8_codes_134 : decode cX8_codes 134 = .ok (.istore 6, 2) := by decide +kernel
theorem dX8_codes_136 : decode cX8_codes 136 = .ok (.aload_n 0, 1) := by decide +kernel
theorem dX8_codes_137 : decode cX8_codes 137 = .ok (.iconst 2, 1) := by decide +kernel
theorem dX8_codes_138 : decode cX8_codes 138 = .ok (.iload_n 3, 1) := by decide +kernel
theorem dX8_codes_139 : decode cX8_codes 139 = .ok (.iload_n 1, 1) := by decide +kernel
theorem dX8_codes_140 : decode cX8_codes 140 = .ok (.invokestatic 128, 3) := by decide +kernel
theorem dX8_codes_143 : decode cX8_codes 143 = .ok (.isub, 1) := by decide +kernel
theorem dX8_codes_144 : decode cX8_codes 144 = .ok (.iload 6, 2) := by decide +kernel
theorem dX8_codes_146 : decode cX8_codes 146 = .ok (.iload_n 3, 1) := by decide +kernel
theorem dX8_codes_147 : decode cX8_codes 147 = .ok (.isub, 1) := by decide +kernel
theorem dX8_codes_148 : decode cX8_codes 148 = .ok (.iload 6, 2) := by decide +kernel
theorem dX8_codes_150 : decode cX8_codes 150 = .ok (.invokevirtual 120, 3) := by decide +kernel
theorem dX8_codes_153 : decode cX8_codes 153 = .ok (.iload 6, 2) := by decide +kernel
theorem dX8_codes_155 : decode cX8_codes 155 = .ok (.istore_n 1, 1) := by decide +kernel
theorem dX8_codes_156 : decode cX8_codes 156 = .ok (.goto (-147), 3) := by decide +kernel
theorem dX8_codes_159 : decode cX8_codes 159 = .ok (.return_, 1) := by decide +kernel
theorem dX8_numberBits_0 : decode cX8_numberBits 0 = .ok (.iload_n 0, 1) := by decide +kernel
theorem dX8_numberBits_1 : decode cX8_numberBits 1 = .ok (.bipush 8, 2) := by decide +kernel
theorem dX8_numberBits_3 : decode cX8_numberBits 3 = .ok (.if_icmp .ge 7, 3) := by decide +kernel
theorem dX8_numberBits_6 : decode cX8_numberBits 6 = .ok (.iconst 4, 1) := by decide +kernel
theorem dX8_numberBits_7 : decode cX8_numberBits 7 = .ok (.goto 5, 3) := by decide +kernel
theorem dX8_numberBits_10 : decode cX8_numberBits 10 = .ok (.bipush 8, 2) := by decide +kernel
theorem dX8_numberBits_12 : decode cX8_numberBits 12 = .ok (.ireturn, 1) := by decide +kernel
theorem dX8_codeBits_0 : decode cX8_codeBits 0 = .ok (.iconst 0, 1) := by decide +kernel
theorem dX8_codeBits_1 : decode cX8_codeBits 1 = .ok (.istore_n 1, 1) := by decide +kernel
theorem dX8_codeBits_2 : decode cX8_codeBits 2 = .ok (.iconst 0, 1) := by decide +kernel
theorem dX8_codeBits_3 : decode cX8_codeBits 3 = .ok (.istore_n 2, 1) := by decide +kernel
theorem dX8_codeBits_4 : decode cX8_codeBits 4 = .ok (.iload_n 2, 1) := by decide +kernel
theorem dX8_codeBits_5 : decode cX8_codeBits 5 = .ok (.aload_n 0, 1) := by decide +kernel
theorem dX8_codeBits_6 : decode cX8_codeBits 6 = .ok (.getfield 111, 3) := by decide +kernel
theorem dX8_codeBits_9 : decode cX8_codeBits 9 = .ok (.if_icmp .ge 114, 3) := by decide +kernel
theorem dX8_codeBits_12 : decode cX8_codeBits 12 = .ok (.aload_n 0, 1) := by decide +kernel
theorem dX8_codeBits_13 : decode cX8_codeBits 13 = .ok (.getfield 35, 3) := by decide +kernel
theorem dX8_codeBits_16 : decode cX8_codeBits 16 = .ok (.iload_n 2, 1) := by decide +kernel
theorem dX8_codeBits_17 : decode cX8_codeBits 17 = .ok (.iaload, 1) := by decide +kernel
theorem dX8_codeBits_18 : decode cX8_codeBits 18 = .ok (.ifCond .ge 13, 3) := by decide +kernel
theorem dX8_codeBits_21 : decode cX8_codeBits 21 = .ok (.aload_n 0, 1) := by decide +kernel
theorem dX8_codeBits_22 : decode cX8_codeBits 22 = .ok (.getfield 35, 3) := by decide +kernel
theorem dX8_codeBits_25 : decode cX8_codeBits 25 = .ok (.iload_n 2, 1) := by decide +kernel
theorem dX8_codeBits_26 : decode cX8_codeBits 26 = .ok (.iaload, 1) := by decide +kernel
theorem dX8_codeBits_27 : decode cX8_codeBits 27 = .ok (.ineg, 1) := by decide +kernel
theorem dX8_codeBits_28 : decode cX8_codeBits 28 = .ok (.goto 9, 3) := by decide +kernel
theorem dX8_codeBits_31 : decode cX8_codeBits 31 = .ok (.aload_n 0, 1) := by decide +kernel
theorem dX8_codeBits_32 : decode cX8_codeBits 32 = .ok (.getfield 35, 3) := by decide +kernel
theorem dX8_codeBits_35 : decode cX8_codeBits 35 = .ok (.iload_n 2, 1) := by decide +kernel
theorem dX8_codeBits_36 : decode cX8_codeBits 36 = .ok (.iaload, 1) := by decide +kernel
theorem dX8_codeBits_37 : decode cX8_codeBits 37 = .ok (.istore_n 3, 1) := by decide +kernel
theorem dX8_codeBits_38 : decode cX8_codeBits 38 = .ok (.iload_n 1, 1) := by decide +kernel
theorem dX8_codeBits_39 : decode cX8_codeBits 39 = .ok (.aload_n 0, 1) := by decide +kernel
theorem dX8_codeBits_40 : decode cX8_codeBits 40 = .ok (.getfield 32, 3) := by decide +kernel
theorem dX8_codeBits_43 : decode cX8_codeBits 43 = .ok (.iload_n 2, 1) := by decide +kernel
theorem dX8_codeBits_44 : decode cX8_codeBits 44 = .ok (.iaload, 1) := by decide +kernel
theorem dX8_codeBits_45 : decode cX8_codeBits 45 = .ok (.ifCond .ne 7, 3) := by decide +kernel
theorem dX8_codeBits_48 : decode cX8_codeBits 48 = .ok (.iconst 4, 1) := by decide +kernel
theorem dX8_codeBits_49 : decode cX8_codeBits 49 = .ok (.goto 66, 3) := by decide +kernel
theorem dX8_codeBits_52 : decode cX8_codeBits 52 = .ok (.aload_n 0, 1) := by decide +kernel
theorem dX8_codeBits_53 : decode cX8_codeBits 53 = .ok (.getfield 32, 3) := by decide +kernel
theorem dX8_codeBits_56 : decode cX8_codeBits 56 = .ok (.iload_n 2, 1) := by decide +kernel
theorem dX8_codeBits_57 : decode cX8_codeBits 57 = .ok (.iaload, 1) := by decide +kernel
theorem dX8_codeBits_58 : decode cX8_codeBits 58 = .ok (.iconst 2, 1) := by decide +kernel
theorem dX8_codeBits_59 : decode cX8_codeBits 59 = .ok (.if_icmp .ne 27, 3) := by decide +kernel
theorem dX8_codeBits_62 : decode cX8_codeBits 62 = .ok (.iconst 3, 1) := by decide +kernel
theorem dX8_codeBits_63 : decode cX8_codeBits 63 = .ok (.aload_n 0, 1) := by decide +kernel
theorem dX8_codeBits_64 : decode cX8_codeBits 64 = .ok (.getfield 35, 3) := by decide +kernel
theorem dX8_codeBits_67 : decode cX8_codeBits 67 = .ok (.iload_n 2, 1) := by decide +kernel
theorem dX8_codeBits_68 : decode cX8_codeBits 68 = .ok (.iaload, 1) := by decide +kernel
theorem dX8_codeBits_69 : decode cX8_codeBits 69 = .ok (.invokestatic 132, 3) := by decide +kernel
theorem dX8_codeBits_72 : decode cX8_codeBits 72 = .ok (.iadd, 1) := by decide +kernel
theorem dX8_codeBits_73 : decode cX8_codeBits 73 = .ok (.aload_n 0, 1) := by decide +kernel
theorem dX8_codeBits_74 : decode cX8_codeBits 74 = .ok (.getfield 38, 3) := by decide +kernel
theorem dX8_codeBits_77 : decode cX8_codeBits 77 = .ok (.iload_n 2, 1) := by decide +kernel
theorem dX8_codeBits_78 : decode cX8_codeBits 78 = .ok (.iaload, 1) := by decide +kernel
theorem dX8_codeBits_79 : decode cX8_codeBits 79 = .ok (.invokestatic 132, 3) := by decide +kernel
theorem dX8_codeBits_82 : decode cX8_codeBits 82 = .ok (.iadd, 1) := by decide +kernel
theorem dX8_codeBits_83 : decode cX8_codeBits 83 = .ok (.goto 32, 3) := by decide +kernel
theorem dX8_codeBits_86 : decode cX8_codeBits 86 = .ok (.iload_n 3, 1) := by decide +kernel
theorem dX8_codeBits_87 : decode cX8_codeBits 87 = .ok (.ifCond .ne 7, 3) := by decide +kernel
theorem dX8_codeBits_90 : decode cX8_codeBits 90 = .ok (.iconst 1, 1) := by decide +kernel
theorem dX8_codeBits_91 : decode cX8_codeBits 91 = .ok (.goto 24, 3) := by decide +kernel
theorem dX8_codeBits_94 : decode cX8_codeBits 94 = .ok (.iload_n 3, 1) := by decide +kernel
theorem dX8_codeBits_95 : decode cX8_codeBits 95 = .ok (.iconst 1, 1) := by decide +kernel
theorem dX8_codeBits_96 : decode cX8_codeBits 96 = .ok (.if_icmp .ne 7, 3) := by decide +kernel
theorem dX8_codeBits_99 : decode cX8_codeBits 99 = .ok (.iconst 3, 1) := by decide +kernel
theorem dX8_codeBits_100 : decode cX8_codeBits 100 = .ok (.goto 15, 3) := by decide +kernel
theorem dX8_codeBits_103 : decode cX8_codeBits 103 = .ok (.iload_n 3, 1) := by decide +kernel
theorem dX8_codeBits_104 : decode cX8_codeBits 104 = .ok (.iconst 2, 1) := by decide +kernel
theorem dX8_codeBits_105 : decode cX8_codeBits 105 = .ok (.if_icmp .ne 8, 3) := by decide +kernel
theorem dX8_codeBits_108 : decode cX8_codeBits 108 = .ok (.bipush 6, 2) := by decide +kernel
theorem dX8_codeBits_110 : decode cX8_codeBits 110 = .ok (.goto 5, 3) := by decide +kernel
theorem dX8_codeBits_113 : decode cX8_codeBits 113 = .ok (.bipush 7, 2) := by decide +kernel
theorem dX8_codeBits_115 : decode cX8_codeBits 115 = .ok (.iadd, 1) := by decide +kernel
theorem dX8_codeBits_116 : decode cX8_codeBits 116 = .ok (.istore_n 1, 1) := by decide +kernel
theorem dX8_codeBits_117 : decode cX8_codeBits 117 = .ok (.iinc 2 1, 3) := by decide +kernel
theorem dX8_codeBits_120 : decode cX8_codeBits 120 = .ok (.goto (-116), 3) := by decide +kernel
theorem dX8_codeBits_123 : decode cX8_codeBits 123 = .ok (.iload_n 1, 1) := by decide +kernel
theorem dX8_codeBits_124 : decode cX8_codeBits 124 = .ok (.ireturn, 1) := by decide +kernel
theorem dX8_startsReading_0 : decode cX8_startsReading 0 = .ok (.aload_n 0, 1) := by decide +kernel
theorem dX8_startsReading_1 : decode cX8_startsReading 1 = .ok (.iconst (-1), 1) := by decide +kernel
theorem dX8_startsReading_2 : decode cX8_startsReading 2 = .ok (.putfield 135, 3) := by decide +kernel
theorem dX8_startsReading_5 : decode cX8_startsReading 5 = .ok (.aload_n 0, 1) := by decide +kernel
theorem dX8_startsReading_6 : decode cX8_startsReading 6 = .ok (.iconst 0, 1) := by decide +kernel
theorem dX8_startsReading_7 : decode cX8_startsReading 7 = .ok (.putfield 138, 3) := by decide +kernel
theorem dX8_startsReading_10 : decode cX8_startsReading 10 = .ok (.iconst 0, 1) := by decide +kernel
theorem dX8_startsReading_11 : decode cX8_startsReading 11 = .ok (.istore_n 1, 1) := by decide +kernel
theorem dX8_startsReading_12 : decode cX8_startsReading 12 = .ok (.iload_n 1, 1) := by decide +kernel
theorem dX8_startsReading_13 : decode cX8_startsReading 13 = .ok (.bipush 40, 2) := by decide +kernel
theorem dX8_startsReading_15 : decode cX8_startsReading 15 = .ok (.if_icmp .ge 16, 3) := by decide +kernel
theorem dX8_startsReading_18 : decode cX8_startsReading 18 = .ok (.aload_n 0, 1) := by decide +kernel
theorem dX8_startsReading_19 : decode cX8_startsReading 19 = .ok (.getfield 44, 3) := by decide +kernel
theorem dX8_startsReading_22 : decode cX8_startsReading 22 = .ok (.iload_n 1, 1) := by decide +kernel
theorem dX8_startsReading_23 : decode cX8_startsReading 23 = .ok (.iconst 0, 1) := by decide +kernel
theorem dX8_startsReading_24 : decode cX8_startsReading 24 = .ok (.iastore, 1) := by decide +kernel
theorem dX8_startsReading_25 : decode cX8_startsReading 25 = .ok (.iinc 1 1, 3) := by decide +kernel
theorem dX8_startsReading_28 : decode cX8_startsReading 28 = .ok (.goto (-16), 3) := by decide +kernel
theorem dX8_startsReading_31 : decode cX8_startsReading 31 = .ok (.return_, 1) := by decide +kernel
theorem dX8_paints_0 : decode cX8_paints 0 = .ok (.iload_n 1, 1) := by decide +kernel
theorem dX8_paints_1 : decode cX8_paints 1 = .ok (.istore 4, 2) := by decide +kernel
theorem dX8_paints_3 : decode cX8_paints 3 = .ok (.iload 4, 2) := by decide +kernel
theorem dX8_paints_5 : decode cX8_paints 5 = .ok (.iload_n 2, 1) := by decide +kernel
theorem dX8_paints_6 : decode cX8_paints 6 = .ok (.if_icmp .ge 17, 3) := by decide +kernel
theorem dX8_paints_9 : decode cX8_paints 9 = .ok (.aload_n 0, 1) := by decide +kernel
theorem dX8_paints_10 : decode cX8_paints 10 = .ok (.getfield 44, 3) := by decide +kernel
theorem dX8_paints_13 : decode cX8_paints 13 = .ok (.iload 4, 2) := by decide +kernel
theorem dX8_paints_15 : decode cX8_paints 15 = .ok (.iload_n 3, 1) := by decide +kernel
theorem dX8_paints_16 : decode cX8_paints 16 = .ok (.iastore, 1) := by decide +kernel
theorem dX8_paints_17 : decode cX8_paints 17 = .ok (.iinc 4 1, 3) := by decide +kernel
theorem dX8_paints_20 : decode cX8_paints 20 = .ok (.goto (-17), 3) := by decide +kernel
theorem dX8_paints_23 : decode cX8_paints 23 = .ok (.return_, 1) := by decide +kernel
theorem dX8_readsMode_0 : decode cX8_readsMode 0 = .ok (.aload_n 0, 1) := by decide +kernel
theorem dX8_readsMode_1 : decode cX8_readsMode 1 = .ok (.getfield 135, 3) := by decide +kernel
theorem dX8_readsMode_4 : decode cX8_readsMode 4 = .ok (.aload_n 0, 1) := by decide +kernel
theorem dX8_readsMode_5 : decode cX8_readsMode 5 = .ok (.getfield 93, 3) := by decide +kernel
theorem dX8_readsMode_8 : decode cX8_readsMode 8 = .ok (.if_icmp .ne 5, 3) := by decide +kernel
theorem dX8_readsMode_11 : decode cX8_readsMode 11 = .ok (.iconst 0, 1) := by decide +kernel
theorem dX8_readsMode_12 : decode cX8_readsMode 12 = .ok (.ireturn, 1) := by decide +kernel
theorem dX8_readsMode_13 : decode cX8_readsMode 13 = .ok (.aload_n 0, 1) := by decide +kernel
theorem dX8_readsMode_14 : decode cX8_readsMode 14 = .ok (.getfield 135, 3) := by decide +kernel
theorem dX8_readsMode_17 : decode cX8_readsMode 17 = .ok (.invokestatic 128, 3) := by decide +kernel
theorem dX8_readsMode_20 : decode cX8_readsMode 20 = .ok (.istore 4, 2) := by decide +kernel
theorem dX8_readsMode_22 : decode cX8_readsMode 22 = .ok (.aload_n 0, 1) := by decide +kernel
theorem dX8_readsMode_23 : decode cX8_readsMode 23 = .ok (.aload_n 0, 1) := by decide +kernel
theorem dX8_readsMode_24 : decode cX8_readsMode 24 = .ok (.getfield 135, 3) := by decide +kernel
theorem dX8_readsMode_27 : decode cX8_readsMode 27 = .ok (.aload_n 0, 1) := by decide +kernel
theorem dX8_readsMode_28 : decode cX8_readsMode 28 = .ok (.getfield 138, 3) := by decide +kernel
theorem dX8_readsMode_31 : decode cX8_readsMode 31 = .ok (.invokevirtual 117, 3) := by decide +kernel
theorem dX8_readsMode_34 : decode cX8_readsMode 34 = .ok (.istore 5, 2) := by decide +kernel
theorem dX8_readsMode_36 : decode cX8_readsMode 36 = .ok (.iload_n 1, 1) := by decide +kernel
theorem dX8_readsMode_37 : decode cX8_readsMode 37 = .ok (.ifCond .ne 48, 3) := by decide +kernel
theorem dX8_readsMode_40 : decode cX8_readsMode 40 = .ok (.iload 5, 2) := by decide +kernel
theorem dX8_readsMode_42 : decode cX8_readsMode 42 = .ok (.aload_n 0, 1) := by decide +kernel
theorem dX8_readsMode_43 : decode cX8_readsMode 43 = .ok (.getfield 93, 3) := by decide +kernel
theorem dX8_readsMode_46 : decode cX8_readsMode 46 = .ok (.if_icmp .ne 10, 3) := by decide +kernel
theorem dX8_readsMode_49 : decode cX8_readsMode 49 = .ok (.aload_n 0, 1) := by decide +kernel
theorem dX8_readsMode_50 : decode cX8_readsMode 50 = .ok (.getfield 93, 3) := by decide +kernel
theorem dX8_readsMode_53 : decode cX8_readsMode 53 = .ok (.goto 10, 3) := by decide +kernel
theorem dX8_readsMode_56 : decode cX8_readsMode 56 = .ok (.aload_n 0, 1) := by decide +kernel
theorem dX8_readsMode_57 : decode cX8_readsMode 57 = .ok (.iload 5, 2) := by decide +kernel
theorem dX8_readsMode_59 : decode cX8_readsMode 59 = .ok (.iconst 2, 1) := by decide +kernel
theorem dX8_readsMode_60 : decode cX8_readsMode 60 = .ok (.invokevirtual 117, 3) := by decide +kernel
theorem dX8_readsMode_63 : decode cX8_readsMode 63 = .ok (.istore 6, 2) := by decide +kernel
theorem dX8_readsMode_65 : decode cX8_readsMode 65 = .ok (.aload_n 0, 1) := by decide +kernel
theorem dX8_readsMode_66 : decode cX8_readsMode 66 = .ok (.iload 4, 2) := by decide +kernel
theorem dX8_readsMode_68 : decode cX8_readsMode 68 = .ok (.iload 6, 2) := by decide +kernel
theorem dX8_readsMode_70 : decode cX8_readsMode 70 = .ok (.aload_n 0, 1) := by decide +kernel
theorem dX8_readsMode_71 : decode cX8_readsMode 71 = .ok (.getfield 138, 3) := by decide +kernel
theorem dX8_readsMode_74 : decode cX8_readsMode 74 = .ok (.invokevirtual 141, 3) := by decide +kernel
theorem dX8_readsMode_77 : decode cX8_readsMode 77 = .ok (.aload_n 0, 1) := by decide +kernel
theorem dX8_readsMode_78 : decode cX8_readsMode 78 = .ok (.iload 6, 2) := by decide +kernel
theorem dX8_readsMode_80 : decode cX8_readsMode 80 = .ok (.putfield 135, 3) := by decide +kernel
theorem dX8_readsMode_83 : decode cX8_readsMode 83 = .ok (.iconst 1, 1) := by decide +kernel
theorem dX8_readsMode_84 : decode cX8_readsMode 84 = .ok (.ireturn, 1) := by decide +kernel
theorem dX8_readsMode_85 : decode cX8_readsMode 85 = .ok (.iload_n 1, 1) := by decide +kernel
theorem dX8_readsMode_86 : decode cX8_readsMode 86 = .ok (.iconst 1, 1) := by decide +kernel
theorem dX8_readsMode_87 : decode cX8_readsMode 87 = .ok (.if_icmp .ne 10, 3) := by decide +kernel
theorem dX8_readsMode_90 : decode cX8_readsMode 90 = .ok (.iload 5, 2) := by decide +kernel
theorem dX8_readsMode_92 : decode cX8_readsMode 92 = .ok (.iload_n 2, 1) := by decide +kernel
theorem dX8_readsMode_93 : decode cX8_readsMode 93 = .ok (.iadd, 1) := by decide +kernel
theorem dX8_readsMode_94 : decode cX8_readsMode 94 = .ok (.goto 7, 3) := by decide +kernel
theorem dX8_readsMode_97 : decode cX8_readsMode 97 = .ok (.iload 4, 2) := by decide +kernel
theorem dX8_readsMode_99 : decode cX8_readsMode 99 = .ok (.iload_n 2, 1) := by decide +kernel
theorem dX8_readsMode_100 : decode cX8_readsMode 100 = .ok (.iadd, 1) := by decide +kernel
theorem dX8_readsMode_101 : decode cX8_readsMode 101 = .ok (.istore 6, 2) := by decide +kernel
theorem dX8_readsMode_103 : decode cX8_readsMode 103 = .ok (.iload_n 1, 1) := by decide +kernel
theorem dX8_readsMode_104 : decode cX8_readsMode 104 = .ok (.iconst 1, 1) := by decide +kernel
theorem dX8_readsMode_105 : decode cX8_readsMode 105 = .ok (.if_icmp .ne 8, 3) := by decide +kernel
theorem dX8_readsMode_108 : decode cX8_readsMode 108 = .ok (.iload 6, 2) := by decide +kernel
theorem dX8_readsMode_110 : decode cX8_readsMode 110 = .ok (.goto 7, 3) := by decide +kernel
theorem dX8_readsMode_113 : decode cX8_readsMode 113 = .ok (.iload 6, 2) := by decide +kernel
theorem dX8_readsMode_115 : decode cX8_readsMode 115 = .ok (.iload_n 3, 1) := by decide +kernel
theorem dX8_readsMode_116 : decode cX8_readsMode 116 = .ok (.iadd, 1) := by decide +kernel
theorem dX8_readsMode_117 : decode cX8_readsMode 117 = .ok (.istore 7, 2) := by decide +kernel
theorem dX8_readsMode_119 : decode cX8_readsMode 119 = .ok (.iload 7, 2) := by decide +kernel
theorem dX8_readsMode_121 : decode cX8_readsMode 121 = .ok (.aload_n 0, 1) := by decide +kernel
theorem dX8_readsMode_122 : decode cX8_readsMode 122 = .ok (.getfield 135, 3) := by decide +kernel
theorem dX8_readsMode_125 : decode cX8_readsMode 125 = .ok (.if_icmp .le 12, 3) := by decide +kernel
theorem dX8_readsMode_128 : decode cX8_readsMode 128 = .ok (.iload 7, 2) := by decide +kernel
theorem dX8_readsMode_130 : decode cX8_readsMode 130 = .ok (.aload_n 0, 1) := by decide +kernel
theorem dX8_readsMode_131 : decode cX8_readsMode 131 = .ok (.getfield 93, 3) := by decide +kernel
theorem dX8_readsMode_134 : decode cX8_readsMode 134 = .ok (.if_icmp .le 5, 3) := by decide +kernel
theorem dX8_readsMode_137 : decode cX8_readsMode 137 = .ok (.iconst 0, 1) := by decide +kernel
theorem dX8_readsMode_138 : decode cX8_readsMode 138 = .ok (.ireturn, 1) := by decide +kernel
theorem dX8_readsMode_139 : decode cX8_readsMode 139 = .ok (.aload_n 0, 1) := by decide +kernel
theorem dX8_readsMode_140 : decode cX8_readsMode 140 = .ok (.iload 4, 2) := by decide +kernel
theorem dX8_readsMode_142 : decode cX8_readsMode 142 = .ok (.iload 6, 2) := by decide +kernel
theorem dX8_readsMode_144 : decode cX8_readsMode 144 = .ok (.aload_n 0, 1) := by decide +kernel
theorem dX8_readsMode_145 : decode cX8_readsMode 145 = .ok (.getfield 138, 3) := by decide +kernel
theorem dX8_readsMode_148 : decode cX8_readsMode 148 = .ok (.invokevirtual 141, 3) := by decide +kernel
theorem dX8_readsMode_151 : decode cX8_readsMode 151 = .ok (.aload_n 0, 1) := by decide +kernel
theorem dX8_readsMode_152 : decode cX8_readsMode 152 = .ok (.iload 6, 2) := by decide +kernel
theorem dX8_readsMode_154 : decode cX8_readsMode 154 = .ok (.iload 7, 2) := by decide +kernel
theorem dX8_readsMode_156 : decode cX8_readsMode 156 = .ok (.iconst 1, 1) := by decide +kernel
theorem dX8_readsMode_157 : decode cX8_readsMode 157 = .ok (.aload_n 0, 1) := by decide +kernel
theorem dX8_readsMode_158 : decode cX8_readsMode 158 = .ok (.getfield 138, 3) := by decide +kernel
theorem dX8_readsMode_161 : decode cX8_readsMode 161 = .ok (.isub, 1) := by decide +kernel
theorem dX8_readsMode_162 : decode cX8_readsMode 162 = .ok (.invokevirtual 141, 3) := by decide +kernel
theorem dX8_readsMode_165 : decode cX8_readsMode 165 = .ok (.aload_n 0, 1) := by decide +kernel
theorem dX8_readsMode_166 : decode cX8_readsMode 166 = .ok (.iload 7, 2) := by decide +kernel
theorem dX8_readsMode_168 : decode cX8_readsMode 168 = .ok (.putfield 135, 3) := by decide +kernel
theorem dX8_readsMode_171 : decode cX8_readsMode 171 = .ok (.aload_n 0, 1) := by decide +kernel
theorem dX8_readsMode_172 : decode cX8_readsMode 172 = .ok (.iload_n 1, 1) := by decide +kernel
theorem dX8_readsMode_173 : decode cX8_readsMode 173 = .ok (.iconst 1, 1) := by decide +kernel
theorem dX8_readsMode_174 : decode cX8_readsMode 174 = .ok (.if_icmp .ne 12, 3) := by decide +kernel
theorem dX8_readsMode_177 : decode cX8_readsMode 177 = .ok (.iconst 1, 1) := by decide +kernel
theorem dX8_readsMode_178 : decode cX8_readsMode 178 = .ok (.aload_n 0, 1) := by decide +kernel
theorem dX8_readsMode_179 : decode cX8_readsMode 179 = .ok (.getfield 138, 3) := by decide +kernel
theorem dX8_readsMode_182 : decode cX8_readsMode 182 = .ok (.isub, 1) := by decide +kernel
theorem dX8_readsMode_183 : decode cX8_readsMode 183 = .ok (.goto 7, 3) := by decide +kernel
theorem dX8_readsMode_186 : decode cX8_readsMode 186 = .ok (.aload_n 0, 1) := by decide +kernel
theorem dX8_readsMode_187 : decode cX8_readsMode 187 = .ok (.getfield 138, 3) := by decide +kernel
theorem dX8_readsMode_190 : decode cX8_readsMode 190 = .ok (.putfield 138, 3) := by decide +kernel
theorem dX8_readsMode_193 : decode cX8_readsMode 193 = .ok (.iconst 1, 1) := by decide +kernel
theorem dX8_readsMode_194 : decode cX8_readsMode 194 = .ok (.ireturn, 1) := by decide +kernel
theorem dX8_readsCode_0 : decode cX8_readsCode 0 = .ok (.aload_n 0, 1) := by decide +kernel
theorem dX8_readsCode_1 : decode cX8_readsCode 1 = .ok (.invokevirtual 145, 3) := by decide +kernel
theorem dX8_readsCode_4 : decode cX8_readsCode 4 = .ok (.iconst 1, 1) := by decide +kernel
theorem dX8_readsCode_5 : decode cX8_readsCode 5 = .ok (.istore_n 1, 1) := by decide +kernel
theorem dX8_readsCode_6 : decode cX8_readsCode 6 = .ok (.iconst 0, 1) := by decide +kernel
theorem dX8_readsCode_7 : decode cX8_readsCode 7 = .ok (.istore_n 2, 1) := by decide +kernel
theorem dX8_readsCode_8 : decode cX8_readsCode 8 = .ok (.iload_n 2, 1) := by decide +kernel
theorem dX8_readsCode_9 : decode cX8_readsCode 9 = .ok (.aload_n 0, 1) := by decide +kernel
theorem dX8_readsCode_10 : decode cX8_readsCode 10 = .ok (.getfield 111, 3) := by decide +kernel
theorem dX8_readsCode_13 : decode cX8_readsCode 13 = .ok (.if_icmp .ge 36, 3) := by decide +kernel
theorem dX8_readsCode_16 : decode cX8_readsCode 16 = .ok (.iload_n 1, 1) := by decide +kernel
theorem dX8_readsCode_17 : decode cX8_readsCode 17 = .ok (.ifCond .eq 32, 3) := by decide +kernel
theorem dX8_readsCode_20 : decode cX8_readsCode 20 = .ok (.aload_n 0, 1) := by decide +kernel
theorem dX8_readsCode_21 : decode cX8_readsCode 21 = .ok (.aload_n 0, 1) := by decide +kernel
theorem dX8_readsCode_22 : decode cX8_readsCode 22 = .ok (.getfield 32, 3) := by decide +kernel
theorem dX8_readsCode_25 : decode cX8_readsCode 25 = .ok (.iload_n 2, 1) := by decide +kernel
theorem dX8_readsCode_26 : decode cX8_readsCode 26 = .ok (.iaload, 1) := by decide +kernel
theorem dX8_readsCode_27 : decode cX8_readsCode 27 = .ok (.aload_n 0, 1) := by decide +kernel
theorem dX8_readsCode_28 : decode cX8_readsCode 28 = .ok (.getfield 35, 3) := by decide +kernel
theorem dX8_readsCode_31 : decode cX8_readsCode 31 = .ok (.iload_n 2, 1) := by decide +kernel
theorem dX8_readsCode_32 : decode cX8_readsCode 32 = .ok (.iaload, 1) := by decide +kernel
theorem dX8_readsCode_33 : decode cX8_readsCode 33 = .ok (.aload_n 0, 1) := by decide +kernel
theorem dX8_readsCode_34 : decode cX8_readsCode 34 = .ok (.getfield 38, 3) := by decide +kernel
theorem dX8_readsCode_37 : decode cX8_readsCode 37 = .ok (.iload_n 2, 1) := by decide +kernel
theorem dX8_readsCode_38 : decode cX8_readsCode 38 = .ok (.iaload, 1) := by decide +kernel
theorem dX8_readsCode_39 : decode cX8_readsCode 39 = .ok (.invokevirtual 148, 3) := by decide +kernel
theorem dX8_readsCode_42 : decode cX8_readsCode 42 = .ok (.istore_n 1, 1) := by decide +kernel
theorem dX8_readsCode_43 : decode cX8_readsCode 43 = .ok (.iinc 2 1, 3) := by decide +kernel
theorem dX8_readsCode_46 : decode cX8_readsCode 46 = .ok (.goto (-38), 3) := by decide +kernel
theorem dX8_readsCode_49 : decode cX8_readsCode 49 = .ok (.iload_n 1, 1) := by decide +kernel
theorem dX8_readsCode_50 : decode cX8_readsCode 50 = .ok (.ifCond .eq 18, 3) := by decide +kernel
theorem dX8_readsCode_53 : decode cX8_readsCode 53 = .ok (.aload_n 0, 1) := by decide +kernel
theorem dX8_readsCode_54 : decode cX8_readsCode 54 = .ok (.getfield 135, 3) := by decide +kernel
theorem dX8_readsCode_57 : decode cX8_readsCode 57 = .ok (.aload_n 0, 1) := by decide +kernel
theorem dX8_readsCode_58 : decode cX8_readsCode 58 = .ok (.getfield 93, 3) := by decide +kernel
theorem dX8_readsCode_61 : decode cX8_readsCode 61 = .ok (.if_icmp .ne 7, 3) := by decide +kernel
theorem dX8_readsCode_64 : decode cX8_readsCode 64 = .ok (.iconst 1, 1) := by decide +kernel
theorem dX8_readsCode_65 : decode cX8_readsCode 65 = .ok (.goto 4, 3) := by decide +kernel
theorem dX8_readsCode_68 : decode cX8_readsCode 68 = .ok (.iconst 0, 1) := by decide +kernel
theorem dX8_readsCode_69 : decode cX8_readsCode 69 = .ok (.ireturn, 1) := by decide +kernel
theorem dX8_codesAlone_0 : decode cX8_codesAlone 0 = .ok (.aload_n 0, 1) := by decide +kernel
theorem dX8_codesAlone_1 : decode cX8_codesAlone 1 = .ok (.iconst 0, 1) := by decide +kernel
theorem dX8_codesAlone_2 : decode cX8_codesAlone 2 = .ok (.putfield 151, 3) := by decide +kernel
theorem dX8_codesAlone_5 : decode cX8_codesAlone 5 = .ok (.iconst 0, 1) := by decide +kernel
theorem dX8_codesAlone_6 : decode cX8_codesAlone 6 = .ok (.istore_n 1, 1) := by decide +kernel
theorem dX8_codesAlone_7 : decode cX8_codesAlone 7 = .ok (.iconst 0, 1) := by decide +kernel
theorem dX8_codesAlone_8 : decode cX8_codesAlone 8 = .ok (.istore_n 2, 1) := by decide +kernel
theorem dX8_codesAlone_9 : decode cX8_codesAlone 9 = .ok (.iload_n 2, 1) := by decide +kernel
theorem dX8_codesAlone_10 : decode cX8_codesAlone 10 = .ok (.aload_n 0, 1) := by decide +kernel
theorem dX8_codesAlone_11 : decode cX8_codesAlone 11 = .ok (.getfield 93, 3) := by decide +kernel
theorem dX8_codesAlone_14 : decode cX8_codesAlone 14 = .ok (.if_icmp .lt 10, 3) := by decide +kernel
theorem dX8_codesAlone_17 : decode cX8_codesAlone 17 = .ok (.aload_n 0, 1) := by decide +kernel
theorem dX8_codesAlone_18 : decode cX8_codesAlone 18 = .ok (.getfield 151, 3) := by decide +kernel
theorem dX8_codesAlone_21 : decode cX8_codesAlone 21 = .ok (.ifCond .ne 60, 3) := by decide +kernel
theorem dX8_codesAlone_24 : decode cX8_codesAlone 24 = .ok (.iload_n 2, 1) := by decide +kernel
theorem dX8_codesAlone_25 : decode cX8_codesAlone 25 = .ok (.istore_n 3, 1) := by decide +kernel
theorem dX8_codesAlone_26 : decode cX8_codesAlone 26 = .ok (.iload_n 3, 1) := by decide +kernel
theorem dX8_codesAlone_27 : decode cX8_codesAlone 27 = .ok (.aload_n 0, 1) := by decide +kernel
theorem dX8_codesAlone_28 : decode cX8_codesAlone 28 = .ok (.getfield 93, 3) := by decide +kernel
theorem dX8_codesAlone_31 : decode cX8_codesAlone 31 = .ok (.if_icmp .ge 19, 3) := by decide +kernel
theorem dX8_codesAlone_34 : decode cX8_codesAlone 34 = .ok (.aload_n 0, 1) := by decide +kernel
theorem dX8_codesAlone_35 : decode cX8_codesAlone 35 = .ok (.getfield 29, 3) := by decide +kernel
theorem dX8_codesAlone_38 : decode cX8_codesAlone 38 = .ok (.iload_n 3, 1) := by decide +kernel
theorem dX8_codesAlone_39 : decode cX8_codesAlone 39 = .ok (.iaload, 1) := by decide +kernel
theorem dX8_codesAlone_40 : decode cX8_codesAlone 40 = .ok (.iload_n 1, 1) := by decide +kernel
theorem dX8_codesAlone_41 : decode cX8_codesAlone 41 = .ok (.if_icmp .ne 9, 3) := by decide +kernel
theorem dX8_codesAlone_44 : decode cX8_codesAlone 44 = .ok (.iinc 3 1, 3) := by decide +kernel
theorem dX8_codesAlone_47 : decode cX8_codesAlone 47 = .ok (.goto (-21), 3) := by decide +kernel
theorem dX8_codesAlone_50 : decode cX8_codesAlone 50 = .ok (.aload_n 0, 1) := by decide +kernel
theorem dX8_codesAlone_51 : decode cX8_codesAlone 51 = .ok (.getfield 47, 3) := by decide +kernel
theorem dX8_codesAlone_54 : decode cX8_codesAlone 54 = .ok (.aload_n 0, 1) := by decide +kernel
theorem dX8_codesAlone_55 : decode cX8_codesAlone 55 = .ok (.getfield 151, 3) := by decide +kernel
theorem dX8_codesAlone_58 : decode cX8_codesAlone 58 = .ok (.iload_n 3, 1) := by decide +kernel
theorem dX8_codesAlone_59 : decode cX8_codesAlone 59 = .ok (.iload_n 2, 1) := by decide +kernel
theorem dX8_codesAlone_60 : decode cX8_codesAlone 60 = .ok (.isub, 1) := by decide +kernel
theorem dX8_codesAlone_61 : decode cX8_codesAlone 61 = .ok (.iastore, 1) := by decide +kernel
theorem dX8_codesAlone_62 : decode cX8_codesAlone 62 = .ok (.aload_n 0, 1) := by decide +kernel
theorem dX8_codesAlone_63 : decode cX8_codesAlone 63 = .ok (.dup, 1) := by decide +kernel
theorem dX8_codesAlone_64 : decode cX8_codesAlone 64 = .ok (.getfield 151, 3) := by decide +kernel
theorem dX8_codesAlone_67 : decode cX8_codesAlone 67 = .ok (.iconst 1, 1) := by decide +kernel
theorem dX8_codesAlone_68 : decode cX8_codesAlone 68 = .ok (.iadd, 1) := by decide +kernel
theorem dX8_codesAlone_69 : decode cX8_codesAlone 69 = .ok (.putfield 151, 3) := by decide +kernel
theorem dX8_codesAlone_72 : decode cX8_codesAlone 72 = .ok (.iload_n 3, 1) := by decide +kernel
theorem dX8_codesAlone_73 : decode cX8_codesAlone 73 = .ok (.istore_n 2, 1) := by decide +kernel
theorem dX8_codesAlone_74 : decode cX8_codesAlone 74 = .ok (.iconst 1, 1) := by decide +kernel
theorem dX8_codesAlone_75 : decode cX8_codesAlone 75 = .ok (.iload_n 1, 1) := by decide +kernel
theorem dX8_codesAlone_76 : decode cX8_codesAlone 76 = .ok (.isub, 1) := by decide +kernel
theorem dX8_codesAlone_77 : decode cX8_codesAlone 77 = .ok (.istore_n 1, 1) := by decide +kernel
theorem dX8_codesAlone_78 : decode cX8_codesAlone 78 = .ok (.goto (-69), 3) := by decide +kernel
theorem dX8_codesAlone_81 : decode cX8_codesAlone 81 = .ok (.return_, 1) := by decide +kernel
theorem dX8_aloneBits_0 : decode cX8_aloneBits 0 = .ok (.iconst 0, 1) := by decide +kernel
theorem dX8_aloneBits_1 : decode cX8_aloneBits 1 = .ok (.istore_n 1, 1) := by decide +kernel
theorem dX8_aloneBits_2 : decode cX8_aloneBits 2 = .ok (.iconst 0, 1) := by decide +kernel
theorem dX8_aloneBits_3 : decode cX8_aloneBits 3 = .ok (.istore_n 2, 1) := by decide +kernel
theorem dX8_aloneBits_4 : decode cX8_aloneBits 4 = .ok (.iload_n 2, 1) := by decide +kernel
theorem dX8_aloneBits_5 : decode cX8_aloneBits 5 = .ok (.aload_n 0, 1) := by decide +kernel
theorem dX8_aloneBits_6 : decode cX8_aloneBits 6 = .ok (.getfield 151, 3) := by decide +kernel
theorem dX8_aloneBits_9 : decode cX8_aloneBits 9 = .ok (.if_icmp .ge 21, 3) := by decide +kernel
theorem dX8_aloneBits_12 : decode cX8_aloneBits 12 = .ok (.iload_n 1, 1) := by decide +kernel
theorem dX8_aloneBits_13 : decode cX8_aloneBits 13 = .ok (.aload_n 0, 1) := by decide +kernel
theorem dX8_aloneBits_14 : decode cX8_aloneBits 14 = .ok (.getfield 47, 3) := by decide +kernel
theorem dX8_aloneBits_17 : decode cX8_aloneBits 17 = .ok (.iload_n 2, 1) := by decide +kernel
theorem dX8_aloneBits_18 : decode cX8_aloneBits 18 = .ok (.iaload, 1) := by decide +kernel
theorem dX8_aloneBits_19 : decode cX8_aloneBits 19 = .ok (.invokestatic 132, 3) := by decide +kernel
theorem dX8_aloneBits_22 : decode cX8_aloneBits 22 = .ok (.iadd, 1) := by decide +kernel
theorem dX8_aloneBits_23 : decode cX8_aloneBits 23 = .ok (.istore_n 1, 1) := by decide +kernel
theorem dX8_aloneBits_24 : decode cX8_aloneBits 24 = .ok (.iinc 2 1, 3) := by decide +kernel
theorem dX8_aloneBits_27 : decode cX8_aloneBits 27 = .ok (.goto (-23), 3) := by decide +kernel
theorem dX8_aloneBits_30 : decode cX8_aloneBits 30 = .ok (.iload_n 1, 1) := by decide +kernel
theorem dX8_aloneBits_31 : decode cX8_aloneBits 31 = .ok (.ireturn, 1) := by decide +kernel
theorem dX8_codesLine_0 : decode cX8_codesLine 0 = .ok (.aload_n 0, 1) := by decide +kernel
theorem dX8_codesLine_1 : decode cX8_codesLine 1 = .ok (.iload_n 1, 1) := by decide +kernel
theorem dX8_codesLine_2 : decode cX8_codesLine 2 = .ok (.invokevirtual 154, 3) := by decide +kernel
theorem dX8_codesLine_5 : decode cX8_codesLine 5 = .ok (.aload_n 0, 1) := by decide +kernel
theorem dX8_codesLine_6 : decode cX8_codesLine 6 = .ok (.invokevirtual 157, 3) := by decide +kernel
theorem dX8_codesLine_9 : decode cX8_codesLine 9 = .ok (.aload_n 0, 1) := by decide +kernel
theorem dX8_codesLine_10 : decode cX8_codesLine 10 = .ok (.invokevirtual 160, 3) := by decide +kernel
theorem dX8_codesLine_13 : decode cX8_codesLine 13 = .ok (.return_, 1) := by decide +kernel
theorem dX8_isMark_0 : decode cX8_isMark 0 = .ok (.iload_n 1, 1) := by decide +kernel
theorem dX8_isMark_1 : decode cX8_isMark 1 = .ok (.aload_n 0, 1) := by decide +kernel
theorem dX8_isMark_2 : decode cX8_isMark 2 = .ok (.getfield 7, 3) := by decide +kernel
theorem dX8_isMark_5 : decode cX8_isMark 5 = .ok (.iconst 2, 1) := by decide +kernel
theorem dX8_isMark_6 : decode cX8_isMark 6 = .ok (.iaload, 1) := by decide +kernel
theorem dX8_isMark_7 : decode cX8_isMark 7 = .ok (.irem, 1) := by decide +kernel
theorem dX8_isMark_8 : decode cX8_isMark 8 = .ok (.ifCond .ne 5, 3) := by decide +kernel
theorem dX8_isMark_11 : decode cX8_isMark 11 = .ok (.iconst 1, 1) := by decide +kernel
theorem dX8_isMark_12 : decode cX8_isMark 12 = .ok (.ireturn, 1) := by decide +kernel
theorem dX8_isMark_13 : decode cX8_isMark 13 = .ok (.aload_n 0, 1) := by decide +kernel
theorem dX8_isMark_14 : decode cX8_isMark 14 = .ok (.iload_n 1, 1) := by decide +kernel
theorem dX8_isMark_15 : decode cX8_isMark 15 = .ok (.invokevirtual 163, 3) := by decide +kernel
theorem dX8_isMark_18 : decode cX8_isMark 18 = .ok (.aload_n 0, 1) := by decide +kernel
theorem dX8_isMark_19 : decode cX8_isMark 19 = .ok (.getfield 7, 3) := by decide +kernel
theorem dX8_isMark_22 : decode cX8_isMark 22 = .ok (.iconst 3, 1) := by decide +kernel
theorem dX8_isMark_23 : decode cX8_isMark 23 = .ok (.iaload, 1) := by decide +kernel
theorem dX8_isMark_24 : decode cX8_isMark 24 = .ok (.iconst 1, 1) := by decide +kernel
theorem dX8_isMark_25 : decode cX8_isMark 25 = .ok (.if_icmp .ne 18, 3) := by decide +kernel
theorem dX8_isMark_28 : decode cX8_isMark 28 = .ok (.aload_n 0, 1) := by decide +kernel
theorem dX8_isMark_29 : decode cX8_isMark 29 = .ok (.invokevirtual 166, 3) := by decide +kernel
theorem dX8_isMark_32 : decode cX8_isMark 32 = .ok (.aload_n 0, 1) := by decide +kernel
theorem dX8_isMark_33 : decode cX8_isMark 33 = .ok (.invokevirtual 170, 3) := by decide +kernel
theorem dX8_isMark_36 : decode cX8_isMark 36 = .ok (.if_icmp .ge 7, 3) := by decide +kernel
theorem dX8_isMark_39 : decode cX8_isMark 39 = .ok (.iconst 1, 1) := by decide +kernel
theorem dX8_isMark_40 : decode cX8_isMark 40 = .ok (.goto 4, 3) := by decide +kernel
theorem dX8_isMark_43 : decode cX8_isMark 43 = .ok (.iconst 0, 1) := by decide +kernel
theorem dX8_isMark_44 : decode cX8_isMark 44 = .ok (.ireturn, 1) := by decide +kernel
theorem dX8_sentBits_0 : decode cX8_sentBits 0 = .ok (.aload_n 0, 1) := by decide +kernel
theorem dX8_sentBits_1 : decode cX8_sentBits 1 = .ok (.iload_n 1, 1) := by decide +kernel
theorem dX8_sentBits_2 : decode cX8_sentBits 2 = .ok (.invokevirtual 173, 3) := by decide +kernel
theorem dX8_sentBits_5 : decode cX8_sentBits 5 = .ok (.istore_n 2, 1) := by decide +kernel
theorem dX8_sentBits_6 : decode cX8_sentBits 6 = .ok (.aload_n 0, 1) := by decide +kernel
theorem dX8_sentBits_7 : decode cX8_sentBits 7 = .ok (.iload_n 1, 1) := by decide +kernel
theorem dX8_sentBits_8 : decode cX8_sentBits 8 = .ok (.invokevirtual 163, 3) := by decide +kernel
theorem dX8_sentBits_11 : decode cX8_sentBits 11 = .ok (.iload_n 2, 1) := by decide +kernel
theorem dX8_sentBits_12 : decode cX8_sentBits 12 = .ok (.ifCond .eq 10, 3) := by decide +kernel
theorem dX8_sentBits_15 : decode cX8_sentBits 15 = .ok (.aload_n 0, 1) := by decide +kernel
theorem dX8_sentBits_16 : decode cX8_sentBits 16 = .ok (.invokevirtual 166, 3) := by decide +kernel
theorem dX8_sentBits_19 : decode cX8_sentBits 19 = .ok (.goto 7, 3) := by decide +kernel
theorem dX8_sentBits_22 : decode cX8_sentBits 22 = .ok (.aload_n 0, 1) := by decide +kernel
theorem dX8_sentBits_23 : decode cX8_sentBits 23 = .ok (.invokevirtual 170, 3) := by decide +kernel
theorem dX8_sentBits_26 : decode cX8_sentBits 26 = .ok (.ireturn, 1) := by decide +kernel
theorem dX8_markUpTo_0 : decode cX8_markUpTo 0 = .ok (.iload_n 1, 1) := by decide +kernel
theorem dX8_markUpTo_1 : decode cX8_markUpTo 1 = .ok (.istore_n 2, 1) := by decide +kernel
theorem dX8_markUpTo_2 : decode cX8_markUpTo 2 = .ok (.aload_n 0, 1) := by decide +kernel
theorem dX8_markUpTo_3 : decode cX8_markUpTo 3 = .ok (.iload_n 2, 1) := by decide +kernel
theorem dX8_markUpTo_4 : decode cX8_markUpTo 4 = .ok (.invokevirtual 173, 3) := by decide +kernel
theorem dX8_markUpTo_7 : decode cX8_markUpTo 7 = .ok (.ifCond .ne 9, 3) := by decide +kernel
theorem dX8_markUpTo_10 : decode cX8_markUpTo 10 = .ok (.iinc 2 (-1), 3) := by decide +kernel
theorem dX8_markUpTo_13 : decode cX8_markUpTo 13 = .ok (.goto (-11), 3) := by decide +kernel
theorem dX8_markUpTo_16 : decode cX8_markUpTo 16 = .ok (.iload_n 2, 1) := by decide +kernel
theorem dX8_markUpTo_17 : decode cX8_markUpTo 17 = .ok (.ireturn, 1) := by decide +kernel
theorem dX8_blacks_0 : decode cX8_blacks 0 = .ok (.iconst 0, 1) := by decide +kernel
theorem dX8_blacks_1 : decode cX8_blacks 1 = .ok (.istore_n 2, 1) := by decide +kernel
theorem dX8_blacks_2 : decode cX8_blacks 2 = .ok (.iconst 0, 1) := by decide +kernel
theorem dX8_blacks_3 : decode cX8_blacks 3 = .ok (.istore_n 3, 1) := by decide +kernel
theorem dX8_blacks_4 : decode cX8_blacks 4 = .ok (.iload_n 3, 1) := by decide +kernel
theorem dX8_blacks_5 : decode cX8_blacks 5 = .ok (.aload_n 0, 1) := by decide +kernel
theorem dX8_blacks_6 : decode cX8_blacks 6 = .ok (.getfield 7, 3) := by decide +kernel
theorem dX8_blacks_9 : decode cX8_blacks 9 = .ok (.iconst 0, 1) := by decide +kernel
theorem dX8_blacks_10 : decode cX8_blacks 10 = .ok (.iaload, 1) := by decide +kernel
theorem dX8_blacks_11 : decode cX8_blacks 11 = .ok (.if_icmp .ge 22, 3) := by decide +kernel
theorem dX8_blacks_14 : decode cX8_blacks 14 = .ok (.iload_n 2, 1) := by decide +kernel
theorem dX8_blacks_15 : decode cX8_blacks 15 = .ok (.aload_n 0, 1) := by decide +kernel
theorem dX8_blacks_16 : decode cX8_blacks 16 = .ok (.getfield 7, 3) := by decide +kernel
theorem dX8_blacks_19 : decode cX8_blacks 19 = .ok (.iload_n 1, 1) := by decide +kernel
theorem dX8_blacks_20 : decode cX8_blacks 20 = .ok (.iload_n 3, 1) := by decide +kernel
theorem dX8_blacks_21 : decode cX8_blacks 21 = .ok (.invokestatic 96, 3) := by decide +kernel
theorem dX8_blacks_24 : decode cX8_blacks 24 = .ok (.iaload, 1) := by decide +kernel
theorem dX8_blacks_25 : decode cX8_blacks 25 = .ok (.iadd, 1) := by decide +kernel
theorem dX8_blacks_26 : decode cX8_blacks 26 = .ok (.istore_n 2, 1) := by decide +kernel
theorem dX8_blacks_27 : decode cX8_blacks 27 = .ok (.iinc 3 1, 3) := by decide +kernel
theorem dX8_blacks_30 : decode cX8_blacks 30 = .ok (.goto (-26), 3) := by decide +kernel
theorem dX8_blacks_33 : decode cX8_blacks 33 = .ok (.iload_n 2, 1) := by decide +kernel
theorem dX8_blacks_34 : decode cX8_blacks 34 = .ok (.ireturn, 1) := by decide +kernel
theorem dX8_ahead_0 : decode cX8_ahead 0 = .ok (.iload_n 2, 1) := by decide +kernel
theorem dX8_ahead_1 : decode cX8_ahead 1 = .ok (.ifCond .ne 7, 3) := by decide +kernel
theorem dX8_ahead_4 : decode cX8_ahead 4 = .ok (.iconst 0, 1) := by decide +kernel
theorem dX8_ahead_5 : decode cX8_ahead 5 = .ok (.goto 15, 3) := by decide +kernel
theorem dX8_ahead_8 : decode cX8_ahead 8 = .ok (.aload_n 0, 1) := by decide +kernel
theorem dX8_ahead_9 : decode cX8_ahead 9 = .ok (.getfield 7, 3) := by decide +kernel
theorem dX8_ahead_12 : decode cX8_ahead 12 = .ok (.iload_n 1, 1) := by decide +kernel
theorem dX8_ahead_13 : decode cX8_ahead 13 = .ok (.iload_n 2, 1) := by decide +kernel
theorem dX8_ahead_14 : decode cX8_ahead 14 = .ok (.iconst 1, 1) := by decide +kernel
theorem dX8_ahead_15 : decode cX8_ahead 15 = .ok (.isub, 1) := by decide +kernel
theorem dX8_ahead_16 : decode cX8_ahead 16 = .ok (.invokestatic 96, 3) := by decide +kernel
theorem dX8_ahead_19 : decode cX8_ahead 19 = .ok (.iaload, 1) := by decide +kernel
theorem dX8_ahead_20 : decode cX8_ahead 20 = .ok (.ireturn, 1) := by decide +kernel
theorem dX8_changes_0 : decode cX8_changes 0 = .ok (.iconst 0, 1) := by decide +kernel
theorem dX8_changes_1 : decode cX8_changes 1 = .ok (.istore_n 2, 1) := by decide +kernel
theorem dX8_changes_2 : decode cX8_changes 2 = .ok (.iconst 0, 1) := by decide +kernel
theorem dX8_changes_3 : decode cX8_changes 3 = .ok (.istore_n 3, 1) := by decide +kernel
theorem dX8_changes_4 : decode cX8_changes 4 = .ok (.iload_n 3, 1) := by decide +kernel
theorem dX8_changes_5 : decode cX8_changes 5 = .ok (.aload_n 0, 1) := by decide +kernel
theorem dX8_changes_6 : decode cX8_changes 6 = .ok (.getfield 7, 3) := by decide +kernel
theorem dX8_changes_9 : decode cX8_changes 9 = .ok (.iconst 0, 1) := by decide +kernel
theorem dX8_changes_10 : decode cX8_changes 10 = .ok (.iaload, 1) := by decide +kernel
theorem dX8_changes_11 : decode cX8_changes 11 = .ok (.if_icmp .ge 36, 3) := by decide +kernel
theorem dX8_changes_14 : decode cX8_changes 14 = .ok (.iload_n 2, 1) := by decide +kernel
theorem dX8_changes_15 : decode cX8_changes 15 = .ok (.aload_n 0, 1) := by decide +kernel
theorem dX8_changes_16 : decode cX8_changes 16 = .ok (.getfield 7, 3) := by decide +kernel
theorem dX8_changes_19 : decode cX8_changes 19 = .ok (.iload_n 1, 1) := by decide +kernel
theorem dX8_changes_20 : decode cX8_changes 20 = .ok (.iload_n 3, 1) := by decide +kernel
theorem dX8_changes_21 : decode cX8_changes 21 = .ok (.invokestatic 96, 3) := by decide +kernel
theorem dX8_changes_24 : decode cX8_changes 24 = .ok (.iaload, 1) := by decide +kernel
theorem dX8_changes_25 : decode cX8_changes 25 = .ok (.aload_n 0, 1) := by decide +kernel
theorem dX8_changes_26 : decode cX8_changes 26 = .ok (.iload_n 1, 1) := by decide +kernel
theorem dX8_changes_27 : decode cX8_changes 27 = .ok (.iload_n 3, 1) := by decide +kernel
theorem dX8_changes_28 : decode cX8_changes 28 = .ok (.invokevirtual 176, 3) := by decide +kernel
theorem dX8_changes_31 : decode cX8_changes 31 = .ok (.if_icmp .eq 7, 3) := by decide +kernel
theorem dX8_changes_34 : decode cX8_changes 34 = .ok (.iconst 1, 1) := by decide +kernel
theorem dX8_changes_35 : decode cX8_changes 35 = .ok (.goto 4, 3) := by decide +kernel
theorem dX8_changes_38 : decode cX8_changes 38 = .ok (.iconst 0, 1) := by decide +kernel
theorem dX8_changes_39 : decode cX8_changes 39 = .ok (.iadd, 1) := by decide +kernel
theorem dX8_changes_40 : decode cX8_changes 40 = .ok (.istore_n 2, 1) := by decide +kernel
theorem dX8_changes_41 : decode cX8_changes 41 = .ok (.iinc 3 1, 3) := by decide +kernel
theorem dX8_changes_44 : decode cX8_changes 44 = .ok (.goto (-40), 3) := by decide +kernel
theorem dX8_changes_47 : decode cX8_changes 47 = .ok (.iload_n 2, 1) := by decide +kernel
theorem dX8_changes_48 : decode cX8_changes 48 = .ok (.ireturn, 1) := by decide +kernel
theorem dX8_differs_0 : decode cX8_differs 0 = .ok (.iconst 0, 1) := by decide +kernel
theorem dX8_differs_1 : decode cX8_differs 1 = .ok (.istore_n 3, 1) := by decide +kernel
theorem dX8_differs_2 : decode cX8_differs 2 = .ok (.iconst 0, 1) := by decide +kernel
theorem dX8_differs_3 : decode cX8_differs 3 = .ok (.istore 4, 2) := by decide +kernel
theorem dX8_differs_5 : decode cX8_differs 5 = .ok (.iload 4, 2) := by decide +kernel
theorem dX8_differs_7 : decode cX8_differs 7 = .ok (.aload_n 0, 1) := by decide +kernel
theorem dX8_differs_8 : decode cX8_differs 8 = .ok (.getfield 7, 3) := by decide +kernel
theorem dX8_differs_11 : decode cX8_differs 11 = .ok (.iconst 0, 1) := by decide +kernel
theorem dX8_differs_12 : decode cX8_differs 12 = .ok (.iaload, 1) := by decide +kernel
theorem dX8_differs_13 : decode cX8_differs 13 = .ok (.if_icmp .ge 51, 3) := by decide +kernel
theorem dX8_differs_16 : decode cX8_differs 16 = .ok (.iload_n 3, 1) := by decide +kernel
theorem dX8_differs_17 : decode cX8_differs 17 = .ok (.aload_n 0, 1) := by decide +kernel
theorem dX8_differs_18 : decode cX8_differs 18 = .ok (.getfield 7, 3) := by decide +kernel
theorem dX8_differs_21 : decode cX8_differs 21 = .ok (.iload_n 1, 1) := by decide +kernel
theorem dX8_differs_22 : decode cX8_differs 22 = .ok (.iload 4, 2) := by decide +kernel
theorem dX8_differs_24 : decode cX8_differs 24 = .ok (.invokestatic 96, 3) := by decide +kernel
theorem dX8_differs_27 : decode cX8_differs 27 = .ok (.iaload, 1) := by decide +kernel
theorem dX8_differs_28 : decode cX8_differs 28 = .ok (.iload_n 2, 1) := by decide +kernel
theorem dX8_differs_29 : decode cX8_differs 29 = .ok (.iconst (-1), 1) := by decide +kernel
theorem dX8_differs_30 : decode cX8_differs 30 = .ok (.if_icmp .ne 7, 3) := by decide +kernel
theorem dX8_differs_33 : decode cX8_differs 33 = .ok (.iconst 0, 1) := by decide +kernel
theorem dX8_differs_34 : decode cX8_differs 34 = .ok (.goto 14, 3) := by decide +kernel
theorem dX8_differs_37 : decode cX8_differs 37 = .ok (.aload_n 0, 1) := by decide +kernel
theorem dX8_differs_38 : decode cX8_differs 38 = .ok (.getfield 7, 3) := by decide +kernel
theorem dX8_differs_41 : decode cX8_differs 41 = .ok (.iload_n 2, 1) := by decide +kernel
theorem dX8_differs_42 : decode cX8_differs 42 = .ok (.iload 4, 2) := by decide +kernel
theorem dX8_differs_44 : decode cX8_differs 44 = .ok (.invokestatic 96, 3) := by decide +kernel
theorem dX8_differs_47 : decode cX8_differs 47 = .ok (.iaload, 1) := by decide +kernel
theorem dX8_differs_48 : decode cX8_differs 48 = .ok (.if_icmp .ne 7, 3) := by decide +kernel
theorem dX8_differs_51 : decode cX8_differs 51 = .ok (.iconst 0, 1) := by decide +kernel
theorem dX8_differs_52 : decode cX8_differs 52 = .ok (.goto 4, 3) := by decide +kernel
theorem dX8_differs_55 : decode cX8_differs 55 = .ok (.iconst 1, 1) := by decide +kernel
theorem dX8_differs_56 : decode cX8_differs 56 = .ok (.iadd, 1) := by decide +kernel
theorem dX8_differs_57 : decode cX8_differs 57 = .ok (.istore_n 3, 1) := by decide +kernel
theorem dX8_differs_58 : decode cX8_differs 58 = .ok (.iinc 4 1, 3) := by decide +kernel
theorem dX8_differs_61 : decode cX8_differs 61 = .ok (.goto (-56), 3) := by decide +kernel
theorem dX8_differs_64 : decode cX8_differs 64 = .ok (.iload_n 3, 1) := by decide +kernel
theorem dX8_differs_65 : decode cX8_differs 65 = .ok (.ireturn, 1) := by decide +kernel
theorem dX8_sumOf_0 : decode cX8_sumOf 0 = .ok (.iconst 0, 1) := by decide +kernel
theorem dX8_sumOf_1 : decode cX8_sumOf 1 = .ok (.istore_n 2, 1) := by decide +kernel
theorem dX8_sumOf_2 : decode cX8_sumOf 2 = .ok (.iconst 0, 1) := by decide +kernel
theorem dX8_sumOf_3 : decode cX8_sumOf 3 = .ok (.istore_n 3, 1) := by decide +kernel
theorem dX8_sumOf_4 : decode cX8_sumOf 4 = .ok (.iload_n 3, 1) := by decide +kernel
theorem dX8_sumOf_5 : decode cX8_sumOf 5 = .ok (.aload_n 0, 1) := by decide +kernel
theorem dX8_sumOf_6 : decode cX8_sumOf 6 = .ok (.getfield 7, 3) := by decide +kernel
theorem dX8_sumOf_9 : decode cX8_sumOf 9 = .ok (.iconst 1, 1) := by decide +kernel
theorem dX8_sumOf_10 : decode cX8_sumOf 10 = .ok (.iaload, 1) := by decide +kernel
theorem dX8_sumOf_11 : decode cX8_sumOf 11 = .ok (.if_icmp .ge 78, 3) := by decide +kernel
theorem dX8_sumOf_14 : decode cX8_sumOf 14 = .ok (.iload_n 2, 1) := by decide +kernel
theorem dX8_sumOf_15 : decode cX8_sumOf 15 = .ok (.iload_n 1, 1) := by decide +kernel
theorem dX8_sumOf_16 : decode cX8_sumOf 16 = .ok (.bipush 8, 2) := by decide +kernel
theorem dX8_sumOf_18 : decode cX8_sumOf 18 = .ok (.if_icmp .ne 11, 3) := by decide +kernel
theorem dX8_sumOf_21 : decode cX8_sumOf 21 = .ok (.aload_n 0, 1) := by decide +kernel
theorem dX8_sumOf_22 : decode cX8_sumOf 22 = .ok (.iload_n 3, 1) := by decide +kernel
theorem dX8_sumOf_23 : decode cX8_sumOf 23 = .ok (.invokevirtual 179, 3) := by decide +kernel
theorem dX8_sumOf_26 : decode cX8_sumOf 26 = .ok (.goto 55, 3) := by decide +kernel
theorem dX8_sumOf_29 : decode cX8_sumOf 29 = .ok (.iload_n 1, 1) := by decide +kernel
theorem dX8_sumOf_30 : decode cX8_sumOf 30 = .ok (.bipush 9, 2) := by decide +kernel
theorem dX8_sumOf_32 : decode cX8_sumOf 32 = .ok (.if_icmp .ne 11, 3) := by decide +kernel
theorem dX8_sumOf_35 : decode cX8_sumOf 35 = .ok (.aload_n 0, 1) := by decide +kernel
theorem dX8_sumOf_36 : decode cX8_sumOf 36 = .ok (.iload_n 3, 1) := by decide +kernel
theorem dX8_sumOf_37 : decode cX8_sumOf 37 = .ok (.invokevirtual 182, 3) := by decide +kernel
theorem dX8_sumOf_40 : decode cX8_sumOf 40 = .ok (.goto 41, 3) := by decide +kernel
theorem dX8_sumOf_43 : decode cX8_sumOf 43 = .ok (.iload_n 1, 1) := by decide +kernel
theorem dX8_sumOf_44 : decode cX8_sumOf 44 = .ok (.bipush 10, 2) := by decide +kernel
theorem dX8_sumOf_46 : decode cX8_sumOf 46 = .ok (.if_icmp .ne 19, 3) := by decide +kernel
theorem dX8_sumOf_49 : decode cX8_sumOf 49 = .ok (.aload_n 0, 1) := by decide +kernel
theorem dX8_sumOf_50 : decode cX8_sumOf 50 = .ok (.iload_n 3, 1) := by decide +kernel
theorem dX8_sumOf_51 : decode cX8_sumOf 51 = .ok (.invokevirtual 173, 3) := by decide +kernel
theorem dX8_sumOf_54 : decode cX8_sumOf 54 = .ok (.ifCond .eq 7, 3) := by decide +kernel
theorem dX8_sumOf_57 : decode cX8_sumOf 57 = .ok (.iconst 1, 1) := by decide +kernel
theorem dX8_sumOf_58 : decode cX8_sumOf 58 = .ok (.goto 23, 3) := by decide +kernel
theorem dX8_sumOf_61 : decode cX8_sumOf 61 = .ok (.iconst 0, 1) := by decide +kernel
theorem dX8_sumOf_62 : decode cX8_sumOf 62 = .ok (.goto 19, 3) := by decide +kernel
theorem dX8_sumOf_65 : decode cX8_sumOf 65 = .ok (.aload_n 0, 1) := by decide +kernel
theorem dX8_sumOf_66 : decode cX8_sumOf 66 = .ok (.iload_n 3, 1) := by decide +kernel
theorem dX8_sumOf_67 : decode cX8_sumOf 67 = .ok (.iload_n 3, 1) := by decide +kernel
theorem dX8_sumOf_68 : decode cX8_sumOf 68 = .ok (.iconst 1, 1) := by decide +kernel
theorem dX8_sumOf_69 : decode cX8_sumOf 69 = .ok (.isub, 1) := by decide +kernel
theorem dX8_sumOf_70 : decode cX8_sumOf 70 = .ok (.invokevirtual 185, 3) := by decide +kernel
theorem dX8_sumOf_73 : decode cX8_sumOf 73 = .ok (.ifCond .ne 7, 3) := by decide +kernel
theorem dX8_sumOf_76 : decode cX8_sumOf 76 = .ok (.iconst 1, 1) := by decide +kernel
theorem dX8_sumOf_77 : decode cX8_sumOf 77 = .ok (.goto 4, 3) := by decide +kernel
theorem dX8_sumOf_80 : decode cX8_sumOf 80 = .ok (.iconst 0, 1) := by decide +kernel
theorem dX8_sumOf_81 : decode cX8_sumOf 81 = .ok (.iadd, 1) := by decide +kernel
theorem dX8_sumOf_82 : decode cX8_sumOf 82 = .ok (.istore_n 2, 1) := by decide +kernel
theorem dX8_sumOf_83 : decode cX8_sumOf 83 = .ok (.iinc 3 1, 3) := by decide +kernel
theorem dX8_sumOf_86 : decode cX8_sumOf 86 = .ok (.goto (-82), 3) := by decide +kernel
theorem dX8_sumOf_89 : decode cX8_sumOf 89 = .ok (.iload_n 2, 1) := by decide +kernel
theorem dX8_sumOf_90 : decode cX8_sumOf 90 = .ok (.ireturn, 1) := by decide +kernel
theorem dX8_count_0 : decode cX8_count 0 = .ok (.aload_n 0, 1) := by decide +kernel
theorem dX8_count_1 : decode cX8_count 1 = .ok (.iload_n 1, 1) := by decide +kernel
theorem dX8_count_2 : decode cX8_count 2 = .ok (.iconst 0, 1) := by decide +kernel
theorem dX8_count_3 : decode cX8_count 3 = .ok (.bipush 12, 2) := by decide +kernel
theorem dX8_count_5 : decode cX8_count 5 = .ok (.invokestatic 124, 3) := by decide +kernel
theorem dX8_count_8 : decode cX8_count 8 = .ok (.ifCond .eq 7, 3) := by decide +kernel
theorem dX8_count_11 : decode cX8_count 11 = .ok (.iconst 0, 1) := by decide +kernel
theorem dX8_count_12 : decode cX8_count 12 = .ok (.goto 4, 3) := by decide +kernel
theorem dX8_count_15 : decode cX8_count 15 = .ok (.iconst 1, 1) := by decide +kernel
theorem dX8_count_16 : decode cX8_count 16 = .ok (.putfield 90, 3) := by decide +kernel
theorem dX8_count_19 : decode cX8_count 19 = .ok (.aload_n 0, 1) := by decide +kernel
theorem dX8_count_20 : decode cX8_count 20 = .ok (.getfield 90, 3) := by decide +kernel
theorem dX8_count_23 : decode cX8_count 23 = .ok (.ifCond .le 7, 3) := by decide +kernel
theorem dX8_count_26 : decode cX8_count 26 = .ok (.iconst (-1), 1) := by decide +kernel
theorem dX8_count_27 : decode cX8_count 27 = .ok (.goto 4, 3) := by decide +kernel
theorem dX8_count_30 : decode cX8_count 30 = .ok (.iload_n 1, 1) := by decide +kernel
theorem dX8_count_31 : decode cX8_count 31 = .ok (.tableswitch 96 (-1) 12 #[69, 96, 96, 96, 96, 96, 96, 71, 78, 85, 85, 85, 91, 85], 69) := by decide +kernel
theorem dX8_count_100 : decode cX8_count 100 = .ok (.iconst 0, 1) := by decide +kernel
theorem dX8_count_101 : decode cX8_count 101 = .ok (.ireturn, 1) := by decide +kernel
theorem dX8_count_102 : decode cX8_count 102 = .ok (.aload_n 0, 1) := by decide +kernel
theorem dX8_count_103 : decode cX8_count 103 = .ok (.getfield 7, 3) := by decide +kernel
theorem dX8_count_106 : decode cX8_count 106 = .ok (.iconst 0, 1) := by decide +kernel
theorem dX8_count_107 : decode cX8_count 107 = .ok (.iaload, 1) := by decide +kernel
theorem dX8_count_108 : decode cX8_count 108 = .ok (.ireturn, 1) := by decide +kernel
theorem dX8_count_109 : decode cX8_count 109 = .ok (.aload_n 0, 1) := by decide +kernel
theorem dX8_count_110 : decode cX8_count 110 = .ok (.getfield 7, 3) := by decide +kernel
theorem dX8_count_113 : decode cX8_count 113 = .ok (.iconst 1, 1) := by decide +kernel
theorem dX8_count_114 : decode cX8_count 114 = .ok (.iaload, 1) := by decide +kernel
theorem dX8_count_115 : decode cX8_count 115 = .ok (.ireturn, 1) := by decide +kernel
theorem dX8_count_116 : decode cX8_count 116 = .ok (.aload_n 0, 1) := by decide +kernel
theorem dX8_count_117 : decode cX8_count 117 = .ok (.iload_n 1, 1) := by decide +kernel
theorem dX8_count_118 : decode cX8_count 118 = .ok (.invokevirtual 188, 3) := by decide +kernel
theorem dX8_count_121 : decode cX8_count 121 = .ok (.ireturn, 1) := by decide +kernel
theorem dX8_count_122 : decode cX8_count 122 = .ok (.aload_n 0, 1) := by decide +kernel
theorem dX8_count_123 : decode cX8_count 123 = .ok (.getfield 191, 3) := by decide +kernel
theorem dX8_count_126 : decode cX8_count 126 = .ok (.ireturn, 1) := by decide +kernel
theorem dX8_count_127 : decode cX8_count 127 = .ok (.aload_n 0, 1) := by decide +kernel
theorem dX8_count_128 : decode cX8_count 128 = .ok (.getfield 7, 3) := by decide +kernel
theorem dX8_count_131 : decode cX8_count 131 = .ok (.iconst 2, 1) := by decide +kernel
theorem dX8_count_132 : decode cX8_count 132 = .ok (.iload_n 1, 1) := by decide +kernel
theorem dX8_count_133 : decode cX8_count 133 = .ok (.iadd, 1) := by decide +kernel
theorem dX8_count_134 : decode cX8_count 134 = .ok (.iaload, 1) := by decide +kernel
theorem dX8_count_135 : decode cX8_count 135 = .ok (.ireturn, 1) := by decide +kernel
theorem dX8_isLine_0 : decode cX8_isLine 0 = .ok (.iload_n 1, 1) := by decide +kernel
theorem dX8_isLine_1 : decode cX8_isLine 1 = .ok (.iconst 0, 1) := by decide +kernel
theorem dX8_isLine_2 : decode cX8_isLine 2 = .ok (.aload_n 0, 1) := by decide +kernel
theorem dX8_isLine_3 : decode cX8_isLine 3 = .ok (.getfield 7, 3) := by decide +kernel
theorem dX8_isLine_6 : decode cX8_isLine 6 = .ok (.iconst 1, 1) := by decide +kernel
theorem dX8_isLine_7 : decode cX8_isLine 7 = .ok (.iaload, 1) := by decide +kernel
theorem dX8_isLine_8 : decode cX8_isLine 8 = .ok (.iconst 1, 1) := by decide +kernel
theorem dX8_isLine_9 : decode cX8_isLine 9 = .ok (.isub, 1) := by decide +kernel
theorem dX8_isLine_10 : decode cX8_isLine 10 = .ok (.invokestatic 124, 3) := by decide +kernel
theorem dX8_isLine_13 : decode cX8_isLine 13 = .ok (.ireturn, 1) := by decide +kernel
theorem dX8_isDot_0 : decode cX8_isDot 0 = .ok (.aload_n 0, 1) := by decide +kernel
theorem dX8_isDot_1 : decode cX8_isDot 1 = .ok (.iload_n 1, 1) := by decide +kernel
theorem dX8_isDot_2 : decode cX8_isDot 2 = .ok (.invokevirtual 194, 3) := by decide +kernel
theorem dX8_isDot_5 : decode cX8_isDot 5 = .ok (.ifCond .eq 23, 3) := by decide +kernel
theorem dX8_isDot_8 : decode cX8_isDot 8 = .ok (.iload_n 2, 1) := by decide +kernel
theorem dX8_isDot_9 : decode cX8_isDot 9 = .ok (.iconst 0, 1) := by decide +kernel
theorem dX8_isDot_10 : decode cX8_isDot 10 = .ok (.aload_n 0, 1) := by decide +kernel
theorem dX8_isDot_11 : decode cX8_isDot 11 = .ok (.getfield 7, 3) := by decide +kernel
theorem dX8_isDot_14 : decode cX8_isDot 14 = .ok (.iconst 0, 1) := by decide +kernel
theorem dX8_isDot_15 : decode cX8_isDot 15 = .ok (.iaload, 1) := by decide +kernel
theorem dX8_isDot_16 : decode cX8_isDot 16 = .ok (.iconst 1, 1) := by decide +kernel
theorem dX8_isDot_17 : decode cX8_isDot 17 = .ok (.isub, 1) := by decide +kernel
theorem dX8_isDot_18 : decode cX8_isDot 18 = .ok (.invokestatic 124, 3) := by decide +kernel
theorem dX8_isDot_21 : decode cX8_isDot 21 = .ok (.ifCond .eq 7, 3) := by decide +kernel
theorem dX8_isDot_24 : decode cX8_isDot 24 = .ok (.iconst 1, 1) := by decide +kernel
theorem dX8_isDot_25 : decode cX8_isDot 25 = .ok (.goto 4, 3) := by decide +kernel
theorem dX8_isDot_28 : decode cX8_isDot 28 = .ok (.iconst 0, 1) := by decide +kernel
theorem dX8_isDot_29 : decode cX8_isDot 29 = .ok (.ireturn, 1) := by decide +kernel
theorem dX8_dot_0 : decode cX8_dot 0 = .ok (.aload_n 0, 1) := by decide +kernel
theorem dX8_dot_1 : decode cX8_dot 1 = .ok (.aload_n 0, 1) := by decide +kernel
theorem dX8_dot_2 : decode cX8_dot 2 = .ok (.iload_n 1, 1) := by decide +kernel
theorem dX8_dot_3 : decode cX8_dot 3 = .ok (.iload_n 2, 1) := by decide +kernel
theorem dX8_dot_4 : decode cX8_dot 4 = .ok (.invokevirtual 197, 3) := by decide +kernel
theorem dX8_dot_7 : decode cX8_dot 7 = .ok (.ifCond .eq 7, 3) := by decide +kernel
theorem dX8_dot_10 : decode cX8_dot 10 = .ok (.iconst 0, 1) := by decide +kernel
theorem dX8_dot_11 : decode cX8_dot 11 = .ok (.goto 4, 3) := by decide +kernel
theorem dX8_dot_14 : decode cX8_dot 14 = .ok (.iconst 1, 1) := by decide +kernel
theorem dX8_dot_15 : decode cX8_dot 15 = .ok (.putfield 90, 3) := by decide +kernel
theorem dX8_dot_18 : decode cX8_dot 18 = .ok (.aload_n 0, 1) := by decide +kernel
theorem dX8_dot_19 : decode cX8_dot 19 = .ok (.getfield 90, 3) := by decide +kernel
theorem dX8_dot_22 : decode cX8_dot 22 = .ok (.ifCond .le 7, 3) := by decide +kernel
theorem dX8_dot_25 : decode cX8_dot 25 = .ok (.iconst 0, 1) := by decide +kernel
theorem dX8_dot_26 : decode cX8_dot 26 = .ok (.goto 13, 3) := by decide +kernel
theorem dX8_dot_29 : decode cX8_dot 29 = .ok (.aload_n 0, 1) := by decide +kernel
theorem dX8_dot_30 : decode cX8_dot 30 = .ok (.getfield 7, 3) := by decide +kernel
theorem dX8_dot_33 : decode cX8_dot 33 = .ok (.iload_n 1, 1) := by decide +kernel
theorem dX8_dot_34 : decode cX8_dot 34 = .ok (.iload_n 2, 1) := by decide +kernel
theorem dX8_dot_35 : decode cX8_dot 35 = .ok (.invokestatic 96, 3) := by decide +kernel
theorem dX8_dot_38 : decode cX8_dot 38 = .ok (.iaload, 1) := by decide +kernel
theorem dX8_dot_39 : decode cX8_dot 39 = .ok (.ireturn, 1) := by decide +kernel
theorem dX8_modesOf_0 : decode cX8_modesOf 0 = .ok (.iconst 0, 1) := by decide +kernel
theorem dX8_modesOf_1 : decode cX8_modesOf 1 = .ok (.istore_n 2, 1) := by decide +kernel
theorem dX8_modesOf_2 : decode cX8_modesOf 2 = .ok (.iconst 0, 1) := by decide +kernel
theorem dX8_modesOf_3 : decode cX8_modesOf 3 = .ok (.istore_n 3, 1) := by decide +kernel
theorem dX8_modesOf_4 : decode cX8_modesOf 4 = .ok (.iload_n 3, 1) := by decide +kernel
theorem dX8_modesOf_5 : decode cX8_modesOf 5 = .ok (.aload_n 0, 1) := by decide +kernel
theorem dX8_modesOf_6 : decode cX8_modesOf 6 = .ok (.getfield 111, 3) := by decide +kernel
theorem dX8_modesOf_9 : decode cX8_modesOf 9 = .ok (.if_icmp .ge 27, 3) := by decide +kernel
theorem dX8_modesOf_12 : decode cX8_modesOf 12 = .ok (.iload_n 2, 1) := by decide +kernel
theorem dX8_modesOf_13 : decode cX8_modesOf 13 = .ok (.aload_n 0, 1) := by decide +kernel
theorem dX8_modesOf_14 : decode cX8_modesOf 14 = .ok (.getfield 32, 3) := by decide +kernel
theorem dX8_modesOf_17 : decode cX8_modesOf 17 = .ok (.iload_n 3, 1) := by decide +kernel
theorem dX8_modesOf_18 : decode cX8_modesOf 18 = .ok (.iaload, 1) := by decide +kernel
theorem dX8_modesOf_19 : decode cX8_modesOf 19 = .ok (.iload_n 1, 1) := by decide +kernel
theorem dX8_modesOf_20 : decode cX8_modesOf 20 = .ok (.if_icmp .ne 7, 3) := by decide +kernel
theorem dX8_modesOf_23 : decode cX8_modesOf 23 = .ok (.iconst 1, 1) := by decide +kernel
theorem dX8_modesOf_24 : decode cX8_modesOf 24 = .ok (.goto 4, 3) := by decide +kernel
theorem dX8_modesOf_27 : decode cX8_modesOf 27 = .ok (.iconst 0, 1) := by decide +kernel
theorem dX8_modesOf_28 : decode cX8_modesOf 28 = .ok (.iadd, 1) := by decide +kernel
theorem dX8_modesOf_29 : decode cX8_modesOf 29 = .ok (.istore_n 2, 1) := by decide +kernel
theorem dX8_modesOf_30 : decode cX8_modesOf 30 = .ok (.iinc 3 1, 3) := by decide +kernel
theorem dX8_modesOf_33 : decode cX8_modesOf 33 = .ok (.goto (-29), 3) := by decide +kernel
theorem dX8_modesOf_36 : decode cX8_modesOf 36 = .ok (.iload_n 2, 1) := by decide +kernel
theorem dX8_modesOf_37 : decode cX8_modesOf 37 = .ok (.ireturn, 1) := by decide +kernel
theorem dX8_line_0 : decode cX8_line 0 = .ok (.aload_n 0, 1) := by decide +kernel
theorem dX8_line_1 : decode cX8_line 1 = .ok (.aload_n 0, 1) := by decide +kernel
theorem dX8_line_2 : decode cX8_line 2 = .ok (.iload_n 1, 1) := by decide +kernel
theorem dX8_line_3 : decode cX8_line 3 = .ok (.invokevirtual 194, 3) := by decide +kernel
theorem dX8_line_6 : decode cX8_line 6 = .ok (.ifCond .ne 7, 3) := by decide +kernel
theorem dX8_line_9 : decode cX8_line 9 = .ok (.iconst 1, 1) := by decide +kernel
theorem dX8_line_10 : decode cX8_line 10 = .ok (.goto 18, 3) := by decide +kernel
theorem dX8_line_13 : decode cX8_line 13 = .ok (.iload_n 2, 1) := by decide +kernel
theorem dX8_line_14 : decode cX8_line 14 = .ok (.iconst 0, 1) := by decide +kernel
theorem dX8_line_15 : decode cX8_line 15 = .ok (.bipush 11, 2) := by decide +kernel
theorem dX8_line_17 : decode cX8_line 17 = .ok (.invokestatic 124, 3) := by decide +kernel
theorem dX8_line_20 : decode cX8_line 20 = .ok (.ifCond .eq 7, 3) := by decide +kernel
theorem dX8_line_23 : decode cX8_line 23 = .ok (.iconst 0, 1) := by decide +kernel
theorem dX8_line_24 : decode cX8_line 24 = .ok (.goto 4, 3) := by decide +kernel
theorem dX8_line_27 : decode cX8_line 27 = .ok (.iconst 2, 1) := by decide +kernel
theorem dX8_line_28 : decode cX8_line 28 = .ok (.putfield 90, 3) := by decide +kernel
theorem dX8_line_31 : decode cX8_line 31 = .ok (.aload_n 0, 1) := by decide +kernel
theorem dX8_line_32 : decode cX8_line 32 = .ok (.getfield 90, 3) := by decide +kernel
theorem dX8_line_35 : decode cX8_line 35 = .ok (.ifCond .le 5, 3) := by decide +kernel
theorem dX8_line_38 : decode cX8_line 38 = .ok (.iconst 0, 1) := by decide +kernel
theorem dX8_line_39 : decode cX8_line 39 = .ok (.ireturn, 1) := by decide +kernel
theorem dX8_line_40 : decode cX8_line 40 = .ok (.aload_n 0, 1) := by decide +kernel
theorem dX8_line_41 : decode cX8_line 41 = .ok (.iload_n 1, 1) := by decide +kernel
theorem dX8_line_42 : decode cX8_line 42 = .ok (.invokevirtual 163, 3) := by decide +kernel
theorem dX8_line_45 : decode cX8_line 45 = .ok (.iload_n 2, 1) := by decide +kernel
theorem dX8_line_46 : decode cX8_line 46 = .ok (.tableswitch 124 0 11 #[62, 76, 81, 86, 92, 97, 124, 124, 124, 102, 112, 118], 62) := by decide +kernel
theorem dX8_line_108 : decode cX8_line 108 = .ok (.aload_n 0, 1) := by decide +kernel
theorem dX8_line_109 : decode cX8_line 109 = .ok (.iload_n 1, 1) := by decide +kernel
theorem dX8_line_110 : decode cX8_line 110 = .ok (.invokevirtual 173, 3) := by decide +kernel
theorem dX8_line_113 : decode cX8_line 113 = .ok (.ifCond .eq 7, 3) := by decide +kernel
theorem dX8_line_116 : decode cX8_line 116 = .ok (.iconst 1, 1) := by decide +kernel
theorem dX8_line_117 : decode cX8_line 117 = .ok (.goto 4, 3) := by decide +kernel
theorem dX8_line_120 : decode cX8_line 120 = .ok (.iconst 0, 1) := by decide +kernel
theorem dX8_line_121 : decode cX8_line 121 = .ok (.ireturn, 1) := by decide +kernel
theorem dX8_line_122 : decode cX8_line 122 = .ok (.aload_n 0, 1) := by decide +kernel
theorem dX8_line_123 : decode cX8_line 123 = .ok (.invokevirtual 166, 3) := by decide +kernel
theorem dX8_line_126 : decode cX8_line 126 = .ok (.ireturn, 1) := by decide +kernel
theorem dX8_line_127 : decode cX8_line 127 = .ok (.aload_n 0, 1) := by decide +kernel
theorem dX8_line_128 : decode cX8_line 128 = .ok (.invokevirtual 170, 3) := by decide +kernel
theorem dX8_line_131 : decode cX8_line 131 = .ok (.ireturn, 1) := by decide +kernel
theorem dX8_line_132 : decode cX8_line 132 = .ok (.aload_n 0, 1) := by decide +kernel
theorem dX8_line_133 : decode cX8_line 133 = .ok (.iload_n 1, 1) := by decide +kernel
theorem dX8_line_134 : decode cX8_line 134 = .ok (.invokevirtual 201, 3) := by decide +kernel
theorem dX8_line_137 : decode cX8_line 137 = .ok (.ireturn, 1) := by decide +kernel
theorem dX8_line_138 : decode cX8_line 138 = .ok (.aload_n 0, 1) := by decide +kernel
theorem dX8_line_139 : decode cX8_line 139 = .ok (.getfield 151, 3) := by decide +kernel
theorem dX8_line_142 : decode cX8_line 142 = .ok (.ireturn, 1) := by decide +kernel
theorem dX8_line_143 : decode cX8_line 143 = .ok (.aload_n 0, 1) := by decide +kernel
theorem dX8_line_144 : decode cX8_line 144 = .ok (.getfield 111, 3) := by decide +kernel
theorem dX8_line_147 : decode cX8_line 147 = .ok (.ireturn, 1) := by decide +kernel
theorem dX8_line_148 : decode cX8_line 148 = .ok (.aload_n 0, 1) := by decide +kernel
theorem dX8_line_149 : decode cX8_line 149 = .ok (.getfield 7, 3) := by decide +kernel
theorem dX8_line_152 : decode cX8_line 152 = .ok (.bipush 8, 2) := by decide +kernel
theorem dX8_line_154 : decode cX8_line 154 = .ok (.iload_n 1, 1) := by decide +kernel
theorem dX8_line_155 : decode cX8_line 155 = .ok (.iadd, 1) := by decide +kernel
theorem dX8_line_156 : decode cX8_line 156 = .ok (.iaload, 1) := by decide +kernel
theorem dX8_line_157 : decode cX8_line 157 = .ok (.ireturn, 1) := by decide +kernel
theorem dX8_line_158 : decode cX8_line 158 = .ok (.aload_n 0, 1) := by decide +kernel
theorem dX8_line_159 : decode cX8_line 159 = .ok (.iload_n 1, 1) := by decide +kernel
theorem dX8_line_160 : decode cX8_line 160 = .ok (.invokevirtual 179, 3) := by decide +kernel
theorem dX8_line_163 : decode cX8_line 163 = .ok (.ireturn, 1) := by decide +kernel
theorem dX8_line_164 : decode cX8_line 164 = .ok (.aload_n 0, 1) := by decide +kernel
theorem dX8_line_165 : decode cX8_line 165 = .ok (.iload_n 1, 1) := by decide +kernel
theorem dX8_line_166 : decode cX8_line 166 = .ok (.invokevirtual 204, 3) := by decide +kernel
theorem dX8_line_169 : decode cX8_line 169 = .ok (.ireturn, 1) := by decide +kernel
theorem dX8_line_170 : decode cX8_line 170 = .ok (.aload_n 0, 1) := by decide +kernel
theorem dX8_line_171 : decode cX8_line 171 = .ok (.iload_n 2, 1) := by decide +kernel
theorem dX8_line_172 : decode cX8_line 172 = .ok (.bipush 6, 2) := by decide +kernel
theorem dX8_line_174 : decode cX8_line 174 = .ok (.isub, 1) := by decide +kernel
theorem dX8_line_175 : decode cX8_line 175 = .ok (.invokevirtual 207, 3) := by decide +kernel
theorem dX8_line_178 : decode cX8_line 178 = .ok (.ireturn, 1) := by decide +kernel
theorem dX8_run_0 : decode cX8_run 0 = .ok (.aload_n 0, 1) := by decide +kernel
theorem dX8_run_1 : decode cX8_run 1 = .ok (.aload_n 0, 1) := by decide +kernel
theorem dX8_run_2 : decode cX8_run 2 = .ok (.iload_n 1, 1) := by decide +kernel
theorem dX8_run_3 : decode cX8_run 3 = .ok (.invokevirtual 194, 3) := by decide +kernel
theorem dX8_run_6 : decode cX8_run 6 = .ok (.ifCond .eq 11, 3) := by decide +kernel
theorem dX8_run_9 : decode cX8_run 9 = .ok (.iload_n 2, 1) := by decide +kernel
theorem dX8_run_10 : decode cX8_run 10 = .ok (.ifCond .lt 7, 3) := by decide +kernel
theorem dX8_run_13 : decode cX8_run 13 = .ok (.iconst 0, 1) := by decide +kernel
theorem dX8_run_14 : decode cX8_run 14 = .ok (.goto 4, 3) := by decide +kernel
theorem dX8_run_17 : decode cX8_run 17 = .ok (.iconst 1, 1) := by decide +kernel
theorem dX8_run_18 : decode cX8_run 18 = .ok (.putfield 90, 3) := by decide +kernel
theorem dX8_run_21 : decode cX8_run 21 = .ok (.aload_n 0, 1) := by decide +kernel
theorem dX8_run_22 : decode cX8_run 22 = .ok (.getfield 90, 3) := by decide +kernel
theorem dX8_run_25 : decode cX8_run 25 = .ok (.ifCond .le 5, 3) := by decide +kernel
theorem dX8_run_28 : decode cX8_run 28 = .ok (.iconst 0, 1) := by decide +kernel
theorem dX8_run_29 : decode cX8_run 29 = .ok (.ireturn, 1) := by decide +kernel
theorem dX8_run_30 : decode cX8_run 30 = .ok (.aload_n 0, 1) := by decide +kernel
theorem dX8_run_31 : decode cX8_run 31 = .ok (.iload_n 1, 1) := by decide +kernel
theorem dX8_run_32 : decode cX8_run 32 = .ok (.invokevirtual 163, 3) := by decide +kernel
theorem dX8_run_35 : decode cX8_run 35 = .ok (.iload_n 2, 1) := by decide +kernel
theorem dX8_run_36 : decode cX8_run 36 = .ok (.aload_n 0, 1) := by decide +kernel
theorem dX8_run_37 : decode cX8_run 37 = .ok (.getfield 151, 3) := by decide +kernel
theorem dX8_run_40 : decode cX8_run 40 = .ok (.if_icmp .ge 12, 3) := by decide +kernel
theorem dX8_run_43 : decode cX8_run 43 = .ok (.aload_n 0, 1) := by decide +kernel
theorem dX8_run_44 : decode cX8_run 44 = .ok (.getfield 47, 3) := by decide +kernel
theorem dX8_run_47 : decode cX8_run 47 = .ok (.iload_n 2, 1) := by decide +kernel
theorem dX8_run_48 : decode cX8_run 48 = .ok (.iaload, 1) := by decide +kernel
theorem dX8_run_49 : decode cX8_run 49 = .ok (.goto 4, 3) := by decide +kernel
theorem dX8_run_52 : decode cX8_run 52 = .ok (.iconst (-1), 1) := by decide +kernel
theorem dX8_run_53 : decode cX8_run 53 = .ok (.ireturn, 1) := by decide +kernel
theorem dX8_mode_0 : decode cX8_mode 0 = .ok (.aload_n 0, 1) := by decide +kernel
theorem dX8_mode_1 : decode cX8_mode 1 = .ok (.aload_n 0, 1) := by decide +kernel
theorem dX8_mode_2 : decode cX8_mode 2 = .ok (.iload_n 1, 1) := by decide +kernel
theorem dX8_mode_3 : decode cX8_mode 3 = .ok (.invokevirtual 194, 3) := by decide +kernel
theorem dX8_mode_6 : decode cX8_mode 6 = .ok (.ifCond .eq 7, 3) := by decide +kernel
theorem dX8_mode_9 : decode cX8_mode 9 = .ok (.iload_n 2, 1) := by decide +kernel
theorem dX8_mode_10 : decode cX8_mode 10 = .ok (.ifCond .ge 7, 3) := by decide +kernel
theorem dX8_mode_13 : decode cX8_mode 13 = .ok (.iconst 1, 1) := by decide +kernel
theorem dX8_mode_14 : decode cX8_mode 14 = .ok (.goto 17, 3) := by decide +kernel
theorem dX8_mode_17 : decode cX8_mode 17 = .ok (.iload_n 3, 1) := by decide +kernel
theorem dX8_mode_18 : decode cX8_mode 18 = .ok (.iconst 0, 1) := by decide +kernel
theorem dX8_mode_19 : decode cX8_mode 19 = .ok (.iconst 3, 1) := by decide +kernel
theorem dX8_mode_20 : decode cX8_mode 20 = .ok (.invokestatic 124, 3) := by decide +kernel
theorem dX8_mode_23 : decode cX8_mode 23 = .ok (.ifCond .eq 7, 3) := by decide +kernel
theorem dX8_mode_26 : decode cX8_mode 26 = .ok (.iconst 0, 1) := by decide +kernel
theorem dX8_mode_27 : decode cX8_mode 27 = .ok (.goto 4, 3) := by decide +kernel
theorem dX8_mode_30 : decode cX8_mode 30 = .ok (.iconst 2, 1) := by decide +kernel
theorem dX8_mode_31 : decode cX8_mode 31 = .ok (.putfield 90, 3) := by decide +kernel
theorem dX8_mode_34 : decode cX8_mode 34 = .ok (.aload_n 0, 1) := by decide +kernel
theorem dX8_mode_35 : decode cX8_mode 35 = .ok (.getfield 90, 3) := by decide +kernel
theorem dX8_mode_38 : decode cX8_mode 38 = .ok (.ifCond .le 5, 3) := by decide +kernel
theorem dX8_mode_41 : decode cX8_mode 41 = .ok (.iconst 0, 1) := by decide +kernel
theorem dX8_mode_42 : decode cX8_mode 42 = .ok (.ireturn, 1) := by decide +kernel
theorem dX8_mode_43 : decode cX8_mode 43 = .ok (.aload_n 0, 1) := by decide +kernel
theorem dX8_mode_44 : decode cX8_mode 44 = .ok (.iload_n 1, 1) := by decide +kernel
theorem dX8_mode_45 : decode cX8_mode 45 = .ok (.invokevirtual 163, 3) := by decide +kernel
theorem dX8_mode_48 : decode cX8_mode 48 = .ok (.iload_n 2, 1) := by decide +kernel
theorem dX8_mode_49 : decode cX8_mode 49 = .ok (.aload_n 0, 1) := by decide +kernel
theorem dX8_mode_50 : decode cX8_mode 50 = .ok (.getfield 111, 3) := by decide +kernel
theorem dX8_mode_53 : decode cX8_mode 53 = .ok (.if_icmp .lt 6, 3) := by decide +kernel
theorem dX8_mode_56 : decode cX8_mode 56 = .ok (.bipush (-9), 2) := by decide +kernel
theorem dX8_mode_58 : decode cX8_mode 58 = .ok (.ireturn, 1) := by decide +kernel
theorem dX8_mode_59 : decode cX8_mode 59 = .ok (.iload_n 3, 1) := by decide +kernel
theorem dX8_mode_60 : decode cX8_mode 60 = .ok (.ifCond .ne 12, 3) := by decide +kernel
theorem dX8_mode_63 : decode cX8_mode 63 = .ok (.aload_n 0, 1) := by decide +kernel
theorem dX8_mode_64 : decode cX8_mode 64 = .ok (.getfield 32, 3) := by decide +kernel
theorem dX8_mode_67 : decode cX8_mode 67 = .ok (.iload_n 2, 1) := by decide +kernel
theorem dX8_mode_68 : decode cX8_mode 68 = .ok (.iaload, 1) := by decide +kernel
theorem dX8_mode_69 : decode cX8_mode 69 = .ok (.goto 37, 3) := by decide +kernel
theorem dX8_mode_72 : decode cX8_mode 72 = .ok (.iload_n 3, 1) := by decide +kernel
theorem dX8_mode_73 : decode cX8_mode 73 = .ok (.iconst 1, 1) := by decide +kernel
theorem dX8_mode_74 : decode cX8_mode 74 = .ok (.if_icmp .ne 12, 3) := by decide +kernel
theorem dX8_mode_77 : decode cX8_mode 77 = .ok (.aload_n 0, 1) := by decide +kernel
theorem dX8_mode_78 : decode cX8_mode 78 = .ok (.getfield 35, 3) := by decide +kernel
theorem dX8_mode_81 : decode cX8_mode 81 = .ok (.iload_n 2, 1) := by decide +kernel
theorem dX8_mode_82 : decode cX8_mode 82 = .ok (.iaload, 1) := by decide +kernel
theorem dX8_mode_83 : decode cX8_mode 83 = .ok (.goto 23, 3) := by decide +kernel
theorem dX8_mode_86 : decode cX8_mode 86 = .ok (.iload_n 3, 1) := by decide +kernel
theorem dX8_mode_87 : decode cX8_mode 87 = .ok (.iconst 2, 1) := by decide +kernel
theorem dX8_mode_88 : decode cX8_mode 88 = .ok (.if_icmp .ne 12, 3) := by decide +kernel
theorem dX8_mode_91 : decode cX8_mode 91 = .ok (.aload_n 0, 1) := by decide +kernel
theorem dX8_mode_92 : decode cX8_mode 92 = .ok (.getfield 38, 3) := by decide +kernel
theorem dX8_mode_95 : decode cX8_mode 95 = .ok (.iload_n 2, 1) := by decide +kernel
theorem dX8_mode_96 : decode cX8_mode 96 = .ok (.iaload, 1) := by decide +kernel
theorem dX8_mode_97 : decode cX8_mode 97 = .ok (.goto 9, 3) := by decide +kernel
theorem dX8_mode_100 : decode cX8_mode 100 = .ok (.aload_n 0, 1) := by decide +kernel
theorem dX8_mode_101 : decode cX8_mode 101 = .ok (.getfield 41, 3) := by decide +kernel
theorem dX8_mode_104 : decode cX8_mode 104 = .ok (.iload_n 2, 1) := by decide +kernel
theorem dX8_mode_105 : decode cX8_mode 105 = .ok (.iaload, 1) := by decide +kernel
theorem dX8_mode_106 : decode cX8_mode 106 = .ok (.ireturn, 1) := by decide +kernel
theorem dX8_change_0 : decode cX8_change 0 = .ok (.aload_n 0, 1) := by decide +kernel
theorem dX8_change_1 : decode cX8_change 1 = .ok (.aload_n 0, 1) := by decide +kernel
theorem dX8_change_2 : decode cX8_change 2 = .ok (.iload_n 1, 1) := by decide +kernel
theorem dX8_change_3 : decode cX8_change 3 = .ok (.invokevirtual 194, 3) := by decide +kernel
theorem dX8_change_6 : decode cX8_change 6 = .ok (.ifCond .eq 11, 3) := by decide +kernel
theorem dX8_change_9 : decode cX8_change 9 = .ok (.iload_n 2, 1) := by decide +kernel
theorem dX8_change_10 : decode cX8_change 10 = .ok (.ifCond .lt 7, 3) := by decide +kernel
theorem dX8_change_13 : decode cX8_change 13 = .ok (.iconst 0, 1) := by decide +kernel
theorem dX8_change_14 : decode cX8_change 14 = .ok (.goto 4, 3) := by decide +kernel
theorem dX8_change_17 : decode cX8_change 17 = .ok (.iconst 1, 1) := by decide +kernel
theorem dX8_change_18 : decode cX8_change 18 = .ok (.putfield 90, 3) := by decide +kernel
theorem dX8_change_21 : decode cX8_change 21 = .ok (.iload_n 2, 1) := by decide +kernel
theorem dX8_change_22 : decode cX8_change 22 = .ok (.istore_n 3, 1) := by decide +kernel
theorem dX8_change_23 : decode cX8_change 23 = .ok (.iconst 0, 1) := by decide +kernel
theorem dX8_change_24 : decode cX8_change 24 = .ok (.istore 4, 2) := by decide +kernel
theorem dX8_change_26 : decode cX8_change 26 = .ok (.iload 4, 2) := by decide +kernel
theorem dX8_change_28 : decode cX8_change 28 = .ok (.aload_n 0, 1) := by decide +kernel
theorem dX8_change_29 : decode cX8_change 29 = .ok (.getfield 7, 3) := by decide +kernel
theorem dX8_change_32 : decode cX8_change 32 = .ok (.iconst 0, 1) := by decide +kernel
theorem dX8_change_33 : decode cX8_change 33 = .ok (.iaload, 1) := by decide +kernel
theorem dX8_change_34 : decode cX8_change 34 = .ok (.if_icmp .ge 69, 3) := by decide +kernel
theorem dX8_change_37 : decode cX8_change 37 = .ok (.aload_n 0, 1) := by decide +kernel
theorem dX8_change_38 : decode cX8_change 38 = .ok (.getfield 90, 3) := by decide +kernel
theorem dX8_change_41 : decode cX8_change 41 = .ok (.ifCond .ne 62, 3) := by decide +kernel
theorem dX8_change_44 : decode cX8_change 44 = .ok (.aload_n 0, 1) := by decide +kernel
theorem dX8_change_45 : decode cX8_change 45 = .ok (.getfield 7, 3) := by decide +kernel
theorem dX8_change_48 : decode cX8_change 48 = .ok (.iload_n 1, 1) := by decide +kernel
theorem dX8_change_49 : decode cX8_change 49 = .ok (.iload 4, 2) := by decide +kernel
theorem dX8_change_51 : decode cX8_change 51 = .ok (.invokestatic 96, 3) := by decide +kernel
theorem dX8_change_54 : decode cX8_change 54 = .ok (.iaload, 1) := by decide +kernel
theorem dX8_change_55 : decode cX8_change 55 = .ok (.aload_n 0, 1) := by decide +kernel
theorem dX8_change_56 : decode cX8_change 56 = .ok (.iload_n 1, 1) := by decide +kernel
theorem dX8_change_57 : decode cX8_change 57 = .ok (.iload 4, 2) := by decide +kernel
theorem dX8_change_59 : decode cX8_change 59 = .ok (.invokevirtual 176, 3) := by decide +kernel
theorem dX8_change_62 : decode cX8_change 62 = .ok (.if_icmp .eq 7, 3) := by decide +kernel
theorem dX8_change_65 : decode cX8_change 65 = .ok (.iconst 1, 1) := by decide +kernel
theorem dX8_change_66 : decode cX8_change 66 = .ok (.goto 4, 3) := by decide +kernel
theorem dX8_change_69 : decode cX8_change 69 = .ok (.iconst 0, 1) := by decide +kernel
theorem dX8_change_70 : decode cX8_change 70 = .ok (.istore 5, 2) := by decide +kernel
theorem dX8_change_72 : decode cX8_change 72 = .ok (.iload 5, 2) := by decide +kernel
theorem dX8_change_74 : decode cX8_change 74 = .ok (.ifCond .eq 10, 3) := by decide +kernel
theorem dX8_change_77 : decode cX8_change 77 = .ok (.iload_n 3, 1) := by decide +kernel
theorem dX8_change_78 : decode cX8_change 78 = .ok (.ifCond .ne 6, 3) := by decide +kernel
theorem dX8_change_81 : decode cX8_change 81 = .ok (.iload 4, 2) := by decide +kernel
theorem dX8_change_83 : decode cX8_change 83 = .ok (.ireturn, 1) := by decide +kernel
theorem dX8_change_84 : decode cX8_change 84 = .ok (.iload_n 3, 1) := by decide +kernel
theorem dX8_change_85 : decode cX8_change 85 = .ok (.iload 5, 2) := by decide +kernel
theorem dX8_change_87 : decode cX8_change 87 = .ok (.ifCond .eq 7, 3) := by decide +kernel
theorem dX8_change_90 : decode cX8_change 90 = .ok (.iconst 1, 1) := by decide +kernel
theorem dX8_change_91 : decode cX8_change 91 = .ok (.goto 4, 3) := by decide +kernel
theorem dX8_change_94 : decode cX8_change 94 = .ok (.iconst 0, 1) := by decide +kernel
theorem dX8_change_95 : decode cX8_change 95 = .ok (.isub, 1) := by decide +kernel
theorem dX8_change_96 : decode cX8_change 96 = .ok (.istore_n 3, 1) := by decide +kernel
theorem dX8_change_97 : decode cX8_change 97 = .ok (.iinc 4 1, 3) := by decide +kernel
theorem dX8_change_100 : decode cX8_change 100 = .ok (.goto (-74), 3) := by decide +kernel
theorem dX8_change_103 : decode cX8_change 103 = .ok (.aload_n 0, 1) := by decide +kernel
theorem dX8_change_104 : decode cX8_change 104 = .ok (.getfield 90, 3) := by decide +kernel
theorem dX8_change_107 : decode cX8_change 107 = .ok (.ifCond .le 7, 3) := by decide +kernel
theorem dX8_change_110 : decode cX8_change 110 = .ok (.iconst 0, 1) := by decide +kernel
theorem dX8_change_111 : decode cX8_change 111 = .ok (.goto 4, 3) := by decide +kernel
theorem dX8_change_114 : decode cX8_change 114 = .ok (.iconst (-1), 1) := by decide +kernel
theorem dX8_change_115 : decode cX8_change 115 = .ok (.ireturn, 1) := by decide +kernel
theorem dX8_rowFrom_0 : decode cX8_rowFrom 0 = .ok (.iload_n 2, 1) := by decide +kernel
theorem dX8_rowFrom_1 : decode cX8_rowFrom 1 = .ok (.istore 4, 2) := by decide +kernel
theorem dX8_rowFrom_3 : decode cX8_rowFrom 3 = .ok (.iload 4, 2) := by decide +kernel
theorem dX8_rowFrom_5 : decode cX8_rowFrom 5 = .ok (.aload_n 0, 1) := by decide +kernel
theorem dX8_rowFrom_6 : decode cX8_rowFrom 6 = .ok (.getfield 7, 3) := by decide +kernel
theorem dX8_rowFrom_9 : decode cX8_rowFrom 9 = .ok (.iconst 0, 1) := by decide +kernel
theorem dX8_rowFrom_10 : decode cX8_rowFrom 10 = .ok (.iaload, 1) := by decide +kernel
theorem dX8_rowFrom_11 : decode cX8_rowFrom 11 = .ok (.if_icmp .ge 24, 3) := by decide +kernel
theorem dX8_rowFrom_14 : decode cX8_rowFrom 14 = .ok (.aload_n 0, 1) := by decide +kernel
theorem dX8_rowFrom_15 : decode cX8_rowFrom 15 = .ok (.getfield 7, 3) := by decide +kernel
theorem dX8_rowFrom_18 : decode cX8_rowFrom 18 = .ok (.iload_n 1, 1) := by decide +kernel
theorem dX8_rowFrom_19 : decode cX8_rowFrom 19 = .ok (.iload 4, 2) := by decide +kernel
theorem dX8_rowFrom_21 : decode cX8_rowFrom 21 = .ok (.invokestatic 96, 3) := by decide +kernel
theorem dX8_rowFrom_24 : decode cX8_rowFrom 24 = .ok (.iaload, 1) := by decide +kernel
theorem dX8_rowFrom_25 : decode cX8_rowFrom 25 = .ok (.iload_n 3, 1) := by decide +kernel
theorem dX8_rowFrom_26 : decode cX8_rowFrom 26 = .ok (.if_icmp .ne 9, 3) := by decide +kernel
theorem dX8_rowFrom_29 : decode cX8_rowFrom 29 = .ok (.iinc 4 1, 3) := by decide +kernel
theorem dX8_rowFrom_32 : decode cX8_rowFrom 32 = .ok (.goto (-29), 3) := by decide +kernel
theorem dX8_rowFrom_35 : decode cX8_rowFrom 35 = .ok (.iload 4, 2) := by decide +kernel
theorem dX8_rowFrom_37 : decode cX8_rowFrom 37 = .ok (.iload_n 2, 1) := by decide +kernel
theorem dX8_rowFrom_38 : decode cX8_rowFrom 38 = .ok (.isub, 1) := by decide +kernel
theorem dX8_rowFrom_39 : decode cX8_rowFrom 39 = .ok (.ireturn, 1) := by decide +kernel
theorem dX8_beginsRow_0 : decode cX8_beginsRow 0 = .ok (.aload_n 0, 1) := by decide +kernel
theorem dX8_beginsRow_1 : decode cX8_beginsRow 1 = .ok (.getfield 7, 3) := by decide +kernel
theorem dX8_beginsRow_4 : decode cX8_beginsRow 4 = .ok (.iload_n 1, 1) := by decide +kernel
theorem dX8_beginsRow_5 : decode cX8_beginsRow 5 = .ok (.iload_n 2, 1) := by decide +kernel
theorem dX8_beginsRow_6 : decode cX8_beginsRow 6 = .ok (.invokestatic 96, 3) := by decide +kernel
theorem dX8_beginsRow_9 : decode cX8_beginsRow 9 = .ok (.iaload, 1) := by decide +kernel
theorem dX8_beginsRow_10 : decode cX8_beginsRow 10 = .ok (.iload_n 3, 1) := by decide +kernel
theorem dX8_beginsRow_11 : decode cX8_beginsRow 11 = .ok (.if_icmp .ne 27, 3) := by decide +kernel
theorem dX8_beginsRow_14 : decode cX8_beginsRow 14 = .ok (.iload_n 2, 1) := by decide +kernel
theorem dX8_beginsRow_15 : decode cX8_beginsRow 15 = .ok (.ifCond .eq 19, 3) := by decide +kernel
theorem dX8_beginsRow_18 : decode cX8_beginsRow 18 = .ok (.aload_n 0, 1) := by decide +kernel
theorem dX8_beginsRow_19 : decode cX8_beginsRow 19 = .ok (.getfield 7, 3) := by decide +kernel
theorem dX8_beginsRow_22 : decode cX8_beginsRow 22 = .ok (.iload_n 1, 1) := by decide +kernel
theorem dX8_beginsRow_23 : decode cX8_beginsRow 23 = .ok (.iload_n 2, 1) := by decide +kernel
theorem dX8_beginsRow_24 : decode cX8_beginsRow 24 = .ok (.iconst 1, 1) := by decide +kernel
theorem dX8_beginsRow_25 : decode cX8_beginsRow 25 = .ok (.isub, 1) := by decide +kernel
theorem dX8_beginsRow_26 : decode cX8_beginsRow 26 = .ok (.invokestatic 96, 3) := by decide +kernel
theorem dX8_beginsRow_29 : decode cX8_beginsRow 29 = .ok (.iaload, 1) := by decide +kernel
theorem dX8_beginsRow_30 : decode cX8_beginsRow 30 = .ok (.iload_n 3, 1) := by decide +kernel
theorem dX8_beginsRow_31 : decode cX8_beginsRow 31 = .ok (.if_icmp .eq 7, 3) := by decide +kernel
theorem dX8_beginsRow_34 : decode cX8_beginsRow 34 = .ok (.iconst 1, 1) := by decide +kernel
theorem dX8_beginsRow_35 : decode cX8_beginsRow 35 = .ok (.goto 4, 3) := by decide +kernel
theorem dX8_beginsRow_38 : decode cX8_beginsRow 38 = .ok (.iconst 0, 1) := by decide +kernel
theorem dX8_beginsRow_39 : decode cX8_beginsRow 39 = .ok (.ireturn, 1) := by decide +kernel
theorem dX8_longest_0 : decode cX8_longest 0 = .ok (.aload_n 0, 1) := by decide +kernel
theorem dX8_longest_1 : decode cX8_longest 1 = .ok (.iload_n 1, 1) := by decide +kernel
theorem dX8_longest_2 : decode cX8_longest 2 = .ok (.iconst 0, 1) := by decide +kernel
theorem dX8_longest_3 : decode cX8_longest 3 = .ok (.iconst 1, 1) := by decide +kernel
theorem dX8_longest_4 : decode cX8_longest 4 = .ok (.invokestatic 124, 3) := by decide +kernel
theorem dX8_longest_7 : decode cX8_longest 7 = .ok (.ifCond .eq 7, 3) := by decide +kernel
theorem dX8_longest_10 : decode cX8_longest 10 = .ok (.iconst 0, 1) := by decide +kernel
theorem dX8_longest_11 : decode cX8_longest 11 = .ok (.goto 4, 3) := by decide +kernel
theorem dX8_longest_14 : decode cX8_longest 14 = .ok (.iconst 1, 1) := by decide +kernel
theorem dX8_longest_15 : decode cX8_longest 15 = .ok (.putfield 90, 3) := by decide +kernel
theorem dX8_longest_18 : decode cX8_longest 18 = .ok (.iconst 0, 1) := by decide +kernel
theorem dX8_longest_19 : decode cX8_longest 19 = .ok (.istore_n 2, 1) := by decide +kernel
theorem dX8_longest_20 : decode cX8_longest 20 = .ok (.iconst 0, 1) := by decide +kernel
theorem dX8_longest_21 : decode cX8_longest 21 = .ok (.istore_n 3, 1) := by decide +kernel
theorem dX8_longest_22 : decode cX8_longest 22 = .ok (.iload_n 3, 1) := by decide +kernel
theorem dX8_longest_23 : decode cX8_longest 23 = .ok (.aload_n 0, 1) := by decide +kernel
theorem dX8_longest_24 : decode cX8_longest 24 = .ok (.getfield 7, 3) := by decide +kernel
theorem dX8_longest_27 : decode cX8_longest 27 = .ok (.iconst 1, 1) := by decide +kernel
theorem dX8_longest_28 : decode cX8_longest 28 = .ok (.iaload, 1) := by decide +kernel
theorem dX8_longest_29 : decode cX8_longest 29 = .ok (.if_icmp .ge 59, 3) := by decide +kernel
theorem dX8_longest_32 : decode cX8_longest 32 = .ok (.aload_n 0, 1) := by decide +kernel
theorem dX8_longest_33 : decode cX8_longest 33 = .ok (.getfield 90, 3) := by decide +kernel
theorem dX8_longest_36 : decode cX8_longest 36 = .ok (.ifCond .ne 52, 3) := by decide +kernel
theorem dX8_longest_39 : decode cX8_longest 39 = .ok (.iconst 0, 1) := by decide +kernel
theorem dX8_longest_40 : decode cX8_longest 40 = .ok (.istore 4, 2) := by decide +kernel
theorem dX8_longest_42 : decode cX8_longest 42 = .ok (.iload 4, 2) := by decide +kernel
theorem dX8_longest_44 : decode cX8_longest 44 = .ok (.aload_n 0, 1) := by decide +kernel
theorem dX8_longest_45 : decode cX8_longest 45 = .ok (.getfield 7, 3) := by decide +kernel
theorem dX8_longest_48 : decode cX8_longest 48 = .ok (.iconst 0, 1) := by decide +kernel
theorem dX8_longest_49 : decode cX8_longest 49 = .ok (.iaload, 1) := by decide +kernel
theorem dX8_longest_50 : decode cX8_longest 50 = .ok (.if_icmp .ge 32, 3) := by decide +kernel
theorem dX8_longest_53 : decode cX8_longest 53 = .ok (.aload_n 0, 1) := by decide +kernel
theorem dX8_longest_54 : decode cX8_longest 54 = .ok (.iload_n 3, 1) := by decide +kernel
theorem dX8_longest_55 : decode cX8_longest 55 = .ok (.iload 4, 2) := by decide +kernel
theorem dX8_longest_57 : decode cX8_longest 57 = .ok (.iload_n 1, 1) := by decide +kernel
theorem dX8_longest_58 : decode cX8_longest 58 = .ok (.invokevirtual 210, 3) := by decide +kernel
theorem dX8_longest_61 : decode cX8_longest 61 = .ok (.istore 5, 2) := by decide +kernel
theorem dX8_longest_63 : decode cX8_longest 63 = .ok (.iload 5, 2) := by decide +kernel
theorem dX8_longest_65 : decode cX8_longest 65 = .ok (.iload_n 2, 1) := by decide +kernel
theorem dX8_longest_66 : decode cX8_longest 66 = .ok (.if_icmp .le 8, 3) := by decide +kernel
theorem dX8_longest_69 : decode cX8_longest 69 = .ok (.iload 5, 2) := by decide +kernel
theorem dX8_longest_71 : decode cX8_longest 71 = .ok (.goto 4, 3) := by decide +kernel
theorem dX8_longest_74 : decode cX8_longest 74 = .ok (.iload_n 2, 1) := by decide +kernel
theorem dX8_longest_75 : decode cX8_longest 75 = .ok (.istore_n 2, 1) := by decide +kernel
theorem dX8_longest_76 : decode cX8_longest 76 = .ok (.iinc 4 1, 3) := by decide +kernel
theorem dX8_longest_79 : decode cX8_longest 79 = .ok (.goto (-37), 3) := by decide +kernel
theorem dX8_longest_82 : decode cX8_longest 82 = .ok (.iinc 3 1, 3) := by decide +kernel
theorem dX8_longest_85 : decode cX8_longest 85 = .ok (.goto (-63), 3) := by decide +kernel
theorem dX8_longest_88 : decode cX8_longest 88 = .ok (.iload_n 2, 1) := by decide +kernel
theorem dX8_longest_89 : decode cX8_longest 89 = .ok (.ireturn, 1) := by decide +kernel
theorem dX8_runsOf_0 : decode cX8_runsOf 0 = .ok (.aload_n 0, 1) := by decide +kernel
theorem dX8_runsOf_1 : decode cX8_runsOf 1 = .ok (.iload_n 1, 1) := by decide +kernel
theorem dX8_runsOf_2 : decode cX8_runsOf 2 = .ok (.iconst 0, 1) := by decide +kernel
theorem dX8_runsOf_3 : decode cX8_runsOf 3 = .ok (.iconst 1, 1) := by decide +kernel
theorem dX8_runsOf_4 : decode cX8_runsOf 4 = .ok (.invokestatic 124, 3) := by decide +kernel
theorem dX8_runsOf_7 : decode cX8_runsOf 7 = .ok (.ifCond .eq 17, 3) := by decide +kernel
theorem dX8_runsOf_10 : decode cX8_runsOf 10 = .ok (.iload_n 2, 1) := by decide +kernel
theorem dX8_runsOf_11 : decode cX8_runsOf 11 = .ok (.iconst 1, 1) := by decide +kernel
theorem dX8_runsOf_12 : decode cX8_runsOf 12 = .ok (.bipush 40, 2) := by decide +kernel
theorem dX8_runsOf_14 : decode cX8_runsOf 14 = .ok (.invokestatic 124, 3) := by decide +kernel
theorem dX8_runsOf_17 : decode cX8_runsOf 17 = .ok (.ifCond .eq 7, 3) := by decide +kernel
theorem dX8_runsOf_20 : decode cX8_runsOf 20 = .ok (.iconst 0, 1) := by decide +kernel
theorem dX8_runsOf_21 : decode cX8_runsOf 21 = .ok (.goto 4, 3) := by decide +kernel
theorem dX8_runsOf_24 : decode cX8_runsOf 24 = .ok (.iconst 1, 1) := by decide +kernel
theorem dX8_runsOf_25 : decode cX8_runsOf 25 = .ok (.putfield 90, 3) := by decide +kernel
theorem dX8_runsOf_28 : decode cX8_runsOf 28 = .ok (.iconst 0, 1) := by decide +kernel
theorem dX8_runsOf_29 : decode cX8_runsOf 29 = .ok (.istore_n 3, 1) := by decide +kernel
theorem dX8_runsOf_30 : decode cX8_runsOf 30 = .ok (.iconst 0, 1) := by decide +kernel
theorem dX8_runsOf_31 : decode cX8_runsOf 31 = .ok (.istore 4, 2) := by decide +kernel
theorem dX8_runsOf_33 : decode cX8_runsOf 33 = .ok (.iload 4, 2) := by decide +kernel
theorem dX8_runsOf_35 : decode cX8_runsOf 35 = .ok (.aload_n 0, 1) := by decide +kernel
theorem dX8_runsOf_36 : decode cX8_runsOf 36 = .ok (.getfield 7, 3) := by decide +kernel
theorem dX8_runsOf_39 : decode cX8_runsOf 39 = .ok (.iconst 1, 1) := by decide +kernel
theorem dX8_runsOf_40 : decode cX8_runsOf 40 = .ok (.iaload, 1) := by decide +kernel
theorem dX8_runsOf_41 : decode cX8_runsOf 41 = .ok (.if_icmp .ge 69, 3) := by decide +kernel
theorem dX8_runsOf_44 : decode cX8_runsOf 44 = .ok (.aload_n 0, 1) := by decide +kernel
theorem dX8_runsOf_45 : decode cX8_runsOf 45 = .ok (.getfield 90, 3) := by decide +kernel
theorem dX8_runsOf_48 : decode cX8_runsOf 48 = .ok (.ifCond .ne 62, 3) := by decide +kernel
theorem dX8_runsOf_51 : decode cX8_runsOf 51 = .ok (.iconst 0, 1) := by decide +kernel
theorem dX8_runsOf_52 : decode cX8_runsOf 52 = .ok (.istore 5, 2) := by decide +kernel
theorem dX8_runsOf_54 : decode cX8_runsOf 54 = .ok (.iload 5, 2) := by decide +kernel
theorem dX8_runsOf_56 : decode cX8_runsOf 56 = .ok (.aload_n 0, 1) := by decide +kernel
theorem dX8_runsOf_57 : decode cX8_runsOf 57 = .ok (.getfield 7, 3) := by decide +kernel
theorem dX8_runsOf_60 : decode cX8_runsOf 60 = .ok (.iconst 0, 1) := by decide +kernel
theorem dX8_runsOf_61 : decode cX8_runsOf 61 = .ok (.iaload, 1) := by decide +kernel
theorem dX8_runsOf_62 : decode cX8_runsOf 62 = .ok (.if_icmp .ge 42, 3) := by decide +kernel
theorem dX8_runsOf_65 : decode cX8_runsOf 65 = .ok (.iload_n 3, 1) := by decide +kernel
theorem dX8_runsOf_66 : decode cX8_runsOf 66 = .ok (.aload_n 0, 1) := by decide +kernel
theorem dX8_runsOf_67 : decode cX8_runsOf 67 = .ok (.iload 4, 2) := by decide +kernel
theorem dX8_runsOf_69 : decode cX8_runsOf 69 = .ok (.iload 5, 2) := by decide +kernel
theorem dX8_runsOf_71 : decode cX8_runsOf 71 = .ok (.iload_n 1, 1) := by decide +kernel
theorem dX8_runsOf_72 : decode cX8_runsOf 72 = .ok (.invokevirtual 214, 3) := by decide +kernel
theorem dX8_runsOf_75 : decode cX8_runsOf 75 = .ok (.ifCond .eq 20, 3) := by decide +kernel
theorem dX8_runsOf_78 : decode cX8_runsOf 78 = .ok (.aload_n 0, 1) := by decide +kernel
theorem dX8_runsOf_79 : decode cX8_runsOf 79 = .ok (.iload 4, 2) := by decide +kernel
theorem dX8_runsOf_81 : decode cX8_runsOf 81 = .ok (.iload 5, 2) := by decide +kernel
theorem dX8_runsOf_83 : decode cX8_runsOf 83 = .ok (.iload_n 1, 1) := by decide +kernel
theorem dX8_runsOf_84 : decode cX8_runsOf 84 = .ok (.invokevirtual 210, 3) := by decide +kernel
theorem dX8_runsOf_87 : decode cX8_runsOf 87 = .ok (.iload_n 2, 1) := by decide +kernel
theorem dX8_runsOf_88 : decode cX8_runsOf 88 = .ok (.if_icmp .ne 7, 3) := by decide +kernel
theorem dX8_runsOf_91 : decode cX8_runsOf 91 = .ok (.iconst 1, 1) := by decide +kernel
theorem dX8_runsOf_92 : decode cX8_runsOf 92 = .ok (.goto 4, 3) := by decide +kernel
theorem dX8_runsOf_95 : decode cX8_runsOf 95 = .ok (.iconst 0, 1) := by decide +kernel
theorem dX8_runsOf_96 : decode cX8_runsOf 96 = .ok (.iadd, 1) := by decide +kernel
theorem dX8_runsOf_97 : decode cX8_runsOf 97 = .ok (.istore_n 3, 1) := by decide +kernel
theorem dX8_runsOf_98 : decode cX8_runsOf 98 = .ok (.iinc 5 1, 3) := by decide +kernel
theorem dX8_runsOf_101 : decode cX8_runsOf 101 = .ok (.goto (-47), 3) := by decide +kernel
theorem dX8_runsOf_104 : decode cX8_runsOf 104 = .ok (.iinc 4 1, 3) := by decide +kernel
theorem dX8_runsOf_107 : decode cX8_runsOf 107 = .ok (.goto (-74), 3) := by decide +kernel
theorem dX8_runsOf_110 : decode cX8_runsOf 110 = .ok (.iload_n 3, 1) := by decide +kernel
theorem dX8_runsOf_111 : decode cX8_runsOf 111 = .ok (.ireturn, 1) := by decide +kernel
theorem dX8_readBelow_0 : decode cX8_readBelow 0 = .ok (.aload_n 0, 1) := by decide +kernel
theorem dX8_readBelow_1 : decode cX8_readBelow 1 = .ok (.aload_n 0, 1) := by decide +kernel
theorem dX8_readBelow_2 : decode cX8_readBelow 2 = .ok (.iload_n 1, 1) := by decide +kernel
theorem dX8_readBelow_3 : decode cX8_readBelow 3 = .ok (.invokevirtual 194, 3) := by decide +kernel
theorem dX8_readBelow_6 : decode cX8_readBelow 6 = .ok (.ifCond .eq 20, 3) := by decide +kernel
theorem dX8_readBelow_9 : decode cX8_readBelow 9 = .ok (.iload_n 2, 1) := by decide +kernel
theorem dX8_readBelow_10 : decode cX8_readBelow 10 = .ok (.iconst (-1), 1) := by decide +kernel
theorem dX8_readBelow_11 : decode cX8_readBelow 11 = .ok (.if_icmp .eq 11, 3) := by decide +kernel
theorem dX8_readBelow_14 : decode cX8_readBelow 14 = .ok (.aload_n 0, 1) := by decide +kernel
theorem dX8_readBelow_15 : decode cX8_readBelow 15 = .ok (.iload_n 2, 1) := by decide +kernel
theorem dX8_readBelow_16 : decode cX8_readBelow 16 = .ok (.invokevirtual 194, 3) := by decide +kernel
theorem dX8_readBelow_19 : decode cX8_readBelow 19 = .ok (.ifCond .eq 7, 3) := by decide +kernel
theorem dX8_readBelow_22 : decode cX8_readBelow 22 = .ok (.iconst 0, 1) := by decide +kernel
theorem dX8_readBelow_23 : decode cX8_readBelow 23 = .ok (.goto 4, 3) := by decide +kernel
theorem dX8_readBelow_26 : decode cX8_readBelow 26 = .ok (.iconst 1, 1) := by decide +kernel
theorem dX8_readBelow_27 : decode cX8_readBelow 27 = .ok (.putfield 90, 3) := by decide +kernel
theorem dX8_readBelow_30 : decode cX8_readBelow 30 = .ok (.aload_n 0, 1) := by decide +kernel
theorem dX8_readBelow_31 : decode cX8_readBelow 31 = .ok (.getfield 90, 3) := by decide +kernel
theorem dX8_readBelow_34 : decode cX8_readBelow 34 = .ok (.ifCond .le 5, 3) := by decide +kernel
theorem dX8_readBelow_37 : decode cX8_readBelow 37 = .ok (.iconst 0, 1) := by decide +kernel
theorem dX8_readBelow_38 : decode cX8_readBelow 38 = .ok (.ireturn, 1) := by decide +kernel
theorem dX8_readBelow_39 : decode cX8_readBelow 39 = .ok (.aload_n 0, 1) := by decide +kernel
theorem dX8_readBelow_40 : decode cX8_readBelow 40 = .ok (.iload_n 1, 1) := by decide +kernel
theorem dX8_readBelow_41 : decode cX8_readBelow 41 = .ok (.invokevirtual 163, 3) := by decide +kernel
theorem dX8_readBelow_44 : decode cX8_readBelow 44 = .ok (.aload_n 0, 1) := by decide +kernel
theorem dX8_readBelow_45 : decode cX8_readBelow 45 = .ok (.aload_n 0, 1) := by decide +kernel
theorem dX8_readBelow_46 : decode cX8_readBelow 46 = .ok (.getfield 7, 3) := by decide +kernel
theorem dX8_readBelow_49 : decode cX8_readBelow 49 = .ok (.iload_n 2, 1) := by decide +kernel
theorem dX8_readBelow_50 : decode cX8_readBelow 50 = .ok (.iconst (-1), 1) := by decide +kernel
theorem dX8_readBelow_51 : decode cX8_readBelow 51 = .ok (.if_icmp .ne 7, 3) := by decide +kernel
theorem dX8_readBelow_54 : decode cX8_readBelow 54 = .ok (.iconst (-1), 1) := by decide +kernel
theorem dX8_readBelow_55 : decode cX8_readBelow 55 = .ok (.goto 8, 3) := by decide +kernel
theorem dX8_readBelow_58 : decode cX8_readBelow 58 = .ok (.iload_n 2, 1) := by decide +kernel
theorem dX8_readBelow_59 : decode cX8_readBelow 59 = .ok (.iconst 0, 1) := by decide +kernel
theorem dX8_readBelow_60 : decode cX8_readBelow 60 = .ok (.invokestatic 96, 3) := by decide +kernel
theorem dX8_readBelow_63 : decode cX8_readBelow 63 = .ok (.invokevirtual 100, 3) := by decide +kernel
theorem dX8_readBelow_66 : decode cX8_readBelow 66 = .ok (.aload_n 0, 1) := by decide +kernel
theorem dX8_readBelow_67 : decode cX8_readBelow 67 = .ok (.invokevirtual 217, 3) := by decide +kernel
theorem dX8_readBelow_70 : decode cX8_readBelow 70 = .ok (.ifCond .ne 5, 3) := by decide +kernel
theorem dX8_readBelow_73 : decode cX8_readBelow 73 = .ok (.iconst (-1), 1) := by decide +kernel
theorem dX8_readBelow_74 : decode cX8_readBelow 74 = .ok (.ireturn, 1) := by decide +kernel
theorem dX8_readBelow_75 : decode cX8_readBelow 75 = .ok (.iconst 0, 1) := by decide +kernel
theorem dX8_readBelow_76 : decode cX8_readBelow 76 = .ok (.istore_n 3, 1) := by decide +kernel
theorem dX8_readBelow_77 : decode cX8_readBelow 77 = .ok (.iconst 0, 1) := by decide +kernel
theorem dX8_readBelow_78 : decode cX8_readBelow 78 = .ok (.istore 4, 2) := by decide +kernel
theorem dX8_readBelow_80 : decode cX8_readBelow 80 = .ok (.iload 4, 2) := by decide +kernel
theorem dX8_readBelow_82 : decode cX8_readBelow 82 = .ok (.aload_n 0, 1) := by decide +kernel
theorem dX8_readBelow_83 : decode cX8_readBelow 83 = .ok (.getfield 93, 3) := by decide +kernel
theorem dX8_readBelow_86 : decode cX8_readBelow 86 = .ok (.if_icmp .ge 34, 3) := by decide +kernel
theorem dX8_readBelow_89 : decode cX8_readBelow 89 = .ok (.iload_n 3, 1) := by decide +kernel
theorem dX8_readBelow_90 : decode cX8_readBelow 90 = .ok (.aload_n 0, 1) := by decide +kernel
theorem dX8_readBelow_91 : decode cX8_readBelow 91 = .ok (.getfield 44, 3) := by decide +kernel
theorem dX8_readBelow_94 : decode cX8_readBelow 94 = .ok (.iload 4, 2) := by decide +kernel
theorem dX8_readBelow_96 : decode cX8_readBelow 96 = .ok (.iaload, 1) := by decide +kernel
theorem dX8_readBelow_97 : decode cX8_readBelow 97 = .ok (.aload_n 0, 1) := by decide +kernel
theorem dX8_readBelow_98 : decode cX8_readBelow 98 = .ok (.getfield 29, 3) := by decide +kernel
theorem dX8_readBelow_101 : decode cX8_readBelow 101 = .ok (.iload 4, 2) := by decide +kernel
theorem dX8_readBelow_103 : decode cX8_readBelow 103 = .ok (.iaload, 1) := by decide +kernel
theorem dX8_readBelow_104 : decode cX8_readBelow 104 = .ok (.if_icmp .ne 7, 3) := by decide +kernel
theorem dX8_readBelow_107 : decode cX8_readBelow 107 = .ok (.iconst 0, 1) := by decide +kernel
theorem dX8_readBelow_108 : decode cX8_readBelow 108 = .ok (.goto 4, 3) := by decide +kernel
theorem dX8_readBelow_111 : decode cX8_readBelow 111 = .ok (.iconst 1, 1) := by decide +kernel
theorem dX8_readBelow_112 : decode cX8_readBelow 112 = .ok (.iadd, 1) := by decide +kernel
theorem dX8_readBelow_113 : decode cX8_readBelow 113 = .ok (.istore_n 3, 1) := by decide +kernel
theorem dX8_readBelow_114 : decode cX8_readBelow 114 = .ok (.iinc 4 1, 3) := by decide +kernel
theorem dX8_readBelow_117 : decode cX8_readBelow 117 = .ok (.goto (-37), 3) := by decide +kernel
theorem dX8_readBelow_120 : decode cX8_readBelow 120 = .ok (.iload_n 3, 1) := by decide +kernel
theorem dX8_readBelow_121 : decode cX8_readBelow 121 = .ok (.ireturn, 1) := by decide +kernel
theorem dX8_keeps_0 : decode cX8_keeps 0 = .ok (.aload_n 0, 1) := by decide +kernel
theorem dX8_keeps_1 : decode cX8_keeps 1 = .ok (.getfield 191, 3) := by decide +kernel
theorem dX8_keeps_4 : decode cX8_keeps 4 = .ok (.bipush 10, 2) := by decide +kernel
theorem dX8_keeps_6 : decode cX8_keeps 6 = .ok (.if_icmp .ne 44, 3) := by decide +kernel
theorem dX8_keeps_9 : decode cX8_keeps 9 = .ok (.iconst 0, 1) := by decide +kernel
theorem dX8_keeps_10 : decode cX8_keeps 10 = .ok (.istore_n 1, 1) := by decide +kernel
theorem dX8_keeps_11 : decode cX8_keeps 11 = .ok (.iload_n 1, 1) := by decide +kernel
theorem dX8_keeps_12 : decode cX8_keeps 12 = .ok (.sipush 7452, 3) := by decide +kernel
theorem dX8_keeps_15 : decode cX8_keeps 15 = .ok (.if_icmp .ge 25, 3) := by decide +kernel
theorem dX8_keeps_18 : decode cX8_keeps 18 = .ok (.aload_n 0, 1) := by decide +kernel
theorem dX8_keeps_19 : decode cX8_keeps 19 = .ok (.getfield 16, 3) := by decide +kernel
theorem dX8_keeps_22 : decode cX8_keeps 22 = .ok (.iload_n 1, 1) := by decide +kernel
theorem dX8_keeps_23 : decode cX8_keeps 23 = .ok (.aload_n 0, 1) := by decide +kernel
theorem dX8_keeps_24 : decode cX8_keeps 24 = .ok (.getfield 16, 3) := by decide +kernel
theorem dX8_keeps_27 : decode cX8_keeps 27 = .ok (.iload_n 1, 1) := by decide +kernel
theorem dX8_keeps_28 : decode cX8_keeps 28 = .ok (.sipush 828, 3) := by decide +kernel
theorem dX8_keeps_31 : decode cX8_keeps 31 = .ok (.iadd, 1) := by decide +kernel
theorem dX8_keeps_32 : decode cX8_keeps 32 = .ok (.iaload, 1) := by decide +kernel
theorem dX8_keeps_33 : decode cX8_keeps 33 = .ok (.iastore, 1) := by decide +kernel
theorem dX8_keeps_34 : decode cX8_keeps 34 = .ok (.iinc 1 1, 3) := by decide +kernel
theorem dX8_keeps_37 : decode cX8_keeps 37 = .ok (.goto (-26), 3) := by decide +kernel
theorem dX8_keeps_40 : decode cX8_keeps 40 = .ok (.aload_n 0, 1) := by decide +kernel
theorem dX8_keeps_41 : decode cX8_keeps 41 = .ok (.dup, 1) := by decide +kernel
theorem dX8_keeps_42 : decode cX8_keeps 42 = .ok (.getfield 191, 3) := by decide +kernel
theorem dX8_keeps_45 : decode cX8_keeps 45 = .ok (.iconst 1, 1) := by decide +kernel
theorem dX8_keeps_46 : decode cX8_keeps 46 = .ok (.isub, 1) := by decide +kernel
theorem dX8_keeps_47 : decode cX8_keeps 47 = .ok (.putfield 191, 3) := by decide +kernel
theorem dX8_keeps_50 : decode cX8_keeps 50 = .ok (.aload_n 0, 1) := by decide +kernel
theorem dX8_keeps_51 : decode cX8_keeps 51 = .ok (.getfield 7, 3) := by decide +kernel
theorem dX8_keeps_54 : decode cX8_keeps 54 = .ok (.iconst 0, 1) := by decide +kernel
theorem dX8_keeps_55 : decode cX8_keeps 55 = .ok (.aload_n 0, 1) := by decide +kernel
theorem dX8_keeps_56 : decode cX8_keeps 56 = .ok (.getfield 16, 3) := by decide +kernel
theorem dX8_keeps_59 : decode cX8_keeps 59 = .ok (.sipush 828, 3) := by decide +kernel
theorem dX8_keeps_62 : decode cX8_keeps 62 = .ok (.aload_n 0, 1) := by decide +kernel
theorem dX8_keeps_63 : decode cX8_keeps 63 = .ok (.getfield 191, 3) := by decide +kernel
theorem dX8_keeps_66 : decode cX8_keeps 66 = .ok (.imul, 1) := by decide +kernel
theorem dX8_keeps_67 : decode cX8_keeps 67 = .ok (.invokestatic 86, 3) := by decide +kernel
theorem dX8_keeps_70 : decode cX8_keeps 70 = .ok (.aload_n 0, 1) := by decide +kernel
theorem dX8_keeps_71 : decode cX8_keeps 71 = .ok (.dup, 1) := by decide +kernel
theorem dX8_keeps_72 : decode cX8_keeps 72 = .ok (.getfield 191, 3) := by decide +kernel
theorem dX8_keeps_75 : decode cX8_keeps 75 = .ok (.iconst 1, 1) := by decide +kernel
theorem dX8_keeps_76 : decode cX8_keeps 76 = .ok (.iadd, 1) := by decide +kernel
theorem dX8_keeps_77 : decode cX8_keeps 77 = .ok (.putfield 191, 3) := by decide +kernel
theorem dX8_keeps_80 : decode cX8_keeps 80 = .ok (.return_, 1) := by decide +kernel
theorem dX8_highOf_0 : decode cX8_highOf 0 = .ok (.iload_n 0, 1) := by decide +kernel
theorem dX8_highOf_1 : decode cX8_highOf 1 = .ok (.ifCond .ne 8, 3) := by decide +kernel
theorem dX8_highOf_4 : decode cX8_highOf 4 = .ok (.bipush 8, 2) := by decide +kernel
theorem dX8_highOf_6 : decode cX8_highOf 6 = .ok (.goto 29, 3) := by decide +kernel
theorem dX8_highOf_9 : decode cX8_highOf 9 = .ok (.iload_n 0, 1) := by decide +kernel
theorem dX8_highOf_10 : decode cX8_highOf 10 = .ok (.iconst 1, 1) := by decide +kernel
theorem dX8_highOf_11 : decode cX8_highOf 11 = .ok (.if_icmp .eq 8, 3) := by decide +kernel
theorem dX8_highOf_14 : decode cX8_highOf 14 = .ok (.iload_n 0, 1) := by decide +kernel
theorem dX8_highOf_15 : decode cX8_highOf 15 = .ok (.iconst 2, 1) := by decide +kernel
theorem dX8_highOf_16 : decode cX8_highOf 16 = .ok (.if_icmp .ne 7, 3) := by decide +kernel
theorem dX8_highOf_19 : decode cX8_highOf 19 = .ok (.iconst 1, 1) := by decide +kernel
theorem dX8_highOf_20 : decode cX8_highOf 20 = .ok (.goto 15, 3) := by decide +kernel
theorem dX8_highOf_23 : decode cX8_highOf 23 = .ok (.iload_n 0, 1) := by decide +kernel
theorem dX8_highOf_24 : decode cX8_highOf 24 = .ok (.iconst 3, 1) := by decide +kernel
theorem dX8_highOf_25 : decode cX8_highOf 25 = .ok (.if_icmp .ne 8, 3) := by decide +kernel
theorem dX8_highOf_28 : decode cX8_highOf 28 = .ok (.bipush 9, 2) := by decide +kernel
theorem dX8_highOf_30 : decode cX8_highOf 30 = .ok (.goto 5, 3) := by decide +kernel
theorem dX8_highOf_33 : decode cX8_highOf 33 = .ok (.bipush 99, 2) := by decide +kernel
theorem dX8_highOf_35 : decode cX8_highOf 35 = .ok (.ireturn, 1) := by decide +kernel
theorem dX8_isSetting_0 : decode cX8_isSetting 0 = .ok (.iload_n 0, 1) := by decide +kernel
theorem dX8_isSetting_1 : decode cX8_isSetting 1 = .ok (.iconst 0, 1) := by decide +kernel
theorem dX8_isSetting_2 : decode cX8_isSetting 2 = .ok (.iconst 5, 1) := by decide +kernel
theorem dX8_isSetting_3 : decode cX8_isSetting 3 = .ok (.invokestatic 124, 3) := by decide +kernel
theorem dX8_isSetting_6 : decode cX8_isSetting 6 = .ok (.ifCond .eq 27, 3) := by decide +kernel
theorem dX8_isSetting_9 : decode cX8_isSetting 9 = .ok (.iload_n 1, 1) := by decide +kernel
theorem dX8_isSetting_10 : decode cX8_isSetting 10 = .ok (.iload_n 0, 1) := by decide +kernel
theorem dX8_isSetting_11 : decode cX8_isSetting 11 = .ok (.ifCond .ne 7, 3) := by decide +kernel
theorem dX8_isSetting_14 : decode cX8_isSetting 14 = .ok (.iconst 1, 1) := by decide +kernel
theorem dX8_isSetting_15 : decode cX8_isSetting 15 = .ok (.goto 4, 3) := by decide +kernel
theorem dX8_isSetting_18 : decode cX8_isSetting 18 = .ok (.iconst 0, 1) := by decide +kernel
theorem dX8_isSetting_19 : decode cX8_isSetting 19 = .ok (.iload_n 0, 1) := by decide +kernel
theorem dX8_isSetting_20 : decode cX8_isSetting 20 = .ok (.invokestatic 221, 3) := by decide +kernel
theorem dX8_isSetting_23 : decode cX8_isSetting 23 = .ok (.invokestatic 124, 3) := by decide +kernel
theorem dX8_isSetting_26 : decode cX8_isSetting 26 = .ok (.ifCond .eq 7, 3) := by decide +kernel
theorem dX8_isSetting_29 : decode cX8_isSetting 29 = .ok (.iconst 1, 1) := by decide +kernel
theorem dX8_isSetting_30 : decode cX8_isSetting 30 = .ok (.goto 4, 3) := by decide +kernel
theorem dX8_isSetting_33 : decode cX8_isSetting 33 = .ok (.iconst 0, 1) := by decide +kernel
theorem dX8_isSetting_34 : decode cX8_isSetting 34 = .ok (.ireturn, 1) := by decide +kernel
theorem dX8_set_0 : decode cX8_set 0 = .ok (.aload_n 0, 1) := by decide +kernel
theorem dX8_set_1 : decode cX8_set 1 = .ok (.iload_n 1, 1) := by decide +kernel
theorem dX8_set_2 : decode cX8_set 2 = .ok (.iload_n 2, 1) := by decide +kernel
theorem dX8_set_3 : decode cX8_set 3 = .ok (.invokestatic 224, 3) := by decide +kernel
theorem dX8_set_6 : decode cX8_set 6 = .ok (.ifCond .eq 7, 3) := by decide +kernel
theorem dX8_set_9 : decode cX8_set 9 = .ok (.iconst 0, 1) := by decide +kernel
theorem dX8_set_10 : decode cX8_set 10 = .ok (.goto 4, 3) := by decide +kernel
theorem dX8_set_13 : decode cX8_set 13 = .ok (.iconst 1, 1) := by decide +kernel
theorem dX8_set_14 : decode cX8_set 14 = .ok (.putfield 90, 3) := by decide +kernel
theorem dX8_set_17 : decode cX8_set 17 = .ok (.aload_n 0, 1) := by decide +kernel
theorem dX8_set_18 : decode cX8_set 18 = .ok (.getfield 90, 3) := by decide +kernel
theorem dX8_set_21 : decode cX8_set 21 = .ok (.ifCond .le 5, 3) := by decide +kernel
theorem dX8_set_24 : decode cX8_set 24 = .ok (.iconst 0, 1) := by decide +kernel
theorem dX8_set_25 : decode cX8_set 25 = .ok (.ireturn, 1) := by decide +kernel
theorem dX8_set_26 : decode cX8_set 26 = .ok (.aload_n 0, 1) := by decide +kernel
theorem dX8_set_27 : decode cX8_set 27 = .ok (.invokevirtual 227, 3) := by decide +kernel
theorem dX8_set_30 : decode cX8_set 30 = .ok (.aload_n 0, 1) := by decide +kernel
theorem dX8_set_31 : decode cX8_set 31 = .ok (.getfield 7, 3) := by decide +kernel
theorem dX8_set_34 : decode cX8_set 34 = .ok (.iconst 2, 1) := by decide +kernel
theorem dX8_set_35 : decode cX8_set 35 = .ok (.iload_n 1, 1) := by decide +kernel
theorem dX8_set_36 : decode cX8_set 36 = .ok (.iadd, 1) := by decide +kernel
theorem dX8_set_37 : decode cX8_set 37 = .ok (.iaload, 1) := by decide +kernel
theorem dX8_set_38 : decode cX8_set 38 = .ok (.istore_n 3, 1) := by decide +kernel
theorem dX8_set_39 : decode cX8_set 39 = .ok (.aload_n 0, 1) := by decide +kernel
theorem dX8_set_40 : decode cX8_set 40 = .ok (.getfield 7, 3) := by decide +kernel
theorem dX8_set_43 : decode cX8_set 43 = .ok (.iconst 2, 1) := by decide +kernel
theorem dX8_set_44 : decode cX8_set 44 = .ok (.iload_n 1, 1) := by decide +kernel
theorem dX8_set_45 : decode cX8_set 45 = .ok (.iadd, 1) := by decide +kernel
theorem dX8_set_46 : decode cX8_set 46 = .ok (.iload_n 2, 1) := by decide +kernel
theorem dX8_set_47 : decode cX8_set 47 = .ok (.iastore, 1) := by decide +kernel
theorem dX8_set_48 : decode cX8_set 48 = .ok (.iload_n 3, 1) := by decide +kernel
theorem dX8_set_49 : decode cX8_set 49 = .ok (.ireturn, 1) := by decide +kernel
theorem dX8_lose_0 : decode cX8_lose 0 = .ok (.aload_n 0, 1) := by decide +kernel
theorem dX8_lose_1 : decode cX8_lose 1 = .ok (.iload_n 1, 1) := by decide +kernel
theorem dX8_lose_2 : decode cX8_lose 2 = .ok (.iconst 0, 1) := by decide +kernel
theorem dX8_lose_3 : decode cX8_lose 3 = .ok (.bipush 19, 2) := by decide +kernel
theorem dX8_lose_5 : decode cX8_lose 5 = .ok (.invokestatic 124, 3) := by decide +kernel
theorem dX8_lose_8 : decode cX8_lose 8 = .ok (.ifCond .ne 7, 3) := by decide +kernel
theorem dX8_lose_11 : decode cX8_lose 11 = .ok (.iconst 1, 1) := by decide +kernel
theorem dX8_lose_12 : decode cX8_lose 12 = .ok (.goto 17, 3) := by decide +kernel
theorem dX8_lose_15 : decode cX8_lose 15 = .ok (.iload_n 2, 1) := by decide +kernel
theorem dX8_lose_16 : decode cX8_lose 16 = .ok (.iconst 0, 1) := by decide +kernel
theorem dX8_lose_17 : decode cX8_lose 17 = .ok (.iconst 5, 1) := by decide +kernel
theorem dX8_lose_18 : decode cX8_lose 18 = .ok (.invokestatic 124, 3) := by decide +kernel
theorem dX8_lose_21 : decode cX8_lose 21 = .ok (.ifCond .eq 7, 3) := by decide +kernel
theorem dX8_lose_24 : decode cX8_lose 24 = .ok (.iconst 0, 1) := by decide +kernel
theorem dX8_lose_25 : decode cX8_lose 25 = .ok (.goto 4, 3) := by decide +kernel
theorem dX8_lose_28 : decode cX8_lose 28 = .ok (.iconst 2, 1) := by decide +kernel
theorem dX8_lose_29 : decode cX8_lose 29 = .ok (.putfield 90, 3) := by decide +kernel
theorem dX8_lose_32 : decode cX8_lose 32 = .ok (.aload_n 0, 1) := by decide +kernel
theorem dX8_lose_33 : decode cX8_lose 33 = .ok (.getfield 90, 3) := by decide +kernel
theorem dX8_lose_36 : decode cX8_lose 36 = .ok (.ifCond .le 5, 3) := by decide +kernel
theorem dX8_lose_39 : decode cX8_lose 39 = .ok (.iconst 0, 1) := by decide +kernel
theorem dX8_lose_40 : decode cX8_lose 40 = .ok (.ireturn, 1) := by decide +kernel
theorem dX8_lose_41 : decode cX8_lose 41 = .ok (.aload_n 0, 1) := by decide +kernel
theorem dX8_lose_42 : decode cX8_lose 42 = .ok (.invokevirtual 227, 3) := by decide +kernel
theorem dX8_lose_45 : decode cX8_lose 45 = .ok (.aload_n 0, 1) := by decide +kernel
theorem dX8_lose_46 : decode cX8_lose 46 = .ok (.getfield 7, 3) := by decide +kernel
theorem dX8_lose_49 : decode cX8_lose 49 = .ok (.bipush 8, 2) := by decide +kernel
theorem dX8_lose_51 : decode cX8_lose 51 = .ok (.iload_n 1, 1) := by decide +kernel
theorem dX8_lose_52 : decode cX8_lose 52 = .ok (.iadd, 1) := by decide +kernel
theorem dX8_lose_53 : decode cX8_lose 53 = .ok (.iaload, 1) := by decide +kernel
theorem dX8_lose_54 : decode cX8_lose 54 = .ok (.istore_n 3, 1) := by decide +kernel
theorem dX8_lose_55 : decode cX8_lose 55 = .ok (.aload_n 0, 1) := by decide +kernel
theorem dX8_lose_56 : decode cX8_lose 56 = .ok (.getfield 7, 3) := by decide +kernel
theorem dX8_lose_59 : decode cX8_lose 59 = .ok (.bipush 8, 2) := by decide +kernel
theorem dX8_lose_61 : decode cX8_lose 61 = .ok (.iload_n 1, 1) := by decide +kernel
theorem dX8_lose_62 : decode cX8_lose 62 = .ok (.iadd, 1) := by decide +kernel
theorem dX8_lose_63 : decode cX8_lose 63 = .ok (.iload_n 2, 1) := by decide +kernel
theorem dX8_lose_64 : decode cX8_lose 64 = .ok (.iastore, 1) := by decide +kernel
theorem dX8_lose_65 : decode cX8_lose 65 = .ok (.iload_n 3, 1) := by decide +kernel
theorem dX8_lose_66 : decode cX8_lose 66 = .ok (.ireturn, 1) := by decide +kernel
theorem dX8_isPart_0 : decode cX8_isPart 0 = .ok (.iload_n 1, 1) := by decide +kernel
theorem dX8_isPart_1 : decode cX8_isPart 1 = .ok (.iconst 0, 1) := by decide +kernel
theorem dX8_isPart_2 : decode cX8_isPart 2 = .ok (.aload_n 0, 1) := by decide +kernel
theorem dX8_isPart_3 : decode cX8_isPart 3 = .ok (.getfield 7, 3) := by decide +kernel
theorem dX8_isPart_6 : decode cX8_isPart 6 = .ok (.iconst 0, 1) := by decide +kernel
theorem dX8_isPart_7 : decode cX8_isPart 7 = .ok (.iaload, 1) := by decide +kernel
theorem dX8_isPart_8 : decode cX8_isPart 8 = .ok (.invokestatic 124, 3) := by decide +kernel
theorem dX8_isPart_11 : decode cX8_isPart 11 = .ok (.ifCond .eq 21, 3) := by decide +kernel
theorem dX8_isPart_14 : decode cX8_isPart 14 = .ok (.iload_n 2, 1) := by decide +kernel
theorem dX8_isPart_15 : decode cX8_isPart 15 = .ok (.iload_n 1, 1) := by decide +kernel
theorem dX8_isPart_16 : decode cX8_isPart 16 = .ok (.aload_n 0, 1) := by decide +kernel
theorem dX8_isPart_17 : decode cX8_isPart 17 = .ok (.getfield 7, 3) := by decide +kernel
theorem dX8_isPart_20 : decode cX8_isPart 20 = .ok (.iconst 0, 1) := by decide +kernel
theorem dX8_isPart_21 : decode cX8_isPart 21 = .ok (.iaload, 1) := by decide +kernel
theorem dX8_isPart_22 : decode cX8_isPart 22 = .ok (.invokestatic 124, 3) := by decide +kernel
theorem dX8_isPart_25 : decode cX8_isPart 25 = .ok (.ifCond .eq 7, 3) := by decide +kernel
theorem dX8_isPart_28 : decode cX8_isPart 28 = .ok (.iconst 1, 1) := by decide +kernel
theorem dX8_isPart_29 : decode cX8_isPart 29 = .ok (.goto 4, 3) := by decide +kernel
theorem dX8_isPart_32 : decode cX8_isPart 32 = .ok (.iconst 0, 1) := by decide +kernel
theorem dX8_isPart_33 : decode cX8_isPart 33 = .ok (.ireturn, 1) := by decide +kernel
theorem dX8_clearsLine_0 : decode cX8_clearsLine 0 = .ok (.iconst 0, 1) := by decide +kernel
theorem dX8_clearsLine_1 : decode cX8_clearsLine 1 = .ok (.istore_n 2, 1) := by decide +kernel
theorem dX8_clearsLine_2 : decode cX8_clearsLine 2 = .ok (.iload_n 2, 1) := by decide +kernel
theorem dX8_clearsLine_3 : decode cX8_clearsLine 3 = .ok (.bipush 40, 2) := by decide +kernel
theorem dX8_clearsLine_5 : decode cX8_clearsLine 5 = .ok (.if_icmp .ge 20, 3) := by decide +kernel
theorem dX8_clearsLine_8 : decode cX8_clearsLine 8 = .ok (.aload_n 0, 1) := by decide +kernel
theorem dX8_clearsLine_9 : decode cX8_clearsLine 9 = .ok (.getfield 7, 3) := by decide +kernel
theorem dX8_clearsLine_12 : decode cX8_clearsLine 12 = .ok (.iload_n 1, 1) := by decide +kernel
theorem dX8_clearsLine_13 : decode cX8_clearsLine 13 = .ok (.iload_n 2, 1) := by decide +kernel
theorem dX8_clearsLine_14 : decode cX8_clearsLine 14 = .ok (.invokestatic 96, 3) := by decide +kernel
theorem dX8_clearsLine_17 : decode cX8_clearsLine 17 = .ok (.iconst 0, 1) := by decide +kernel
theorem dX8_clearsLine_18 : decode cX8_clearsLine 18 = .ok (.iastore, 1) := by decide +kernel
theorem dX8_clearsLine_19 : decode cX8_clearsLine 19 = .ok (.iinc 2 1, 3) := by decide +kernel
theorem dX8_clearsLine_22 : decode cX8_clearsLine 22 = .ok (.goto (-20), 3) := by decide +kernel
theorem dX8_clearsLine_25 : decode cX8_clearsLine 25 = .ok (.return_, 1) := by decide +kernel
theorem dX8_paintsLine_0 : decode cX8_paintsLine 0 = .ok (.iconst 0, 1) := by decide +kernel
theorem dX8_paintsLine_1 : decode cX8_paintsLine 1 = .ok (.istore 5, 2) := by decide +kernel
theorem dX8_paintsLine_3 : decode cX8_paintsLine 3 = .ok (.iload_n 2, 1) := by decide +kernel
theorem dX8_paintsLine_4 : decode cX8_paintsLine 4 = .ok (.istore 6, 2) := by decide +kernel
theorem dX8_paintsLine_6 : decode cX8_paintsLine 6 = .ok (.iload 6, 2) := by decide +kernel
theorem dX8_paintsLine_8 : decode cX8_paintsLine 8 = .ok (.iload_n 3, 1) := by decide +kernel
theorem dX8_paintsLine_9 : decode cX8_paintsLine 9 = .ok (.if_icmp .ge 48, 3) := by decide +kernel
theorem dX8_paintsLine_12 : decode cX8_paintsLine 12 = .ok (.iload 5, 2) := by decide +kernel
theorem dX8_paintsLine_14 : decode cX8_paintsLine 14 = .ok (.aload_n 0, 1) := by decide +kernel
theorem dX8_paintsLine_15 : decode cX8_paintsLine 15 = .ok (.getfield 7, 3) := by decide +kernel
theorem dX8_paintsLine_18 : decode cX8_paintsLine 18 = .ok (.iload_n 1, 1) := by decide +kernel
theorem dX8_paintsLine_19 : decode cX8_paintsLine 19 = .ok (.iload 6, 2) := by decide +kernel
theorem dX8_paintsLine_21 : decode cX8_paintsLine 21 = .ok (.invokestatic 96, 3) := by decide +kernel
theorem dX8_paintsLine_24 : decode cX8_paintsLine 24 = .ok (.iaload, 1) := by decide +kernel
theorem dX8_paintsLine_25 : decode cX8_paintsLine 25 = .ok (.iload 4, 2) := by decide +kernel
theorem dX8_paintsLine_27 : decode cX8_paintsLine 27 = .ok (.if_icmp .ne 7, 3) := by decide +kernel
theorem dX8_paintsLine_30 : decode cX8_paintsLine 30 = .ok (.iconst 0, 1) := by decide +kernel
theorem dX8_paintsLine_31 : decode cX8_paintsLine 31 = .ok (.goto 4, 3) := by decide +kernel
theorem dX8_paintsLine_34 : decode cX8_paintsLine 34 = .ok (.iconst 1, 1) := by decide +kernel
theorem dX8_paintsLine_35 : decode cX8_paintsLine 35 = .ok (.iadd, 1) := by decide +kernel
theorem dX8_paintsLine_36 : decode cX8_paintsLine 36 = .ok (.istore 5, 2) := by decide +kernel
theorem dX8_paintsLine_38 : decode cX8_paintsLine 38 = .ok (.aload_n 0, 1) := by decide +kernel
theorem dX8_paintsLine_39 : decode cX8_paintsLine 39 = .ok (.getfield 7, 3) := by decide +kernel
theorem dX8_paintsLine_42 : decode cX8_paintsLine 42 = .ok (.iload_n 1, 1) := by decide +kernel
theorem dX8_paintsLine_43 : decode cX8_paintsLine 43 = .ok (.iload 6, 2) := by decide +kernel
theorem dX8_paintsLine_45 : decode cX8_paintsLine 45 = .ok (.invokestatic 96, 3) := by decide +kernel
theorem dX8_paintsLine_48 : decode cX8_paintsLine 48 = .ok (.iload 4, 2) := by decide +kernel
theorem dX8_paintsLine_50 : decode cX8_paintsLine 50 = .ok (.iastore, 1) := by decide +kernel
theorem dX8_paintsLine_51 : decode cX8_paintsLine 51 = .ok (.iinc 6 1, 3) := by decide +kernel
theorem dX8_paintsLine_54 : decode cX8_paintsLine 54 = .ok (.goto (-48), 3) := by decide +kernel
theorem dX8_paintsLine_57 : decode cX8_paintsLine 57 = .ok (.iload 5, 2) := by decide +kernel
theorem dX8_paintsLine_59 : decode cX8_paintsLine 59 = .ok (.ireturn, 1) := by decide +kernel
theorem dX8_addLine_0 : decode cX8_addLine 0 = .ok (.aload_n 0, 1) := by decide +kernel
theorem dX8_addLine_1 : decode cX8_addLine 1 = .ok (.aload_n 0, 1) := by decide +kernel
theorem dX8_addLine_2 : decode cX8_addLine 2 = .ok (.iload_n 1, 1) := by decide +kernel
theorem dX8_addLine_3 : decode cX8_addLine 3 = .ok (.iload_n 2, 1) := by decide +kernel
theorem dX8_addLine_4 : decode cX8_addLine 4 = .ok (.invokevirtual 230, 3) := by decide +kernel
theorem dX8_addLine_7 : decode cX8_addLine 7 = .ok (.ifCond .ne 7, 3) := by decide +kernel
theorem dX8_addLine_10 : decode cX8_addLine 10 = .ok (.iconst 1, 1) := by decide +kernel
theorem dX8_addLine_11 : decode cX8_addLine 11 = .ok (.goto 19, 3) := by decide +kernel
theorem dX8_addLine_14 : decode cX8_addLine 14 = .ok (.aload_n 0, 1) := by decide +kernel
theorem dX8_addLine_15 : decode cX8_addLine 15 = .ok (.getfield 7, 3) := by decide +kernel
theorem dX8_addLine_18 : decode cX8_addLine 18 = .ok (.iconst 1, 1) := by decide +kernel
theorem dX8_addLine_19 : decode cX8_addLine 19 = .ok (.iaload, 1) := by decide +kernel
theorem dX8_addLine_20 : decode cX8_addLine 20 = .ok (.bipush 20, 2) := by decide +kernel
theorem dX8_addLine_22 : decode cX8_addLine 22 = .ok (.if_icmp .ge 7, 3) := by decide +kernel
theorem dX8_addLine_25 : decode cX8_addLine 25 = .ok (.iconst 0, 1) := by decide +kernel
theorem dX8_addLine_26 : decode cX8_addLine 26 = .ok (.goto 4, 3) := by decide +kernel
theorem dX8_addLine_29 : decode cX8_addLine 29 = .ok (.iconst 2, 1) := by decide +kernel
theorem dX8_addLine_30 : decode cX8_addLine 30 = .ok (.putfield 90, 3) := by decide +kernel
theorem dX8_addLine_33 : decode cX8_addLine 33 = .ok (.aload_n 0, 1) := by decide +kernel
theorem dX8_addLine_34 : decode cX8_addLine 34 = .ok (.getfield 90, 3) := by decide +kernel
theorem dX8_addLine_37 : decode cX8_addLine 37 = .ok (.ifCond .le 5, 3) := by decide +kernel
theorem dX8_addLine_40 : decode cX8_addLine 40 = .ok (.iconst 0, 1) := by decide +kernel
theorem dX8_addLine_41 : decode cX8_addLine 41 = .ok (.ireturn, 1) := by decide +kernel
theorem dX8_addLine_42 : decode cX8_addLine 42 = .ok (.aload_n 0, 1) := by decide +kernel
theorem dX8_addLine_43 : decode cX8_addLine 43 = .ok (.invokevirtual 227, 3) := by decide +kernel
theorem dX8_addLine_46 : decode cX8_addLine 46 = .ok (.aload_n 0, 1) := by decide +kernel
theorem dX8_addLine_47 : decode cX8_addLine 47 = .ok (.getfield 7, 3) := by decide +kernel
theorem dX8_addLine_50 : decode cX8_addLine 50 = .ok (.iconst 1, 1) := by decide +kernel
theorem dX8_addLine_51 : decode cX8_addLine 51 = .ok (.iaload, 1) := by decide +kernel
theorem dX8_addLine_52 : decode cX8_addLine 52 = .ok (.istore_n 3, 1) := by decide +kernel
theorem dX8_addLine_53 : decode cX8_addLine 53 = .ok (.aload_n 0, 1) := by decide +kernel
theorem dX8_addLine_54 : decode cX8_addLine 54 = .ok (.iload_n 3, 1) := by decide +kernel
theorem dX8_addLine_55 : decode cX8_addLine 55 = .ok (.invokevirtual 233, 3) := by decide +kernel
theorem dX8_addLine_58 : decode cX8_addLine 58 = .ok (.aload_n 0, 1) := by decide +kernel
theorem dX8_addLine_59 : decode cX8_addLine 59 = .ok (.iload_n 3, 1) := by decide +kernel
theorem dX8_addLine_60 : decode cX8_addLine 60 = .ok (.iload_n 1, 1) := by decide +kernel
theorem dX8_addLine_61 : decode cX8_addLine 61 = .ok (.iload_n 2, 1) := by decide +kernel
theorem dX8_addLine_62 : decode cX8_addLine 62 = .ok (.iconst 1, 1) := by decide +kernel
theorem dX8_addLine_63 : decode cX8_addLine 63 = .ok (.invokevirtual 236, 3) := by decide +kernel
theorem dX8_addLine_66 : decode cX8_addLine 66 = .ok (.istore 4, 2) := by decide +kernel
theorem dX8_addLine_68 : decode cX8_addLine 68 = .ok (.aload_n 0, 1) := by decide +kernel
theorem dX8_addLine_69 : decode cX8_addLine 69 = .ok (.getfield 7, 3) := by decide +kernel
theorem dX8_addLine_72 : decode cX8_addLine 72 = .ok (.iconst 1, 1) := by decide +kernel
theorem dX8_addLine_73 : decode cX8_addLine 73 = .ok (.dup2, 1) := by decide +kernel
theorem dX8_addLine_74 : decode cX8_addLine 74 = .ok (.iaload, 1) := by decide +kernel
theorem dX8_addLine_75 : decode cX8_addLine 75 = .ok (.iconst 1, 1) := by decide +kernel
theorem dX8_addLine_76 : decode cX8_addLine 76 = .ok (.iadd, 1) := by decide +kernel
theorem dX8_addLine_77 : decode cX8_addLine 77 = .ok (.iastore, 1) := by decide +kernel
theorem dX8_addLine_78 : decode cX8_addLine 78 = .ok (.iload_n 3, 1) := by decide +kernel
theorem dX8_addLine_79 : decode cX8_addLine 79 = .ok (.ireturn, 1) := by decide +kernel
theorem dX8_paint_0 : decode cX8_paint 0 = .ok (.aload_n 0, 1) := by decide +kernel
theorem dX8_paint_1 : decode cX8_paint 1 = .ok (.aload_n 0, 1) := by decide +kernel
theorem dX8_paint_2 : decode cX8_paint 2 = .ok (.iload_n 1, 1) := by decide +kernel
theorem dX8_paint_3 : decode cX8_paint 3 = .ok (.invokevirtual 194, 3) := by decide +kernel
theorem dX8_paint_6 : decode cX8_paint 6 = .ok (.ifCond .ne 7, 3) := by decide +kernel
theorem dX8_paint_9 : decode cX8_paint 9 = .ok (.iconst 1, 1) := by decide +kernel
theorem dX8_paint_10 : decode cX8_paint 10 = .ok (.goto 27, 3) := by decide +kernel
theorem dX8_paint_13 : decode cX8_paint 13 = .ok (.aload_n 0, 1) := by decide +kernel
theorem dX8_paint_14 : decode cX8_paint 14 = .ok (.iload_n 2, 1) := by decide +kernel
theorem dX8_paint_15 : decode cX8_paint 15 = .ok (.iload_n 3, 1) := by decide +kernel
theorem dX8_paint_16 : decode cX8_paint 16 = .ok (.invokevirtual 230, 3) := by decide +kernel
theorem dX8_paint_19 : decode cX8_paint 19 = .ok (.ifCond .eq 17, 3) := by decide +kernel
theorem dX8_paint_22 : decode cX8_paint 22 = .ok (.iload 4, 2) := by decide +kernel
theorem dX8_paint_24 : decode cX8_paint 24 = .ok (.iconst 0, 1) := by decide +kernel
theorem dX8_paint_25 : decode cX8_paint 25 = .ok (.iconst 1, 1) := by decide +kernel
theorem dX8_paint_26 : decode cX8_paint 26 = .ok (.invokestatic 124, 3) := by decide +kernel
theorem dX8_paint_29 : decode cX8_paint 29 = .ok (.ifCond .eq 7, 3) := by decide +kernel
theorem dX8_paint_32 : decode cX8_paint 32 = .ok (.iconst 0, 1) := by decide +kernel
theorem dX8_paint_33 : decode cX8_paint 33 = .ok (.goto 4, 3) := by decide +kernel
theorem dX8_paint_36 : decode cX8_paint 36 = .ok (.iconst 2, 1) := by decide +kernel
theorem dX8_paint_37 : decode cX8_paint 37 = .ok (.putfield 90, 3) := by decide +kernel
theorem dX8_paint_40 : decode cX8_paint 40 = .ok (.aload_n 0, 1) := by decide +kernel
theorem dX8_paint_41 : decode cX8_paint 41 = .ok (.getfield 90, 3) := by decide +kernel
theorem dX8_paint_44 : decode cX8_paint 44 = .ok (.ifCond .le 5, 3) := by decide +kernel
theorem dX8_paint_47 : decode cX8_paint 47 = .ok (.iconst 0, 1) := by decide +kernel
theorem dX8_paint_48 : decode cX8_paint 48 = .ok (.ireturn, 1) := by decide +kernel
theorem dX8_paint_49 : decode cX8_paint 49 = .ok (.aload_n 0, 1) := by decide +kernel
theorem dX8_paint_50 : decode cX8_paint 50 = .ok (.invokevirtual 227, 3) := by decide +kernel
theorem dX8_paint_53 : decode cX8_paint 53 = .ok (.aload_n 0, 1) := by decide +kernel
theorem dX8_paint_54 : decode cX8_paint 54 = .ok (.iload_n 1, 1) := by decide +kernel
theorem dX8_paint_55 : decode cX8_paint 55 = .ok (.iload_n 2, 1) := by decide +kernel
theorem dX8_paint_56 : decode cX8_paint 56 = .ok (.iload_n 3, 1) := by decide +kernel
theorem dX8_paint_57 : decode cX8_paint 57 = .ok (.iload 4, 2) := by decide +kernel
theorem dX8_paint_59 : decode cX8_paint 59 = .ok (.invokevirtual 236, 3) := by decide +kernel
theorem dX8_paint_62 : decode cX8_paint 62 = .ok (.ireturn, 1) := by decide +kernel
theorem dX8_shift_0 : decode cX8_shift 0 = .ok (.aload_n 0, 1) := by decide +kernel
theorem dX8_shift_1 : decode cX8_shift 1 = .ok (.aload_n 0, 1) := by decide +kernel
theorem dX8_shift_2 : decode cX8_shift 2 = .ok (.iload_n 1, 1) := by decide +kernel
theorem dX8_shift_3 : decode cX8_shift 3 = .ok (.invokevirtual 194, 3) := by decide +kernel
theorem dX8_shift_6 : decode cX8_shift 6 = .ok (.ifCond .ne 7, 3) := by decide +kernel
theorem dX8_shift_9 : decode cX8_shift 9 = .ok (.iconst 1, 1) := by decide +kernel
theorem dX8_shift_10 : decode cX8_shift 10 = .ok (.goto 19, 3) := by decide +kernel
theorem dX8_shift_13 : decode cX8_shift 13 = .ok (.iload_n 2, 1) := by decide +kernel
theorem dX8_shift_14 : decode cX8_shift 14 = .ok (.bipush (-40), 2) := by decide +kernel
theorem dX8_shift_16 : decode cX8_shift 16 = .ok (.bipush 40, 2) := by decide +kernel
theorem dX8_shift_18 : decode cX8_shift 18 = .ok (.invokestatic 124, 3) := by decide +kernel
theorem dX8_shift_21 : decode cX8_shift 21 = .ok (.ifCond .eq 7, 3) := by decide +kernel
theorem dX8_shift_24 : decode cX8_shift 24 = .ok (.iconst 0, 1) := by decide +kernel
theorem dX8_shift_25 : decode cX8_shift 25 = .ok (.goto 4, 3) := by decide +kernel
theorem dX8_shift_28 : decode cX8_shift 28 = .ok (.iconst 2, 1) := by decide +kernel
theorem dX8_shift_29 : decode cX8_shift 29 = .ok (.putfield 90, 3) := by decide +kernel
theorem dX8_shift_32 : decode cX8_shift 32 = .ok (.aload_n 0, 1) := by decide +kernel
theorem dX8_shift_33 : decode cX8_shift 33 = .ok (.getfield 90, 3) := by decide +kernel
theorem dX8_shift_36 : decode cX8_shift 36 = .ok (.ifCond .le 5, 3) := by decide +kernel
theorem dX8_shift_39 : decode cX8_shift 39 = .ok (.iconst 0, 1) := by decide +kernel
theorem dX8_shift_40 : decode cX8_shift 40 = .ok (.ireturn, 1) := by decide +kernel
theorem dX8_shift_41 : decode cX8_shift 41 = .ok (.aload_n 0, 1) := by decide +kernel
theorem dX8_shift_42 : decode cX8_shift 42 = .ok (.invokevirtual 227, 3) := by decide +kernel
theorem dX8_shift_45 : decode cX8_shift 45 = .ok (.aload_n 0, 1) := by decide +kernel
theorem dX8_shift_46 : decode cX8_shift 46 = .ok (.iload_n 1, 1) := by decide +kernel
theorem dX8_shift_47 : decode cX8_shift 47 = .ok (.invokevirtual 154, 3) := by decide +kernel
theorem dX8_shift_50 : decode cX8_shift 50 = .ok (.iconst 0, 1) := by decide +kernel
theorem dX8_shift_51 : decode cX8_shift 51 = .ok (.istore_n 3, 1) := by decide +kernel
theorem dX8_shift_52 : decode cX8_shift 52 = .ok (.iload_n 3, 1) := by decide +kernel
theorem dX8_shift_53 : decode cX8_shift 53 = .ok (.aload_n 0, 1) := by decide +kernel
theorem dX8_shift_54 : decode cX8_shift 54 = .ok (.getfield 93, 3) := by decide +kernel
theorem dX8_shift_57 : decode cX8_shift 57 = .ok (.if_icmp .ge 47, 3) := by decide +kernel
theorem dX8_shift_60 : decode cX8_shift 60 = .ok (.aload_n 0, 1) := by decide +kernel
theorem dX8_shift_61 : decode cX8_shift 61 = .ok (.getfield 7, 3) := by decide +kernel
theorem dX8_shift_64 : decode cX8_shift 64 = .ok (.iload_n 1, 1) := by decide +kernel
theorem dX8_shift_65 : decode cX8_shift 65 = .ok (.iload_n 3, 1) := by decide +kernel
theorem dX8_shift_66 : decode cX8_shift 66 = .ok (.invokestatic 96, 3) := by decide +kernel
theorem dX8_shift_69 : decode cX8_shift 69 = .ok (.iload_n 3, 1) := by decide +kernel
theorem dX8_shift_70 : decode cX8_shift 70 = .ok (.iload_n 2, 1) := by decide +kernel
theorem dX8_shift_71 : decode cX8_shift 71 = .ok (.isub, 1) := by decide +kernel
theorem dX8_shift_72 : decode cX8_shift 72 = .ok (.iconst 0, 1) := by decide +kernel
theorem dX8_shift_73 : decode cX8_shift 73 = .ok (.aload_n 0, 1) := by decide +kernel
theorem dX8_shift_74 : decode cX8_shift 74 = .ok (.getfield 93, 3) := by decide +kernel
theorem dX8_shift_77 : decode cX8_shift 77 = .ok (.iconst 1, 1) := by decide +kernel
theorem dX8_shift_78 : decode cX8_shift 78 = .ok (.isub, 1) := by decide +kernel
theorem dX8_shift_79 : decode cX8_shift 79 = .ok (.invokestatic 124, 3) := by decide +kernel
theorem dX8_shift_82 : decode cX8_shift 82 = .ok (.ifCond .eq 14, 3) := by decide +kernel
theorem dX8_shift_85 : decode cX8_shift 85 = .ok (.aload_n 0, 1) := by decide +kernel
theorem dX8_shift_86 : decode cX8_shift 86 = .ok (.getfield 29, 3) := by decide +kernel
theorem dX8_shift_89 : decode cX8_shift 89 = .ok (.iload_n 3, 1) := by decide +kernel
theorem dX8_shift_90 : decode cX8_shift 90 = .ok (.iload_n 2, 1) := by decide +kernel
theorem dX8_shift_91 : decode cX8_shift 91 = .ok (.isub, 1) := by decide +kernel
theorem dX8_shift_92 : decode cX8_shift 92 = .ok (.iaload, 1) := by decide +kernel
theorem dX8_shift_93 : decode cX8_shift 93 = .ok (.goto 4, 3) := by decide +kernel
theorem dX8_shift_96 : decode cX8_shift 96 = .ok (.iconst 0, 1) := by decide +kernel
theorem dX8_shift_97 : decode cX8_shift 97 = .ok (.iastore, 1) := by decide +kernel
theorem dX8_shift_98 : decode cX8_shift 98 = .ok (.iinc 3 1, 3) := by decide +kernel
theorem dX8_shift_101 : decode cX8_shift 101 = .ok (.goto (-49), 3) := by decide +kernel
theorem dX8_shift_104 : decode cX8_shift 104 = .ok (.aload_n 0, 1) := by decide +kernel
theorem dX8_shift_105 : decode cX8_shift 105 = .ok (.iload_n 1, 1) := by decide +kernel
theorem dX8_shift_106 : decode cX8_shift 106 = .ok (.invokevirtual 179, 3) := by decide +kernel
theorem dX8_shift_109 : decode cX8_shift 109 = .ok (.ireturn, 1) := by decide +kernel
theorem dX8_movesLine_0 : decode cX8_movesLine 0 = .ok (.iconst 0, 1) := by decide +kernel
theorem dX8_movesLine_1 : decode cX8_movesLine 1 = .ok (.istore_n 3, 1) := by decide +kernel
theorem dX8_movesLine_2 : decode cX8_movesLine 2 = .ok (.iload_n 3, 1) := by decide +kernel
theorem dX8_movesLine_3 : decode cX8_movesLine 3 = .ok (.bipush 40, 2) := by decide +kernel
theorem dX8_movesLine_5 : decode cX8_movesLine 5 = .ok (.if_icmp .ge 29, 3) := by decide +kernel
theorem dX8_movesLine_8 : decode cX8_movesLine 8 = .ok (.aload_n 0, 1) := by decide +kernel
theorem dX8_movesLine_9 : decode cX8_movesLine 9 = .ok (.getfield 7, 3) := by decide +kernel
theorem dX8_movesLine_12 : decode cX8_movesLine 12 = .ok (.iload_n 2, 1) := by decide +kernel
theorem dX8_movesLine_13 : decode cX8_movesLine 13 = .ok (.iload_n 3, 1) := by decide +kernel
theorem dX8_movesLine_14 : decode cX8_movesLine 14 = .ok (.invokestatic 96, 3) := by decide +kernel
theorem dX8_movesLine_17 : decode cX8_movesLine 17 = .ok (.aload_n 0, 1) := by decide +kernel
theorem dX8_movesLine_18 : decode cX8_movesLine 18 = .ok (.getfield 7, 3) := by decide +kernel
theorem dX8_movesLine_21 : decode cX8_movesLine 21 = .ok (.iload_n 1, 1) := by decide +kernel
theorem dX8_movesLine_22 : decode cX8_movesLine 22 = .ok (.iload_n 3, 1) := by decide +kernel
theorem dX8_movesLine_23 : decode cX8_movesLine 23 = .ok (.invokestatic 96, 3) := by decide +kernel
theorem dX8_movesLine_26 : decode cX8_movesLine 26 = .ok (.iaload, 1) := by decide +kernel
theorem dX8_movesLine_27 : decode cX8_movesLine 27 = .ok (.iastore, 1) := by decide +kernel
theorem dX8_movesLine_28 : decode cX8_movesLine 28 = .ok (.iinc 3 1, 3) := by decide +kernel
theorem dX8_movesLine_31 : decode cX8_movesLine 31 = .ok (.goto (-29), 3) := by decide +kernel
theorem dX8_movesLine_34 : decode cX8_movesLine 34 = .ok (.return_, 1) := by decide +kernel
theorem dX8_copyLine_0 : decode cX8_copyLine 0 = .ok (.aload_n 0, 1) := by decide +kernel
theorem dX8_copyLine_1 : decode cX8_copyLine 1 = .ok (.aload_n 0, 1) := by decide +kernel
theorem dX8_copyLine_2 : decode cX8_copyLine 2 = .ok (.iload_n 1, 1) := by decide +kernel
theorem dX8_copyLine_3 : decode cX8_copyLine 3 = .ok (.invokevirtual 194, 3) := by decide +kernel
theorem dX8_copyLine_6 : decode cX8_copyLine 6 = .ok (.ifCond .eq 17, 3) := by decide +kernel
theorem dX8_copyLine_9 : decode cX8_copyLine 9 = .ok (.iload_n 2, 1) := by decide +kernel
theorem dX8_copyLine_10 : decode cX8_copyLine 10 = .ok (.iconst 0, 1) := by decide +kernel
theorem dX8_copyLine_11 : decode cX8_copyLine 11 = .ok (.aload_n 0, 1) := by decide +kernel
theorem dX8_copyLine_12 : decode cX8_copyLine 12 = .ok (.getfield 7, 3) := by decide +kernel
theorem dX8_copyLine_15 : decode cX8_copyLine 15 = .ok (.iconst 1, 1) := by decide +kernel
theorem dX8_copyLine_16 : decode cX8_copyLine 16 = .ok (.iaload, 1) := by decide +kernel
theorem dX8_copyLine_17 : decode cX8_copyLine 17 = .ok (.invokestatic 124, 3) := by decide +kernel
theorem dX8_copyLine_20 : decode cX8_copyLine 20 = .ok (.ifCond .ne 7, 3) := by decide +kernel
theorem dX8_copyLine_23 : decode cX8_copyLine 23 = .ok (.iconst 1, 1) := by decide +kernel
theorem dX8_copyLine_24 : decode cX8_copyLine 24 = .ok (.goto 19, 3) := by decide +kernel
theorem dX8_copyLine_27 : decode cX8_copyLine 27 = .ok (.aload_n 0, 1) := by decide +kernel
theorem dX8_copyLine_28 : decode cX8_copyLine 28 = .ok (.getfield 7, 3) := by decide +kernel
theorem dX8_copyLine_31 : decode cX8_copyLine 31 = .ok (.iconst 1, 1) := by decide +kernel
theorem dX8_copyLine_32 : decode cX8_copyLine 32 = .ok (.iaload, 1) := by decide +kernel
theorem dX8_copyLine_33 : decode cX8_copyLine 33 = .ok (.bipush 20, 2) := by decide +kernel
theorem dX8_copyLine_35 : decode cX8_copyLine 35 = .ok (.if_icmp .ge 7, 3) := by decide +kernel
theorem dX8_copyLine_38 : decode cX8_copyLine 38 = .ok (.iconst 0, 1) := by decide +kernel
theorem dX8_copyLine_39 : decode cX8_copyLine 39 = .ok (.goto 4, 3) := by decide +kernel
theorem dX8_copyLine_42 : decode cX8_copyLine 42 = .ok (.iconst 2, 1) := by decide +kernel
theorem dX8_copyLine_43 : decode cX8_copyLine 43 = .ok (.putfield 90, 3) := by decide +kernel
theorem dX8_copyLine_46 : decode cX8_copyLine 46 = .ok (.aload_n 0, 1) := by decide +kernel
theorem dX8_copyLine_47 : decode cX8_copyLine 47 = .ok (.getfield 90, 3) := by decide +kernel
theorem dX8_copyLine_50 : decode cX8_copyLine 50 = .ok (.ifCond .le 5, 3) := by decide +kernel
theorem dX8_copyLine_53 : decode cX8_copyLine 53 = .ok (.iconst 0, 1) := by decide +kernel
theorem dX8_copyLine_54 : decode cX8_copyLine 54 = .ok (.ireturn, 1) := by decide +kernel
theorem dX8_copyLine_55 : decode cX8_copyLine 55 = .ok (.aload_n 0, 1) := by decide +kernel
theorem dX8_copyLine_56 : decode cX8_copyLine 56 = .ok (.invokevirtual 227, 3) := by decide +kernel
theorem dX8_copyLine_59 : decode cX8_copyLine 59 = .ok (.aload_n 0, 1) := by decide +kernel
theorem dX8_copyLine_60 : decode cX8_copyLine 60 = .ok (.aload_n 0, 1) := by decide +kernel
theorem dX8_copyLine_61 : decode cX8_copyLine 61 = .ok (.getfield 7, 3) := by decide +kernel
theorem dX8_copyLine_64 : decode cX8_copyLine 64 = .ok (.iload_n 1, 1) := by decide +kernel
theorem dX8_copyLine_65 : decode cX8_copyLine 65 = .ok (.iconst 0, 1) := by decide +kernel
theorem dX8_copyLine_66 : decode cX8_copyLine 66 = .ok (.invokestatic 96, 3) := by decide +kernel
theorem dX8_copyLine_69 : decode cX8_copyLine 69 = .ok (.invokevirtual 104, 3) := by decide +kernel
theorem dX8_copyLine_72 : decode cX8_copyLine 72 = .ok (.aload_n 0, 1) := by decide +kernel
theorem dX8_copyLine_73 : decode cX8_copyLine 73 = .ok (.getfield 7, 3) := by decide +kernel
theorem dX8_copyLine_76 : decode cX8_copyLine 76 = .ok (.iconst 1, 1) := by decide +kernel
theorem dX8_copyLine_77 : decode cX8_copyLine 77 = .ok (.iaload, 1) := by decide +kernel
theorem dX8_copyLine_78 : decode cX8_copyLine 78 = .ok (.istore_n 3, 1) := by decide +kernel
theorem dX8_copyLine_79 : decode cX8_copyLine 79 = .ok (.iload_n 3, 1) := by decide +kernel
theorem dX8_copyLine_80 : decode cX8_copyLine 80 = .ok (.iload_n 2, 1) := by decide +kernel
theorem dX8_copyLine_81 : decode cX8_copyLine 81 = .ok (.if_icmp .le 17, 3) := by decide +kernel
theorem dX8_copyLine_84 : decode cX8_copyLine 84 = .ok (.aload_n 0, 1) := by decide +kernel
theorem dX8_copyLine_85 : decode cX8_copyLine 85 = .ok (.iload_n 3, 1) := by decide +kernel
theorem dX8_copyLine_86 : decode cX8_copyLine 86 = .ok (.iconst 1, 1) := by decide +kernel
theorem dX8_copyLine_87 : decode cX8_copyLine 87 = .ok (.isub, 1) := by decide +kernel
theorem dX8_copyLine_88 : decode cX8_copyLine 88 = .ok (.iload_n 3, 1) := by decide +kernel
theorem dX8_copyLine_89 : decode cX8_copyLine 89 = .ok (.invokevirtual 240, 3) := by decide +kernel
theorem dX8_copyLine_92 : decode cX8_copyLine 92 = .ok (.iinc 3 (-1), 3) := by decide +kernel
theorem dX8_copyLine_95 : decode cX8_copyLine 95 = .ok (.goto (-16), 3) := by decide +kernel
theorem dX8_copyLine_98 : decode cX8_copyLine 98 = .ok (.iconst 0, 1) := by decide +kernel
theorem dX8_copyLine_99 : decode cX8_copyLine 99 = .ok (.istore_n 3, 1) := by decide +kernel
theorem dX8_copyLine_100 : decode cX8_copyLine 100 = .ok (.iload_n 3, 1) := by decide +kernel
theorem dX8_copyLine_101 : decode cX8_copyLine 101 = .ok (.bipush 40, 2) := by decide +kernel
theorem dX8_copyLine_103 : decode cX8_copyLine 103 = .ok (.if_icmp .ge 25, 3) := by decide +kernel
theorem dX8_copyLine_106 : decode cX8_copyLine 106 = .ok (.aload_n 0, 1) := by decide +kernel
theorem dX8_copyLine_107 : decode cX8_copyLine 107 = .ok (.getfield 7, 3) := by decide +kernel
theorem dX8_copyLine_110 : decode cX8_copyLine 110 = .ok (.iload_n 2, 1) := by decide +kernel
theorem dX8_copyLine_111 : decode cX8_copyLine 111 = .ok (.iload_n 3, 1) := by decide +kernel
theorem dX8_copyLine_112 : decode cX8_copyLine 112 = .ok (.invokestatic 96, 3) := by decide +kernel
theorem dX8_copyLine_115 : decode cX8_copyLine 115 = .ok (.aload_n 0, 1) := by decide +kernel
theorem dX8_copyLine_116 : decode cX8_copyLine 116 = .ok (.getfield 29, 3) := by decide +kernel
theorem dX8_copyLine_119 : decode cX8_copyLine 119 = .ok (.iload_n 3, 1) := by decide +kernel
theorem dX8_copyLine_120 : decode cX8_copyLine 120 = .ok (.iaload, 1) := by decide +kernel
theorem dX8_copyLine_121 : decode cX8_copyLine 121 = .ok (.iastore, 1) := by decide +kernel
theorem dX8_copyLine_122 : decode cX8_copyLine 122 = .ok (.iinc 3 1, 3) := by decide +kernel
theorem dX8_copyLine_125 : decode cX8_copyLine 125 = .ok (.goto (-25), 3) := by decide +kernel
theorem dX8_copyLine_128 : decode cX8_copyLine 128 = .ok (.aload_n 0, 1) := by decide +kernel
theorem dX8_copyLine_129 : decode cX8_copyLine 129 = .ok (.getfield 7, 3) := by decide +kernel
theorem dX8_copyLine_132 : decode cX8_copyLine 132 = .ok (.iconst 1, 1) := by decide +kernel
theorem dX8_copyLine_133 : decode cX8_copyLine 133 = .ok (.dup2, 1) := by decide +kernel
theorem dX8_copyLine_134 : decode cX8_copyLine 134 = .ok (.iaload, 1) := by decide +kernel
theorem dX8_copyLine_135 : decode cX8_copyLine 135 = .ok (.iconst 1, 1) := by decide +kernel
theorem dX8_copyLine_136 : decode cX8_copyLine 136 = .ok (.iadd, 1) := by decide +kernel
theorem dX8_copyLine_137 : decode cX8_copyLine 137 = .ok (.iastore, 1) := by decide +kernel
theorem dX8_copyLine_138 : decode cX8_copyLine 138 = .ok (.aload_n 0, 1) := by decide +kernel
theorem dX8_copyLine_139 : decode cX8_copyLine 139 = .ok (.getfield 7, 3) := by decide +kernel
theorem dX8_copyLine_142 : decode cX8_copyLine 142 = .ok (.iconst 1, 1) := by decide +kernel
theorem dX8_copyLine_143 : decode cX8_copyLine 143 = .ok (.iaload, 1) := by decide +kernel
theorem dX8_copyLine_144 : decode cX8_copyLine 144 = .ok (.ireturn, 1) := by decide +kernel
theorem dX8_removeLine_0 : decode cX8_removeLine 0 = .ok (.aload_n 0, 1) := by decide +kernel
theorem dX8_removeLine_1 : decode cX8_removeLine 1 = .ok (.aload_n 0, 1) := by decide +kernel
theorem dX8_removeLine_2 : decode cX8_removeLine 2 = .ok (.iload_n 1, 1) := by decide +kernel
theorem dX8_removeLine_3 : decode cX8_removeLine 3 = .ok (.invokevirtual 194, 3) := by decide +kernel
theorem dX8_removeLine_6 : decode cX8_removeLine 6 = .ok (.ifCond .eq 7, 3) := by decide +kernel
theorem dX8_removeLine_9 : decode cX8_removeLine 9 = .ok (.iconst 0, 1) := by decide +kernel
theorem dX8_removeLine_10 : decode cX8_removeLine 10 = .ok (.goto 4, 3) := by decide +kernel
theorem dX8_removeLine_13 : decode cX8_removeLine 13 = .ok (.iconst 1, 1) := by decide +kernel
theorem dX8_removeLine_14 : decode cX8_removeLine 14 = .ok (.putfield 90, 3) := by decide +kernel
theorem dX8_removeLine_17 : decode cX8_removeLine 17 = .ok (.aload_n 0, 1) := by decide +kernel
theorem dX8_removeLine_18 : decode cX8_removeLine 18 = .ok (.getfield 90, 3) := by decide +kernel
theorem dX8_removeLine_21 : decode cX8_removeLine 21 = .ok (.ifCond .le 5, 3) := by decide +kernel
theorem dX8_removeLine_24 : decode cX8_removeLine 24 = .ok (.iconst 0, 1) := by decide +kernel
theorem dX8_removeLine_25 : decode cX8_removeLine 25 = .ok (.ireturn, 1) := by decide +kernel
theorem dX8_removeLine_26 : decode cX8_removeLine 26 = .ok (.aload_n 0, 1) := by decide +kernel
theorem dX8_removeLine_27 : decode cX8_removeLine 27 = .ok (.invokevirtual 227, 3) := by decide +kernel
theorem dX8_removeLine_30 : decode cX8_removeLine 30 = .ok (.aload_n 0, 1) := by decide +kernel
theorem dX8_removeLine_31 : decode cX8_removeLine 31 = .ok (.getfield 7, 3) := by decide +kernel
theorem dX8_removeLine_34 : decode cX8_removeLine 34 = .ok (.iconst 1, 1) := by decide +kernel
theorem dX8_removeLine_35 : decode cX8_removeLine 35 = .ok (.dup2, 1) := by decide +kernel
theorem dX8_removeLine_36 : decode cX8_removeLine 36 = .ok (.iaload, 1) := by decide +kernel
theorem dX8_removeLine_37 : decode cX8_removeLine 37 = .ok (.iconst 1, 1) := by decide +kernel
theorem dX8_removeLine_38 : decode cX8_removeLine 38 = .ok (.isub, 1) := by decide +kernel
theorem dX8_removeLine_39 : decode cX8_removeLine 39 = .ok (.iastore, 1) := by decide +kernel
theorem dX8_removeLine_40 : decode cX8_removeLine 40 = .ok (.iload_n 1, 1) := by decide +kernel
theorem dX8_removeLine_41 : decode cX8_removeLine 41 = .ok (.istore_n 2, 1) := by decide +kernel
theorem dX8_removeLine_42 : decode cX8_removeLine 42 = .ok (.iload_n 2, 1) := by decide +kernel
theorem dX8_removeLine_43 : decode cX8_removeLine 43 = .ok (.aload_n 0, 1) := by decide +kernel
theorem dX8_removeLine_44 : decode cX8_removeLine 44 = .ok (.getfield 7, 3) := by decide +kernel
theorem dX8_removeLine_47 : decode cX8_removeLine 47 = .ok (.iconst 1, 1) := by decide +kernel
theorem dX8_removeLine_48 : decode cX8_removeLine 48 = .ok (.iaload, 1) := by decide +kernel
theorem dX8_removeLine_49 : decode cX8_removeLine 49 = .ok (.if_icmp .ge 17, 3) := by decide +kernel
theorem dX8_removeLine_52 : decode cX8_removeLine 52 = .ok (.aload_n 0, 1) := by decide +kernel
theorem dX8_removeLine_53 : decode cX8_removeLine 53 = .ok (.iload_n 2, 1) := by decide +kernel
theorem dX8_removeLine_54 : decode cX8_removeLine 54 = .ok (.iconst 1, 1) := by decide +kernel
theorem dX8_removeLine_55 : decode cX8_removeLine 55 = .ok (.iadd, 1) := by decide +kernel
theorem dX8_removeLine_56 : decode cX8_removeLine 56 = .ok (.iload_n 2, 1) := by decide +kernel
theorem dX8_removeLine_57 : decode cX8_removeLine 57 = .ok (.invokevirtual 240, 3) := by decide +kernel
theorem dX8_removeLine_60 : decode cX8_removeLine 60 = .ok (.iinc 2 1, 3) := by decide +kernel
theorem dX8_removeLine_63 : decode cX8_removeLine 63 = .ok (.goto (-21), 3) := by decide +kernel
theorem dX8_removeLine_66 : decode cX8_removeLine 66 = .ok (.aload_n 0, 1) := by decide +kernel
theorem dX8_removeLine_67 : decode cX8_removeLine 67 = .ok (.aload_n 0, 1) := by decide +kernel
theorem dX8_removeLine_68 : decode cX8_removeLine 68 = .ok (.getfield 7, 3) := by decide +kernel
theorem dX8_removeLine_71 : decode cX8_removeLine 71 = .ok (.iconst 1, 1) := by decide +kernel
theorem dX8_removeLine_72 : decode cX8_removeLine 72 = .ok (.iaload, 1) := by decide +kernel
theorem dX8_removeLine_73 : decode cX8_removeLine 73 = .ok (.invokevirtual 233, 3) := by decide +kernel
theorem dX8_removeLine_76 : decode cX8_removeLine 76 = .ok (.aload_n 0, 1) := by decide +kernel
theorem dX8_removeLine_77 : decode cX8_removeLine 77 = .ok (.getfield 7, 3) := by decide +kernel
theorem dX8_removeLine_80 : decode cX8_removeLine 80 = .ok (.iconst 1, 1) := by decide +kernel
theorem dX8_removeLine_81 : decode cX8_removeLine 81 = .ok (.iaload, 1) := by decide +kernel
theorem dX8_removeLine_82 : decode cX8_removeLine 82 = .ok (.ireturn, 1) := by decide +kernel
theorem dX8_invert_0 : decode cX8_invert 0 = .ok (.aload_n 0, 1) := by decide +kernel
theorem dX8_invert_1 : decode cX8_invert 1 = .ok (.aload_n 0, 1) := by decide +kernel
theorem dX8_invert_2 : decode cX8_invert 2 = .ok (.iload_n 1, 1) := by decide +kernel
theorem dX8_invert_3 : decode cX8_invert 3 = .ok (.invokevirtual 194, 3) := by decide +kernel
theorem dX8_invert_6 : decode cX8_invert 6 = .ok (.ifCond .eq 7, 3) := by decide +kernel
theorem dX8_invert_9 : decode cX8_invert 9 = .ok (.iconst 0, 1) := by decide +kernel
theorem dX8_invert_10 : decode cX8_invert 10 = .ok (.goto 4, 3) := by decide +kernel
theorem dX8_invert_13 : decode cX8_invert 13 = .ok (.iconst 1, 1) := by decide +kernel
theorem dX8_invert_14 : decode cX8_invert 14 = .ok (.putfield 90, 3) := by decide +kernel
theorem dX8_invert_17 : decode cX8_invert 17 = .ok (.aload_n 0, 1) := by decide +kernel
theorem dX8_invert_18 : decode cX8_invert 18 = .ok (.getfield 90, 3) := by decide +kernel
theorem dX8_invert_21 : decode cX8_invert 21 = .ok (.ifCond .le 5, 3) := by decide +kernel
theorem dX8_invert_24 : decode cX8_invert 24 = .ok (.iconst 0, 1) := by decide +kernel
theorem dX8_invert_25 : decode cX8_invert 25 = .ok (.ireturn, 1) := by decide +kernel
theorem dX8_invert_26 : decode cX8_invert 26 = .ok (.aload_n 0, 1) := by decide +kernel
theorem dX8_invert_27 : decode cX8_invert 27 = .ok (.invokevirtual 227, 3) := by decide +kernel
theorem dX8_invert_30 : decode cX8_invert 30 = .ok (.iconst 0, 1) := by decide +kernel
theorem dX8_invert_31 : decode cX8_invert 31 = .ok (.istore_n 2, 1) := by decide +kernel
theorem dX8_invert_32 : decode cX8_invert 32 = .ok (.iload_n 2, 1) := by decide +kernel
theorem dX8_invert_33 : decode cX8_invert 33 = .ok (.aload_n 0, 1) := by decide +kernel
theorem dX8_invert_34 : decode cX8_invert 34 = .ok (.getfield 7, 3) := by decide +kernel
theorem dX8_invert_37 : decode cX8_invert 37 = .ok (.iconst 0, 1) := by decide +kernel
theorem dX8_invert_38 : decode cX8_invert 38 = .ok (.iaload, 1) := by decide +kernel
theorem dX8_invert_39 : decode cX8_invert 39 = .ok (.if_icmp .ge 31, 3) := by decide +kernel
theorem dX8_invert_42 : decode cX8_invert 42 = .ok (.aload_n 0, 1) := by decide +kernel
theorem dX8_invert_43 : decode cX8_invert 43 = .ok (.getfield 7, 3) := by decide +kernel
theorem dX8_invert_46 : decode cX8_invert 46 = .ok (.iload_n 1, 1) := by decide +kernel
theorem dX8_invert_47 : decode cX8_invert 47 = .ok (.iload_n 2, 1) := by decide +kernel
theorem dX8_invert_48 : decode cX8_invert 48 = .ok (.invokestatic 96, 3) := by decide +kernel
theorem dX8_invert_51 : decode cX8_invert 51 = .ok (.iconst 1, 1) := by decide +kernel
theorem dX8_invert_52 : decode cX8_invert 52 = .ok (.aload_n 0, 1) := by decide +kernel
theorem dX8_invert_53 : decode cX8_invert 53 = .ok (.getfield 7, 3) := by decide +kernel
theorem dX8_invert_56 : decode cX8_invert 56 = .ok (.iload_n 1, 1) := by decide +kernel
theorem dX8_invert_57 : decode cX8_invert 57 = .ok (.iload_n 2, 1) := by decide +kernel
theorem dX8_invert_58 : decode cX8_invert 58 = .ok (.invokestatic 96, 3) := by decide +kernel
theorem dX8_invert_61 : decode cX8_invert 61 = .ok (.iaload, 1) := by decide +kernel
theorem dX8_invert_62 : decode cX8_invert 62 = .ok (.isub, 1) := by decide +kernel
theorem dX8_invert_63 : decode cX8_invert 63 = .ok (.iastore, 1) := by decide +kernel
theorem dX8_invert_64 : decode cX8_invert 64 = .ok (.iinc 2 1, 3) := by decide +kernel
theorem dX8_invert_67 : decode cX8_invert 67 = .ok (.goto (-35), 3) := by decide +kernel
theorem dX8_invert_70 : decode cX8_invert 70 = .ok (.aload_n 0, 1) := by decide +kernel
theorem dX8_invert_71 : decode cX8_invert 71 = .ok (.iload_n 1, 1) := by decide +kernel
theorem dX8_invert_72 : decode cX8_invert 72 = .ok (.invokevirtual 179, 3) := by decide +kernel
theorem dX8_invert_75 : decode cX8_invert 75 = .ok (.ireturn, 1) := by decide +kernel
theorem dX8_swap_0 : decode cX8_swap 0 = .ok (.aload_n 0, 1) := by decide +kernel
theorem dX8_swap_1 : decode cX8_swap 1 = .ok (.aload_n 0, 1) := by decide +kernel
theorem dX8_swap_2 : decode cX8_swap 2 = .ok (.iload_n 1, 1) := by decide +kernel
theorem dX8_swap_3 : decode cX8_swap 3 = .ok (.invokevirtual 194, 3) := by decide +kernel
theorem dX8_swap_6 : decode cX8_swap 6 = .ok (.ifCond .eq 15, 3) := by decide +kernel
theorem dX8_swap_9 : decode cX8_swap 9 = .ok (.aload_n 0, 1) := by decide +kernel
theorem dX8_swap_10 : decode cX8_swap 10 = .ok (.iload_n 2, 1) := by decide +kernel
theorem dX8_swap_11 : decode cX8_swap 11 = .ok (.invokevirtual 194, 3) := by decide +kernel
theorem dX8_swap_14 : decode cX8_swap 14 = .ok (.ifCond .eq 7, 3) := by decide +kernel
theorem dX8_swap_17 : decode cX8_swap 17 = .ok (.iconst 0, 1) := by decide +kernel
theorem dX8_swap_18 : decode cX8_swap 18 = .ok (.goto 4, 3) := by decide +kernel
theorem dX8_swap_21 : decode cX8_swap 21 = .ok (.iconst 1, 1) := by decide +kernel
theorem dX8_swap_22 : decode cX8_swap 22 = .ok (.putfield 90, 3) := by decide +kernel
theorem dX8_swap_25 : decode cX8_swap 25 = .ok (.aload_n 0, 1) := by decide +kernel
theorem dX8_swap_26 : decode cX8_swap 26 = .ok (.getfield 90, 3) := by decide +kernel
theorem dX8_swap_29 : decode cX8_swap 29 = .ok (.ifCond .le 5, 3) := by decide +kernel
theorem dX8_swap_32 : decode cX8_swap 32 = .ok (.iconst 0, 1) := by decide +kernel
theorem dX8_swap_33 : decode cX8_swap 33 = .ok (.ireturn, 1) := by decide +kernel
theorem dX8_swap_34 : decode cX8_swap 34 = .ok (.aload_n 0, 1) := by decide +kernel
theorem dX8_swap_35 : decode cX8_swap 35 = .ok (.iload_n 1, 1) := by decide +kernel
theorem dX8_swap_36 : decode cX8_swap 36 = .ok (.iload_n 2, 1) := by decide +kernel
theorem dX8_swap_37 : decode cX8_swap 37 = .ok (.invokevirtual 185, 3) := by decide +kernel
theorem dX8_swap_40 : decode cX8_swap 40 = .ok (.istore_n 3, 1) := by decide +kernel
theorem dX8_swap_41 : decode cX8_swap 41 = .ok (.aload_n 0, 1) := by decide +kernel
theorem dX8_swap_42 : decode cX8_swap 42 = .ok (.invokevirtual 227, 3) := by decide +kernel
theorem dX8_swap_45 : decode cX8_swap 45 = .ok (.aload_n 0, 1) := by decide +kernel
theorem dX8_swap_46 : decode cX8_swap 46 = .ok (.aload_n 0, 1) := by decide +kernel
theorem dX8_swap_47 : decode cX8_swap 47 = .ok (.getfield 7, 3) := by decide +kernel
theorem dX8_swap_50 : decode cX8_swap 50 = .ok (.iload_n 1, 1) := by decide +kernel
theorem dX8_swap_51 : decode cX8_swap 51 = .ok (.iconst 0, 1) := by decide +kernel
theorem dX8_swap_52 : decode cX8_swap 52 = .ok (.invokestatic 96, 3) := by decide +kernel
theorem dX8_swap_55 : decode cX8_swap 55 = .ok (.invokevirtual 104, 3) := by decide +kernel
theorem dX8_swap_58 : decode cX8_swap 58 = .ok (.aload_n 0, 1) := by decide +kernel
theorem dX8_swap_59 : decode cX8_swap 59 = .ok (.iload_n 2, 1) := by decide +kernel
theorem dX8_swap_60 : decode cX8_swap 60 = .ok (.iload_n 1, 1) := by decide +kernel
theorem dX8_swap_61 : decode cX8_swap 61 = .ok (.invokevirtual 240, 3) := by decide +kernel
theorem dX8_swap_64 : decode cX8_swap 64 = .ok (.iconst 0, 1) := by decide +kernel
theorem dX8_swap_65 : decode cX8_swap 65 = .ok (.istore 4, 2) := by decide +kernel
theorem dX8_swap_67 : decode cX8_swap 67 = .ok (.iload 4, 2) := by decide +kernel
theorem dX8_swap_69 : decode cX8_swap 69 = .ok (.bipush 40, 2) := by decide +kernel
theorem dX8_swap_71 : decode cX8_swap 71 = .ok (.if_icmp .ge 27, 3) := by decide +kernel
theorem dX8_swap_74 : decode cX8_swap 74 = .ok (.aload_n 0, 1) := by decide +kernel
theorem dX8_swap_75 : decode cX8_swap 75 = .ok (.getfield 7, 3) := by decide +kernel
theorem dX8_swap_78 : decode cX8_swap 78 = .ok (.iload_n 2, 1) := by decide +kernel
theorem dX8_swap_79 : decode cX8_swap 79 = .ok (.iload 4, 2) := by decide +kernel
theorem dX8_swap_81 : decode cX8_swap 81 = .ok (.invokestatic 96, 3) := by decide +kernel
theorem dX8_swap_84 : decode cX8_swap 84 = .ok (.aload_n 0, 1) := by decide +kernel
theorem dX8_swap_85 : decode cX8_swap 85 = .ok (.getfield 29, 3) := by decide +kernel
theorem dX8_swap_88 : decode cX8_swap 88 = .ok (.iload 4, 2) := by decide +kernel
theorem dX8_swap_90 : decode cX8_swap 90 = .ok (.iaload, 1) := by decide +kernel
theorem dX8_swap_91 : decode cX8_swap 91 = .ok (.iastore, 1) := by decide +kernel
theorem dX8_swap_92 : decode cX8_swap 92 = .ok (.iinc 4 1, 3) := by decide +kernel
theorem dX8_swap_95 : decode cX8_swap 95 = .ok (.goto (-28), 3) := by decide +kernel
theorem dX8_swap_98 : decode cX8_swap 98 = .ok (.iload_n 3, 1) := by decide +kernel
theorem dX8_swap_99 : decode cX8_swap 99 = .ok (.ireturn, 1) := by decide +kernel
theorem dX8_laysLosses_0 : decode cX8_laysLosses 0 = .ok (.iconst 0, 1) := by decide +kernel
theorem dX8_laysLosses_1 : decode cX8_laysLosses 1 = .ok (.istore_n 1, 1) := by decide +kernel
theorem dX8_laysLosses_2 : decode cX8_laysLosses 2 = .ok (.iload_n 1, 1) := by decide +kernel
theorem dX8_laysLosses_3 : decode cX8_laysLosses 3 = .ok (.bipush 20, 2) := by decide +kernel
theorem dX8_laysLosses_5 : decode cX8_laysLosses 5 = .ok (.if_icmp .ge 24, 3) := by decide +kernel
theorem dX8_laysLosses_8 : decode cX8_laysLosses 8 = .ok (.aload_n 0, 1) := by decide +kernel
theorem dX8_laysLosses_9 : decode cX8_laysLosses 9 = .ok (.getfield 65, 3) := by decide +kernel
theorem dX8_laysLosses_12 : decode cX8_laysLosses 12 = .ok (.iload_n 1, 1) := by decide +kernel
theorem dX8_laysLosses_13 : decode cX8_laysLosses 13 = .ok (.aload_n 0, 1) := by decide +kernel
theorem dX8_laysLosses_14 : decode cX8_laysLosses 14 = .ok (.getfield 7, 3) := by decide +kernel
theorem dX8_laysLosses_17 : decode cX8_laysLosses 17 = .ok (.bipush 8, 2) := by decide +kernel
theorem dX8_laysLosses_19 : decode cX8_laysLosses 19 = .ok (.iload_n 1, 1) := by decide +kernel
theorem dX8_laysLosses_20 : decode cX8_laysLosses 20 = .ok (.iadd, 1) := by decide +kernel
theorem dX8_laysLosses_21 : decode cX8_laysLosses 21 = .ok (.iaload, 1) := by decide +kernel
theorem dX8_laysLosses_22 : decode cX8_laysLosses 22 = .ok (.iastore, 1) := by decide +kernel
theorem dX8_laysLosses_23 : decode cX8_laysLosses 23 = .ok (.iinc 1 1, 3) := by decide +kernel
theorem dX8_laysLosses_26 : decode cX8_laysLosses 26 = .ok (.goto (-24), 3) := by decide +kernel
theorem dX8_laysLosses_29 : decode cX8_laysLosses 29 = .ok (.return_, 1) := by decide +kernel
theorem dX8_fills_0 : decode cX8_fills 0 = .ok (.iconst 0, 1) := by decide +kernel
theorem dX8_fills_1 : decode cX8_fills 1 = .ok (.istore_n 3, 1) := by decide +kernel
theorem dX8_fills_2 : decode cX8_fills 2 = .ok (.iload_n 3, 1) := by decide +kernel
theorem dX8_fills_3 : decode cX8_fills 3 = .ok (.bipush 40, 2) := by decide +kernel
theorem dX8_fills_5 : decode cX8_fills 5 = .ok (.if_icmp .ge 51, 3) := by decide +kernel
theorem dX8_fills_8 : decode cX8_fills 8 = .ok (.aload_n 0, 1) := by decide +kernel
theorem dX8_fills_9 : decode cX8_fills 9 = .ok (.getfield 50, 3) := by decide +kernel
theorem dX8_fills_12 : decode cX8_fills 12 = .ok (.bipush 40, 2) := by decide +kernel
theorem dX8_fills_14 : decode cX8_fills 14 = .ok (.iload_n 1, 1) := by decide +kernel
theorem dX8_fills_15 : decode cX8_fills 15 = .ok (.imul, 1) := by decide +kernel
theorem dX8_fills_16 : decode cX8_fills 16 = .ok (.iload_n 3, 1) := by decide +kernel
theorem dX8_fills_17 : decode cX8_fills 17 = .ok (.iadd, 1) := by decide +kernel
theorem dX8_fills_18 : decode cX8_fills 18 = .ok (.aload_n 0, 1) := by decide +kernel
theorem dX8_fills_19 : decode cX8_fills 19 = .ok (.getfield 7, 3) := by decide +kernel
theorem dX8_fills_22 : decode cX8_fills 22 = .ok (.iconst 4, 1) := by decide +kernel
theorem dX8_fills_23 : decode cX8_fills 23 = .ok (.iaload, 1) := by decide +kernel
theorem dX8_fills_24 : decode cX8_fills 24 = .ok (.iconst 1, 1) := by decide +kernel
theorem dX8_fills_25 : decode cX8_fills 25 = .ok (.if_icmp .eq 7, 3) := by decide +kernel
theorem dX8_fills_28 : decode cX8_fills 28 = .ok (.iload_n 1, 1) := by decide +kernel
theorem dX8_fills_29 : decode cX8_fills 29 = .ok (.ifCond .ne 7, 3) := by decide +kernel
theorem dX8_fills_32 : decode cX8_fills 32 = .ok (.iconst 0, 1) := by decide +kernel
theorem dX8_fills_33 : decode cX8_fills 33 = .ok (.goto 16, 3) := by decide +kernel
theorem dX8_fills_36 : decode cX8_fills 36 = .ok (.aload_n 0, 1) := by decide +kernel
theorem dX8_fills_37 : decode cX8_fills 37 = .ok (.getfield 50, 3) := by decide +kernel
theorem dX8_fills_40 : decode cX8_fills 40 = .ok (.bipush 40, 2) := by decide +kernel
theorem dX8_fills_42 : decode cX8_fills 42 = .ok (.iload_n 1, 1) := by decide +kernel
theorem dX8_fills_43 : decode cX8_fills 43 = .ok (.iconst 1, 1) := by decide +kernel
theorem dX8_fills_44 : decode cX8_fills 44 = .ok (.isub, 1) := by decide +kernel
theorem dX8_fills_45 : decode cX8_fills 45 = .ok (.imul, 1) := by decide +kernel
theorem dX8_fills_46 : decode cX8_fills 46 = .ok (.iload_n 3, 1) := by decide +kernel
theorem dX8_fills_47 : decode cX8_fills 47 = .ok (.iadd, 1) := by decide +kernel
theorem dX8_fills_48 : decode cX8_fills 48 = .ok (.iaload, 1) := by decide +kernel
theorem dX8_fills_49 : decode cX8_fills 49 = .ok (.iastore, 1) := by decide +kernel
theorem dX8_fills_50 : decode cX8_fills 50 = .ok (.iinc 3 1, 3) := by decide +kernel
theorem dX8_fills_53 : decode cX8_fills 53 = .ok (.goto (-51), 3) := by decide +kernel
theorem dX8_fills_56 : decode cX8_fills 56 = .ok (.aload_n 0, 1) := by decide +kernel
theorem dX8_fills_57 : decode cX8_fills 57 = .ok (.getfield 53, 3) := by decide +kernel
theorem dX8_fills_60 : decode cX8_fills 60 = .ok (.iload_n 1, 1) := by decide +kernel
theorem dX8_fills_61 : decode cX8_fills 61 = .ok (.iload_n 2, 1) := by decide +kernel
theorem dX8_fills_62 : decode cX8_fills 62 = .ok (.iastore, 1) := by decide +kernel
theorem dX8_fills_63 : decode cX8_fills 63 = .ok (.return_, 1) := by decide +kernel
theorem dX8_wrongIn_0 : decode cX8_wrongIn 0 = .ok (.iconst 0, 1) := by decide +kernel
theorem dX8_wrongIn_1 : decode cX8_wrongIn 1 = .ok (.istore_n 2, 1) := by decide +kernel
theorem dX8_wrongIn_2 : decode cX8_wrongIn 2 = .ok (.iconst 0, 1) := by decide +kernel
theorem dX8_wrongIn_3 : decode cX8_wrongIn 3 = .ok (.istore_n 3, 1) := by decide +kernel
theorem dX8_wrongIn_4 : decode cX8_wrongIn 4 = .ok (.iload_n 3, 1) := by decide +kernel
theorem dX8_wrongIn_5 : decode cX8_wrongIn 5 = .ok (.aload_n 0, 1) := by decide +kernel
theorem dX8_wrongIn_6 : decode cX8_wrongIn 6 = .ok (.getfield 7, 3) := by decide +kernel
theorem dX8_wrongIn_9 : decode cX8_wrongIn 9 = .ok (.iconst 0, 1) := by decide +kernel
theorem dX8_wrongIn_10 : decode cX8_wrongIn 10 = .ok (.iaload, 1) := by decide +kernel
theorem dX8_wrongIn_11 : decode cX8_wrongIn 11 = .ok (.if_icmp .ge 41, 3) := by decide +kernel
theorem dX8_wrongIn_14 : decode cX8_wrongIn 14 = .ok (.iload_n 2, 1) := by decide +kernel
theorem dX8_wrongIn_15 : decode cX8_wrongIn 15 = .ok (.aload_n 0, 1) := by decide +kernel
theorem dX8_wrongIn_16 : decode cX8_wrongIn 16 = .ok (.getfield 50, 3) := by decide +kernel
theorem dX8_wrongIn_19 : decode cX8_wrongIn 19 = .ok (.bipush 40, 2) := by decide +kernel
theorem dX8_wrongIn_21 : decode cX8_wrongIn 21 = .ok (.iload_n 1, 1) := by decide +kernel
theorem dX8_wrongIn_22 : decode cX8_wrongIn 22 = .ok (.imul, 1) := by decide +kernel
theorem dX8_wrongIn_23 : decode cX8_wrongIn 23 = .ok (.iload_n 3, 1) := by decide +kernel
theorem dX8_wrongIn_24 : decode cX8_wrongIn 24 = .ok (.iadd, 1) := by decide +kernel
theorem dX8_wrongIn_25 : decode cX8_wrongIn 25 = .ok (.iaload, 1) := by decide +kernel
theorem dX8_wrongIn_26 : decode cX8_wrongIn 26 = .ok (.aload_n 0, 1) := by decide +kernel
theorem dX8_wrongIn_27 : decode cX8_wrongIn 27 = .ok (.getfield 7, 3) := by decide +kernel
theorem dX8_wrongIn_30 : decode cX8_wrongIn 30 = .ok (.iload_n 1, 1) := by decide +kernel
theorem dX8_wrongIn_31 : decode cX8_wrongIn 31 = .ok (.iload_n 3, 1) := by decide +kernel
theorem dX8_wrongIn_32 : decode cX8_wrongIn 32 = .ok (.invokestatic 96, 3) := by decide +kernel
theorem dX8_wrongIn_35 : decode cX8_wrongIn 35 = .ok (.iaload, 1) := by decide +kernel
theorem dX8_wrongIn_36 : decode cX8_wrongIn 36 = .ok (.if_icmp .ne 7, 3) := by decide +kernel
theorem dX8_wrongIn_39 : decode cX8_wrongIn 39 = .ok (.iconst 0, 1) := by decide +kernel
theorem dX8_wrongIn_40 : decode cX8_wrongIn 40 = .ok (.goto 4, 3) := by decide +kernel
theorem dX8_wrongIn_43 : decode cX8_wrongIn 43 = .ok (.iconst 1, 1) := by decide +kernel
theorem dX8_wrongIn_44 : decode cX8_wrongIn 44 = .ok (.iadd, 1) := by decide +kernel
theorem dX8_wrongIn_45 : decode cX8_wrongIn 45 = .ok (.istore_n 2, 1) := by decide +kernel
theorem dX8_wrongIn_46 : decode cX8_wrongIn 46 = .ok (.iinc 3 1, 3) := by decide +kernel
theorem dX8_wrongIn_49 : decode cX8_wrongIn 49 = .ok (.goto (-45), 3) := by decide +kernel
theorem dX8_wrongIn_52 : decode cX8_wrongIn 52 = .ok (.iload_n 2, 1) := by decide +kernel
theorem dX8_wrongIn_53 : decode cX8_wrongIn 53 = .ok (.ireturn, 1) := by decide +kernel
theorem dX8_isRead_0 : decode cX8_isRead 0 = .ok (.aload_n 0, 1) := by decide +kernel
theorem dX8_isRead_1 : decode cX8_isRead 1 = .ok (.iload_n 1, 1) := by decide +kernel
theorem dX8_isRead_2 : decode cX8_isRead 2 = .ok (.invokevirtual 173, 3) := by decide +kernel
theorem dX8_isRead_5 : decode cX8_isRead 5 = .ok (.istore_n 2, 1) := by decide +kernel
theorem dX8_isRead_6 : decode cX8_isRead 6 = .ok (.aload_n 0, 1) := by decide +kernel
theorem dX8_isRead_7 : decode cX8_isRead 7 = .ok (.iload_n 1, 1) := by decide +kernel
theorem dX8_isRead_8 : decode cX8_isRead 8 = .ok (.invokevirtual 163, 3) := by decide +kernel
theorem dX8_isRead_11 : decode cX8_isRead 11 = .ok (.iload_n 2, 1) := by decide +kernel
theorem dX8_isRead_12 : decode cX8_isRead 12 = .ok (.ifCond .eq 31, 3) := by decide +kernel
theorem dX8_isRead_15 : decode cX8_isRead 15 = .ok (.iconst 0, 1) := by decide +kernel
theorem dX8_isRead_16 : decode cX8_isRead 16 = .ok (.istore_n 3, 1) := by decide +kernel
theorem dX8_isRead_17 : decode cX8_isRead 17 = .ok (.iload_n 3, 1) := by decide +kernel
theorem dX8_isRead_18 : decode cX8_isRead 18 = .ok (.bipush 40, 2) := by decide +kernel
theorem dX8_isRead_20 : decode cX8_isRead 20 = .ok (.if_icmp .ge 21, 3) := by decide +kernel
theorem dX8_isRead_23 : decode cX8_isRead 23 = .ok (.aload_n 0, 1) := by decide +kernel
theorem dX8_isRead_24 : decode cX8_isRead 24 = .ok (.getfield 44, 3) := by decide +kernel
theorem dX8_isRead_27 : decode cX8_isRead 27 = .ok (.iload_n 3, 1) := by decide +kernel
theorem dX8_isRead_28 : decode cX8_isRead 28 = .ok (.aload_n 0, 1) := by decide +kernel
theorem dX8_isRead_29 : decode cX8_isRead 29 = .ok (.getfield 29, 3) := by decide +kernel
theorem dX8_isRead_32 : decode cX8_isRead 32 = .ok (.iload_n 3, 1) := by decide +kernel
theorem dX8_isRead_33 : decode cX8_isRead 33 = .ok (.iaload, 1) := by decide +kernel
theorem dX8_isRead_34 : decode cX8_isRead 34 = .ok (.iastore, 1) := by decide +kernel
theorem dX8_isRead_35 : decode cX8_isRead 35 = .ok (.iinc 3 1, 3) := by decide +kernel
theorem dX8_isRead_38 : decode cX8_isRead 38 = .ok (.goto (-21), 3) := by decide +kernel
theorem dX8_isRead_41 : decode cX8_isRead 41 = .ok (.iconst 1, 1) := by decide +kernel
theorem dX8_isRead_42 : decode cX8_isRead 42 = .ok (.ireturn, 1) := by decide +kernel
theorem dX8_isRead_43 : decode cX8_isRead 43 = .ok (.aload_n 0, 1) := by decide +kernel
theorem dX8_isRead_44 : decode cX8_isRead 44 = .ok (.aload_n 0, 1) := by decide +kernel
theorem dX8_isRead_45 : decode cX8_isRead 45 = .ok (.getfield 50, 3) := by decide +kernel
theorem dX8_isRead_48 : decode cX8_isRead 48 = .ok (.bipush 40, 2) := by decide +kernel
theorem dX8_isRead_50 : decode cX8_isRead 50 = .ok (.iload_n 1, 1) := by decide +kernel
theorem dX8_isRead_51 : decode cX8_isRead 51 = .ok (.iconst 1, 1) := by decide +kernel
theorem dX8_isRead_52 : decode cX8_isRead 52 = .ok (.isub, 1) := by decide +kernel
theorem dX8_isRead_53 : decode cX8_isRead 53 = .ok (.imul, 1) := by decide +kernel
theorem dX8_isRead_54 : decode cX8_isRead 54 = .ok (.invokevirtual 100, 3) := by decide +kernel
theorem dX8_isRead_57 : decode cX8_isRead 57 = .ok (.aload_n 0, 1) := by decide +kernel
theorem dX8_isRead_58 : decode cX8_isRead 58 = .ok (.invokevirtual 217, 3) := by decide +kernel
theorem dX8_isRead_61 : decode cX8_isRead 61 = .ok (.ireturn, 1) := by decide +kernel
theorem dX8_sends_0 : decode cX8_sends 0 = .ok (.aload_n 0, 1) := by decide +kernel
theorem dX8_sends_1 : decode cX8_sends 1 = .ok (.getfield 7, 3) := by decide +kernel
theorem dX8_sends_4 : decode cX8_sends 4 = .ok (.bipush 6, 2) := by decide +kernel
theorem dX8_sends_6 : decode cX8_sends 6 = .ok (.iaload, 1) := by decide +kernel
theorem dX8_sends_7 : decode cX8_sends 7 = .ok (.aload_n 0, 1) := by decide +kernel
theorem dX8_sends_8 : decode cX8_sends 8 = .ok (.iload_n 1, 1) := by decide +kernel
theorem dX8_sends_9 : decode cX8_sends 9 = .ok (.invokevirtual 201, 3) := by decide +kernel
theorem dX8_sends_12 : decode cX8_sends 12 = .ok (.iadd, 1) := by decide +kernel
theorem dX8_sends_13 : decode cX8_sends 13 = .ok (.istore_n 2, 1) := by decide +kernel
theorem dX8_sends_14 : decode cX8_sends 14 = .ok (.aload_n 0, 1) := by decide +kernel
theorem dX8_sends_15 : decode cX8_sends 15 = .ok (.getfield 59, 3) := by decide +kernel
theorem dX8_sends_18 : decode cX8_sends 18 = .ok (.iload_n 1, 1) := by decide +kernel
theorem dX8_sends_19 : decode cX8_sends 19 = .ok (.dup2, 1) := by decide +kernel
theorem dX8_sends_20 : decode cX8_sends 20 = .ok (.iaload, 1) := by decide +kernel
theorem dX8_sends_21 : decode cX8_sends 21 = .ok (.iload_n 2, 1) := by decide +kernel
theorem dX8_sends_22 : decode cX8_sends 22 = .ok (.iadd, 1) := by decide +kernel
theorem dX8_sends_23 : decode cX8_sends 23 = .ok (.iastore, 1) := by decide +kernel
theorem dX8_sends_24 : decode cX8_sends 24 = .ok (.aload_n 0, 1) := by decide +kernel
theorem dX8_sends_25 : decode cX8_sends 25 = .ok (.dup, 1) := by decide +kernel
theorem dX8_sends_26 : decode cX8_sends 26 = .ok (.getfield 244, 3) := by decide +kernel
theorem dX8_sends_29 : decode cX8_sends 29 = .ok (.iload_n 2, 1) := by decide +kernel
theorem dX8_sends_30 : decode cX8_sends 30 = .ok (.iadd, 1) := by decide +kernel
theorem dX8_sends_31 : decode cX8_sends 31 = .ok (.putfield 244, 3) := by decide +kernel
theorem dX8_sends_34 : decode cX8_sends 34 = .ok (.aload_n 0, 1) := by decide +kernel
theorem dX8_sends_35 : decode cX8_sends 35 = .ok (.dup, 1) := by decide +kernel
theorem dX8_sends_36 : decode cX8_sends 36 = .ok (.getfield 247, 3) := by decide +kernel
theorem dX8_sends_39 : decode cX8_sends 39 = .ok (.iconst 1, 1) := by decide +kernel
theorem dX8_sends_40 : decode cX8_sends 40 = .ok (.iadd, 1) := by decide +kernel
theorem dX8_sends_41 : decode cX8_sends 41 = .ok (.putfield 247, 3) := by decide +kernel
theorem dX8_sends_44 : decode cX8_sends 44 = .ok (.aload_n 0, 1) := by decide +kernel
theorem dX8_sends_45 : decode cX8_sends 45 = .ok (.getfield 56, 3) := by decide +kernel
theorem dX8_sends_48 : decode cX8_sends 48 = .ok (.iload_n 1, 1) := by decide +kernel
theorem dX8_sends_49 : decode cX8_sends 49 = .ok (.dup2, 1) := by decide +kernel
theorem dX8_sends_50 : decode cX8_sends 50 = .ok (.iaload, 1) := by decide +kernel
theorem dX8_sends_51 : decode cX8_sends 51 = .ok (.iconst 1, 1) := by decide +kernel
theorem dX8_sends_52 : decode cX8_sends 52 = .ok (.iadd, 1) := by decide +kernel
theorem dX8_sends_53 : decode cX8_sends 53 = .ok (.iastore, 1) := by decide +kernel
theorem dX8_sends_54 : decode cX8_sends 54 = .ok (.aload_n 0, 1) := by decide +kernel
theorem dX8_sends_55 : decode cX8_sends 55 = .ok (.getfield 56, 3) := by decide +kernel
theorem dX8_sends_58 : decode cX8_sends 58 = .ok (.iload_n 1, 1) := by decide +kernel
theorem dX8_sends_59 : decode cX8_sends 59 = .ok (.iaload, 1) := by decide +kernel
theorem dX8_sends_60 : decode cX8_sends 60 = .ok (.aload_n 0, 1) := by decide +kernel
theorem dX8_sends_61 : decode cX8_sends 61 = .ok (.getfield 65, 3) := by decide +kernel
theorem dX8_sends_64 : decode cX8_sends 64 = .ok (.iload_n 1, 1) := by decide +kernel
theorem dX8_sends_65 : decode cX8_sends 65 = .ok (.iaload, 1) := by decide +kernel
theorem dX8_sends_66 : decode cX8_sends 66 = .ok (.if_icmp .gt 15, 3) := by decide +kernel
theorem dX8_sends_69 : decode cX8_sends 69 = .ok (.aload_n 0, 1) := by decide +kernel
theorem dX8_sends_70 : decode cX8_sends 70 = .ok (.dup, 1) := by decide +kernel
theorem dX8_sends_71 : decode cX8_sends 71 = .ok (.getfield 250, 3) := by decide +kernel
theorem dX8_sends_74 : decode cX8_sends 74 = .ok (.iconst 1, 1) := by decide +kernel
theorem dX8_sends_75 : decode cX8_sends 75 = .ok (.iadd, 1) := by decide +kernel
theorem dX8_sends_76 : decode cX8_sends 76 = .ok (.putfield 250, 3) := by decide +kernel
theorem dX8_sends_79 : decode cX8_sends 79 = .ok (.iconst 1, 1) := by decide +kernel
theorem dX8_sends_80 : decode cX8_sends 80 = .ok (.ireturn, 1) := by decide +kernel
theorem dX8_sends_81 : decode cX8_sends 81 = .ok (.aload_n 0, 1) := by decide +kernel
theorem dX8_sends_82 : decode cX8_sends 82 = .ok (.iload_n 1, 1) := by decide +kernel
theorem dX8_sends_83 : decode cX8_sends 83 = .ok (.invokevirtual 253, 3) := by decide +kernel
theorem dX8_sends_86 : decode cX8_sends 86 = .ok (.ifCond .ne 15, 3) := by decide +kernel
theorem dX8_sends_89 : decode cX8_sends 89 = .ok (.aload_n 0, 1) := by decide +kernel
theorem dX8_sends_90 : decode cX8_sends 90 = .ok (.dup, 1) := by decide +kernel
theorem dX8_sends_91 : decode cX8_sends 91 = .ok (.getfield 256, 3) := by decide +kernel
theorem dX8_sends_94 : decode cX8_sends 94 = .ok (.iconst 1, 1) := by decide +kernel
theorem dX8_sends_95 : decode cX8_sends 95 = .ok (.iadd, 1) := by decide +kernel
theorem dX8_sends_96 : decode cX8_sends 96 = .ok (.putfield 256, 3) := by decide +kernel
theorem dX8_sends_99 : decode cX8_sends 99 = .ok (.iconst 2, 1) := by decide +kernel
theorem dX8_sends_100 : decode cX8_sends 100 = .ok (.ireturn, 1) := by decide +kernel
theorem dX8_sends_101 : decode cX8_sends 101 = .ok (.iconst 0, 1) := by decide +kernel
theorem dX8_sends_102 : decode cX8_sends 102 = .ok (.istore_n 3, 1) := by decide +kernel
theorem dX8_sends_103 : decode cX8_sends 103 = .ok (.iload_n 3, 1) := by decide +kernel
theorem dX8_sends_104 : decode cX8_sends 104 = .ok (.bipush 40, 2) := by decide +kernel
theorem dX8_sends_106 : decode cX8_sends 106 = .ok (.if_icmp .ge 26, 3) := by decide +kernel
theorem dX8_sends_109 : decode cX8_sends 109 = .ok (.aload_n 0, 1) := by decide +kernel
theorem dX8_sends_110 : decode cX8_sends 110 = .ok (.getfield 50, 3) := by decide +kernel
theorem dX8_sends_113 : decode cX8_sends 113 = .ok (.bipush 40, 2) := by decide +kernel
theorem dX8_sends_115 : decode cX8_sends 115 = .ok (.iload_n 1, 1) := by decide +kernel
theorem dX8_sends_116 : decode cX8_sends 116 = .ok (.imul, 1) := by decide +kernel
theorem dX8_sends_117 : decode cX8_sends 117 = .ok (.iload_n 3, 1) := by decide +kernel
theorem dX8_sends_118 : decode cX8_sends 118 = .ok (.iadd, 1) := by decide +kernel
theorem dX8_sends_119 : decode cX8_sends 119 = .ok (.aload_n 0, 1) := by decide +kernel
theorem dX8_sends_120 : decode cX8_sends 120 = .ok (.getfield 44, 3) := by decide +kernel
theorem dX8_sends_123 : decode cX8_sends 123 = .ok (.iload_n 3, 1) := by decide +kernel
theorem dX8_sends_124 : decode cX8_sends 124 = .ok (.iaload, 1) := by decide +kernel
theorem dX8_sends_125 : decode cX8_sends 125 = .ok (.iastore, 1) := by decide +kernel
theorem dX8_sends_126 : decode cX8_sends 126 = .ok (.iinc 3 1, 3) := by decide +kernel
theorem dX8_sends_129 : decode cX8_sends 129 = .ok (.goto (-26), 3) := by decide +kernel
theorem dX8_sends_132 : decode cX8_sends 132 = .ok (.aload_n 0, 1) := by decide +kernel
theorem dX8_sends_133 : decode cX8_sends 133 = .ok (.getfield 53, 3) := by decide +kernel
theorem dX8_sends_136 : decode cX8_sends 136 = .ok (.iload_n 1, 1) := by decide +kernel
theorem dX8_sends_137 : decode cX8_sends 137 = .ok (.aload_n 0, 1) := by decide +kernel
theorem dX8_sends_138 : decode cX8_sends 138 = .ok (.iload_n 1, 1) := by decide +kernel
theorem dX8_sends_139 : decode cX8_sends 139 = .ok (.invokevirtual 259, 3) := by decide +kernel
theorem dX8_sends_142 : decode cX8_sends 142 = .ok (.ifCond .ne 7, 3) := by decide +kernel
theorem dX8_sends_145 : decode cX8_sends 145 = .ok (.iconst 0, 1) := by decide +kernel
theorem dX8_sends_146 : decode cX8_sends 146 = .ok (.goto 4, 3) := by decide +kernel
theorem dX8_sends_149 : decode cX8_sends 149 = .ok (.iconst 3, 1) := by decide +kernel
theorem dX8_sends_150 : decode cX8_sends 150 = .ok (.iastore, 1) := by decide +kernel
theorem dX8_sends_151 : decode cX8_sends 151 = .ok (.iconst 0, 1) := by decide +kernel
theorem dX8_sends_152 : decode cX8_sends 152 = .ok (.ireturn, 1) := by decide +kernel
theorem dX8_sendsAll_0 : decode cX8_sendsAll 0 = .ok (.iconst 0, 1) := by decide +kernel
theorem dX8_sendsAll_1 : decode cX8_sendsAll 1 = .ok (.istore_n 1, 1) := by decide +kernel
theorem dX8_sendsAll_2 : decode cX8_sendsAll 2 = .ok (.iload_n 1, 1) := by decide +kernel
theorem dX8_sendsAll_3 : decode cX8_sendsAll 3 = .ok (.bipush 20, 2) := by decide +kernel
theorem dX8_sendsAll_5 : decode cX8_sendsAll 5 = .ok (.if_icmp .ge 37, 3) := by decide +kernel
theorem dX8_sendsAll_8 : decode cX8_sendsAll 8 = .ok (.aload_n 0, 1) := by decide +kernel
theorem dX8_sendsAll_9 : decode cX8_sendsAll 9 = .ok (.getfield 53, 3) := by decide +kernel
theorem dX8_sendsAll_12 : decode cX8_sendsAll 12 = .ok (.iload_n 1, 1) := by decide +kernel
theorem dX8_sendsAll_13 : decode cX8_sendsAll 13 = .ok (.iconst 0, 1) := by decide +kernel
theorem dX8_sendsAll_14 : decode cX8_sendsAll 14 = .ok (.iastore, 1) := by decide +kernel
theorem dX8_sendsAll_15 : decode cX8_sendsAll 15 = .ok (.aload_n 0, 1) := by decide +kernel
theorem dX8_sendsAll_16 : decode cX8_sendsAll 16 = .ok (.getfield 56, 3) := by decide +kernel
theorem dX8_sendsAll_19 : decode cX8_sendsAll 19 = .ok (.iload_n 1, 1) := by decide +kernel
theorem dX8_sendsAll_20 : decode cX8_sendsAll 20 = .ok (.iconst 0, 1) := by decide +kernel
theorem dX8_sendsAll_21 : decode cX8_sendsAll 21 = .ok (.iastore, 1) := by decide +kernel
theorem dX8_sendsAll_22 : decode cX8_sendsAll 22 = .ok (.aload_n 0, 1) := by decide +kernel
theorem dX8_sendsAll_23 : decode cX8_sendsAll 23 = .ok (.getfield 59, 3) := by decide +kernel
theorem dX8_sendsAll_26 : decode cX8_sendsAll 26 = .ok (.iload_n 1, 1) := by decide +kernel
theorem dX8_sendsAll_27 : decode cX8_sendsAll 27 = .ok (.iconst 0, 1) := by decide +kernel
theorem dX8_sendsAll_28 : decode cX8_sendsAll 28 = .ok (.iastore, 1) := by decide +kernel
theorem dX8_sendsAll_29 : decode cX8_sendsAll 29 = .ok (.aload_n 0, 1) := by decide +kernel
theorem dX8_sendsAll_30 : decode cX8_sendsAll 30 = .ok (.getfield 62, 3) := by decide +kernel
theorem dX8_sendsAll_33 : decode cX8_sendsAll 33 = .ok (.iload_n 1, 1) := by decide +kernel
theorem dX8_sendsAll_34 : decode cX8_sendsAll 34 = .ok (.iconst 0, 1) := by decide +kernel
theorem dX8_sendsAll_35 : decode cX8_sendsAll 35 = .ok (.iastore, 1) := by decide +kernel
theorem dX8_sendsAll_36 : decode cX8_sendsAll 36 = .ok (.iinc 1 1, 3) := by decide +kernel
theorem dX8_sendsAll_39 : decode cX8_sendsAll 39 = .ok (.goto (-37), 3) := by decide +kernel
theorem dX8_sendsAll_42 : decode cX8_sendsAll 42 = .ok (.aload_n 0, 1) := by decide +kernel
theorem dX8_sendsAll_43 : decode cX8_sendsAll 43 = .ok (.iconst 0, 1) := by decide +kernel
theorem dX8_sendsAll_44 : decode cX8_sendsAll 44 = .ok (.putfield 244, 3) := by decide +kernel
theorem dX8_sendsAll_47 : decode cX8_sendsAll 47 = .ok (.aload_n 0, 1) := by decide +kernel
theorem dX8_sendsAll_48 : decode cX8_sendsAll 48 = .ok (.iconst 0, 1) := by decide +kernel
theorem dX8_sendsAll_49 : decode cX8_sendsAll 49 = .ok (.putfield 247, 3) := by decide +kernel
theorem dX8_sendsAll_52 : decode cX8_sendsAll 52 = .ok (.aload_n 0, 1) := by decide +kernel
theorem dX8_sendsAll_53 : decode cX8_sendsAll 53 = .ok (.iconst 0, 1) := by decide +kernel
theorem dX8_sendsAll_54 : decode cX8_sendsAll 54 = .ok (.putfield 262, 3) := by decide +kernel
theorem dX8_sendsAll_57 : decode cX8_sendsAll 57 = .ok (.aload_n 0, 1) := by decide +kernel
theorem dX8_sendsAll_58 : decode cX8_sendsAll 58 = .ok (.iconst 0, 1) := by decide +kernel
theorem dX8_sendsAll_59 : decode cX8_sendsAll 59 = .ok (.putfield 250, 3) := by decide +kernel
theorem dX8_sendsAll_62 : decode cX8_sendsAll 62 = .ok (.aload_n 0, 1) := by decide +kernel
theorem dX8_sendsAll_63 : decode cX8_sendsAll 63 = .ok (.iconst 0, 1) := by decide +kernel
theorem dX8_sendsAll_64 : decode cX8_sendsAll 64 = .ok (.putfield 256, 3) := by decide +kernel
theorem dX8_sendsAll_67 : decode cX8_sendsAll 67 = .ok (.iconst 0, 1) := by decide +kernel
theorem dX8_sendsAll_68 : decode cX8_sendsAll 68 = .ok (.istore_n 1, 1) := by decide +kernel
theorem dX8_sendsAll_69 : decode cX8_sendsAll 69 = .ok (.iload_n 1, 1) := by decide +kernel
theorem dX8_sendsAll_70 : decode cX8_sendsAll 70 = .ok (.aload_n 0, 1) := by decide +kernel
theorem dX8_sendsAll_71 : decode cX8_sendsAll 71 = .ok (.getfield 7, 3) := by decide +kernel
theorem dX8_sendsAll_74 : decode cX8_sendsAll 74 = .ok (.iconst 1, 1) := by decide +kernel
theorem dX8_sendsAll_75 : decode cX8_sendsAll 75 = .ok (.iaload, 1) := by decide +kernel
theorem dX8_sendsAll_76 : decode cX8_sendsAll 76 = .ok (.if_icmp .ge 87, 3) := by decide +kernel
theorem dX8_sendsAll_79 : decode cX8_sendsAll 79 = .ok (.aload_n 0, 1) := by decide +kernel
theorem dX8_sendsAll_80 : decode cX8_sendsAll 80 = .ok (.iload_n 1, 1) := by decide +kernel
theorem dX8_sendsAll_81 : decode cX8_sendsAll 81 = .ok (.invokevirtual 265, 3) := by decide +kernel
theorem dX8_sendsAll_84 : decode cX8_sendsAll 84 = .ok (.istore_n 2, 1) := by decide +kernel
theorem dX8_sendsAll_85 : decode cX8_sendsAll 85 = .ok (.iload_n 2, 1) := by decide +kernel
theorem dX8_sendsAll_86 : decode cX8_sendsAll 86 = .ok (.ifCond .le 61, 3) := by decide +kernel
theorem dX8_sendsAll_89 : decode cX8_sendsAll 89 = .ok (.aload_n 0, 1) := by decide +kernel
theorem dX8_sendsAll_90 : decode cX8_sendsAll 90 = .ok (.getfield 262, 3) := by decide +kernel
theorem dX8_sendsAll_93 : decode cX8_sendsAll 93 = .ok (.aload_n 0, 1) := by decide +kernel
theorem dX8_sendsAll_94 : decode cX8_sendsAll 94 = .ok (.getfield 7, 3) := by decide +kernel
theorem dX8_sendsAll_97 : decode cX8_sendsAll 97 = .ok (.iconst 5, 1) := by decide +kernel
theorem dX8_sendsAll_98 : decode cX8_sendsAll 98 = .ok (.iaload, 1) := by decide +kernel
theorem dX8_sendsAll_99 : decode cX8_sendsAll 99 = .ok (.if_icmp .ge 48, 3) := by decide +kernel
theorem dX8_sendsAll_102 : decode cX8_sendsAll 102 = .ok (.aload_n 0, 1) := by decide +kernel
theorem dX8_sendsAll_103 : decode cX8_sendsAll 103 = .ok (.dup, 1) := by decide +kernel
theorem dX8_sendsAll_104 : decode cX8_sendsAll 104 = .ok (.getfield 262, 3) := by decide +kernel
theorem dX8_sendsAll_107 : decode cX8_sendsAll 107 = .ok (.iconst 1, 1) := by decide +kernel
theorem dX8_sendsAll_108 : decode cX8_sendsAll 108 = .ok (.iadd, 1) := by decide +kernel
theorem dX8_sendsAll_109 : decode cX8_sendsAll 109 = .ok (.putfield 262, 3) := by decide +kernel
theorem dX8_sendsAll_112 : decode cX8_sendsAll 112 = .ok (.aload_n 0, 1) := by decide +kernel
theorem dX8_sendsAll_113 : decode cX8_sendsAll 113 = .ok (.getfield 62, 3) := by decide +kernel
theorem dX8_sendsAll_116 : decode cX8_sendsAll 116 = .ok (.iload_n 1, 1) := by decide +kernel
theorem dX8_sendsAll_117 : decode cX8_sendsAll 117 = .ok (.dup2, 1) := by decide +kernel
theorem dX8_sendsAll_118 : decode cX8_sendsAll 118 = .ok (.iaload, 1) := by decide +kernel
theorem dX8_sendsAll_119 : decode cX8_sendsAll 119 = .ok (.iconst 1, 1) := by decide +kernel
theorem dX8_sendsAll_120 : decode cX8_sendsAll 120 = .ok (.iadd, 1) := by decide +kernel
theorem dX8_sendsAll_121 : decode cX8_sendsAll 121 = .ok (.iastore, 1) := by decide +kernel
theorem dX8_sendsAll_122 : decode cX8_sendsAll 122 = .ok (.aload_n 0, 1) := by decide +kernel
theorem dX8_sendsAll_123 : decode cX8_sendsAll 123 = .ok (.dup, 1) := by decide +kernel
theorem dX8_sendsAll_124 : decode cX8_sendsAll 124 = .ok (.getfield 244, 3) := by decide +kernel
theorem dX8_sendsAll_127 : decode cX8_sendsAll 127 = .ok (.aload_n 0, 1) := by decide +kernel
theorem dX8_sendsAll_128 : decode cX8_sendsAll 128 = .ok (.getfield 7, 3) := by decide +kernel
theorem dX8_sendsAll_131 : decode cX8_sendsAll 131 = .ok (.bipush 7, 2) := by decide +kernel
theorem dX8_sendsAll_133 : decode cX8_sendsAll 133 = .ok (.iaload, 1) := by decide +kernel
theorem dX8_sendsAll_134 : decode cX8_sendsAll 134 = .ok (.iadd, 1) := by decide +kernel
theorem dX8_sendsAll_135 : decode cX8_sendsAll 135 = .ok (.putfield 244, 3) := by decide +kernel
theorem dX8_sendsAll_138 : decode cX8_sendsAll 138 = .ok (.aload_n 0, 1) := by decide +kernel
theorem dX8_sendsAll_139 : decode cX8_sendsAll 139 = .ok (.iload_n 1, 1) := by decide +kernel
theorem dX8_sendsAll_140 : decode cX8_sendsAll 140 = .ok (.invokevirtual 204, 3) := by decide +kernel
theorem dX8_sendsAll_143 : decode cX8_sendsAll 143 = .ok (.istore_n 1, 1) := by decide +kernel
theorem dX8_sendsAll_144 : decode cX8_sendsAll 144 = .ok (.goto (-75), 3) := by decide +kernel
theorem dX8_sendsAll_147 : decode cX8_sendsAll 147 = .ok (.iload_n 2, 1) := by decide +kernel
theorem dX8_sendsAll_148 : decode cX8_sendsAll 148 = .ok (.ifCond .le 9, 3) := by decide +kernel
theorem dX8_sendsAll_151 : decode cX8_sendsAll 151 = .ok (.aload_n 0, 1) := by decide +kernel
theorem dX8_sendsAll_152 : decode cX8_sendsAll 152 = .ok (.iload_n 1, 1) := by decide +kernel
theorem dX8_sendsAll_153 : decode cX8_sendsAll 153 = .ok (.iload_n 2, 1) := by decide +kernel
theorem dX8_sendsAll_154 : decode cX8_sendsAll 154 = .ok (.invokevirtual 268, 3) := by decide +kernel
theorem dX8_sendsAll_157 : decode cX8_sendsAll 157 = .ok (.iinc 1 1, 3) := by decide +kernel
theorem dX8_sendsAll_160 : decode cX8_sendsAll 160 = .ok (.goto (-91), 3) := by decide +kernel
theorem dX8_sendsAll_163 : decode cX8_sendsAll 163 = .ok (.return_, 1) := by decide +kernel
theorem dX8_sendsPage_0 : decode cX8_sendsPage 0 = .ok (.aload_n 0, 1) := by decide +kernel
theorem dX8_sendsPage_1 : decode cX8_sendsPage 1 = .ok (.invokevirtual 271, 3) := by decide +kernel
theorem dX8_sendsPage_4 : decode cX8_sendsPage 4 = .ok (.aload_n 0, 1) := by decide +kernel
theorem dX8_sendsPage_5 : decode cX8_sendsPage 5 = .ok (.invokevirtual 274, 3) := by decide +kernel
theorem dX8_sendsPage_8 : decode cX8_sendsPage 8 = .ok (.return_, 1) := by decide +kernel
theorem dX8_wrongDots_0 : decode cX8_wrongDots 0 = .ok (.iconst 0, 1) := by decide +kernel
theorem dX8_wrongDots_1 : decode cX8_wrongDots 1 = .ok (.istore_n 1, 1) := by decide +kernel
theorem dX8_wrongDots_2 : decode cX8_wrongDots 2 = .ok (.iconst 0, 1) := by decide +kernel
theorem dX8_wrongDots_3 : decode cX8_wrongDots 3 = .ok (.istore_n 2, 1) := by decide +kernel
theorem dX8_wrongDots_4 : decode cX8_wrongDots 4 = .ok (.iload_n 2, 1) := by decide +kernel
theorem dX8_wrongDots_5 : decode cX8_wrongDots 5 = .ok (.aload_n 0, 1) := by decide +kernel
theorem dX8_wrongDots_6 : decode cX8_wrongDots 6 = .ok (.getfield 7, 3) := by decide +kernel
theorem dX8_wrongDots_9 : decode cX8_wrongDots 9 = .ok (.iconst 1, 1) := by decide +kernel
theorem dX8_wrongDots_10 : decode cX8_wrongDots 10 = .ok (.iaload, 1) := by decide +kernel
theorem dX8_wrongDots_11 : decode cX8_wrongDots 11 = .ok (.if_icmp .ge 17, 3) := by decide +kernel
theorem dX8_wrongDots_14 : decode cX8_wrongDots 14 = .ok (.iload_n 1, 1) := by decide +kernel
theorem dX8_wrongDots_15 : decode cX8_wrongDots 15 = .ok (.aload_n 0, 1) := by decide +kernel
theorem dX8_wrongDots_16 : decode cX8_wrongDots 16 = .ok (.iload_n 2, 1) := by decide +kernel
theorem dX8_wrongDots_17 : decode cX8_wrongDots 17 = .ok (.invokevirtual 259, 3) := by decide +kernel
theorem dX8_wrongDots_20 : decode cX8_wrongDots 20 = .ok (.iadd, 1) := by decide +kernel
theorem dX8_wrongDots_21 : decode cX8_wrongDots 21 = .ok (.istore_n 1, 1) := by decide +kernel
theorem dX8_wrongDots_22 : decode cX8_wrongDots 22 = .ok (.iinc 2 1, 3) := by decide +kernel
theorem dX8_wrongDots_25 : decode cX8_wrongDots 25 = .ok (.goto (-21), 3) := by decide +kernel
theorem dX8_wrongDots_28 : decode cX8_wrongDots 28 = .ok (.iload_n 1, 1) := by decide +kernel
theorem dX8_wrongDots_29 : decode cX8_wrongDots 29 = .ok (.ireturn, 1) := by decide +kernel
theorem dX8_statesOf_0 : decode cX8_statesOf 0 = .ok (.iconst 0, 1) := by decide +kernel
theorem dX8_statesOf_1 : decode cX8_statesOf 1 = .ok (.istore_n 2, 1) := by decide +kernel
theorem dX8_statesOf_2 : decode cX8_statesOf 2 = .ok (.iconst 0, 1) := by decide +kernel
theorem dX8_statesOf_3 : decode cX8_statesOf 3 = .ok (.istore_n 3, 1) := by decide +kernel
theorem dX8_statesOf_4 : decode cX8_statesOf 4 = .ok (.iload_n 3, 1) := by decide +kernel
theorem dX8_statesOf_5 : decode cX8_statesOf 5 = .ok (.aload_n 0, 1) := by decide +kernel
theorem dX8_statesOf_6 : decode cX8_statesOf 6 = .ok (.getfield 7, 3) := by decide +kernel
theorem dX8_statesOf_9 : decode cX8_statesOf 9 = .ok (.iconst 1, 1) := by decide +kernel
theorem dX8_statesOf_10 : decode cX8_statesOf 10 = .ok (.iaload, 1) := by decide +kernel
theorem dX8_statesOf_11 : decode cX8_statesOf 11 = .ok (.if_icmp .ge 27, 3) := by decide +kernel
theorem dX8_statesOf_14 : decode cX8_statesOf 14 = .ok (.iload_n 2, 1) := by decide +kernel
theorem dX8_statesOf_15 : decode cX8_statesOf 15 = .ok (.aload_n 0, 1) := by decide +kernel
theorem dX8_statesOf_16 : decode cX8_statesOf 16 = .ok (.getfield 53, 3) := by decide +kernel
theorem dX8_statesOf_19 : decode cX8_statesOf 19 = .ok (.iload_n 3, 1) := by decide +kernel
theorem dX8_statesOf_20 : decode cX8_statesOf 20 = .ok (.iaload, 1) := by decide +kernel
theorem dX8_statesOf_21 : decode cX8_statesOf 21 = .ok (.iload_n 1, 1) := by decide +kernel
theorem dX8_statesOf_22 : decode cX8_statesOf 22 = .ok (.if_icmp .ne 7, 3) := by decide +kernel
theorem dX8_statesOf_25 : decode cX8_statesOf 25 = .ok (.iconst 1, 1) := by decide +kernel
theorem dX8_statesOf_26 : decode cX8_statesOf 26 = .ok (.goto 4, 3) := by decide +kernel
theorem dX8_statesOf_29 : decode cX8_statesOf 29 = .ok (.iconst 0, 1) := by decide +kernel
theorem dX8_statesOf_30 : decode cX8_statesOf 30 = .ok (.iadd, 1) := by decide +kernel
theorem dX8_statesOf_31 : decode cX8_statesOf 31 = .ok (.istore_n 2, 1) := by decide +kernel
theorem dX8_statesOf_32 : decode cX8_statesOf 32 = .ok (.iinc 3 1, 3) := by decide +kernel
theorem dX8_statesOf_35 : decode cX8_statesOf 35 = .ok (.goto (-31), 3) := by decide +kernel
theorem dX8_statesOf_38 : decode cX8_statesOf 38 = .ok (.iload_n 2, 1) := by decide +kernel
theorem dX8_statesOf_39 : decode cX8_statesOf 39 = .ok (.ireturn, 1) := by decide +kernel
theorem dX8_sent_0 : decode cX8_sent 0 = .ok (.aload_n 0, 1) := by decide +kernel
theorem dX8_sent_1 : decode cX8_sent 1 = .ok (.iload_n 1, 1) := by decide +kernel
theorem dX8_sent_2 : decode cX8_sent 2 = .ok (.iconst 0, 1) := by decide +kernel
theorem dX8_sent_3 : decode cX8_sent 3 = .ok (.bipush 9, 2) := by decide +kernel
theorem dX8_sent_5 : decode cX8_sent 5 = .ok (.invokestatic 124, 3) := by decide +kernel
theorem dX8_sent_8 : decode cX8_sent 8 = .ok (.ifCond .eq 7, 3) := by decide +kernel
theorem dX8_sent_11 : decode cX8_sent 11 = .ok (.iconst 0, 1) := by decide +kernel
theorem dX8_sent_12 : decode cX8_sent 12 = .ok (.goto 4, 3) := by decide +kernel
theorem dX8_sent_15 : decode cX8_sent 15 = .ok (.iconst 1, 1) := by decide +kernel
theorem dX8_sent_16 : decode cX8_sent 16 = .ok (.putfield 90, 3) := by decide +kernel
theorem dX8_sent_19 : decode cX8_sent 19 = .ok (.aload_n 0, 1) := by decide +kernel
theorem dX8_sent_20 : decode cX8_sent 20 = .ok (.getfield 90, 3) := by decide +kernel
theorem dX8_sent_23 : decode cX8_sent 23 = .ok (.ifCond .le 5, 3) := by decide +kernel
theorem dX8_sent_26 : decode cX8_sent 26 = .ok (.iconst 0, 1) := by decide +kernel
theorem dX8_sent_27 : decode cX8_sent 27 = .ok (.ireturn, 1) := by decide +kernel
theorem dX8_sent_28 : decode cX8_sent 28 = .ok (.aload_n 0, 1) := by decide +kernel
theorem dX8_sent_29 : decode cX8_sent 29 = .ok (.invokevirtual 277, 3) := by decide +kernel
theorem dX8_sent_32 : decode cX8_sent 32 = .ok (.iload_n 1, 1) := by decide +kernel
theorem dX8_sent_33 : decode cX8_sent 33 = .ok (.tableswitch 85 0 9 #[55, 60, 65, 85, 85, 85, 85, 70, 75, 80], 55) := by decide +kernel
theorem dX8_sent_88 : decode cX8_sent 88 = .ok (.aload_n 0, 1) := by decide +kernel
theorem dX8_sent_89 : decode cX8_sent 89 = .ok (.getfield 244, 3) := by decide +kernel
theorem dX8_sent_92 : decode cX8_sent 92 = .ok (.ireturn, 1) := by decide +kernel
theorem dX8_sent_93 : decode cX8_sent 93 = .ok (.aload_n 0, 1) := by decide +kernel
theorem dX8_sent_94 : decode cX8_sent 94 = .ok (.getfield 247, 3) := by decide +kernel
theorem dX8_sent_97 : decode cX8_sent 97 = .ok (.ireturn, 1) := by decide +kernel
theorem dX8_sent_98 : decode cX8_sent 98 = .ok (.aload_n 0, 1) := by decide +kernel
theorem dX8_sent_99 : decode cX8_sent 99 = .ok (.getfield 262, 3) := by decide +kernel
theorem dX8_sent_102 : decode cX8_sent 102 = .ok (.ireturn, 1) := by decide +kernel
theorem dX8_sent_103 : decode cX8_sent 103 = .ok (.aload_n 0, 1) := by decide +kernel
theorem dX8_sent_104 : decode cX8_sent 104 = .ok (.invokevirtual 280, 3) := by decide +kernel
theorem dX8_sent_107 : decode cX8_sent 107 = .ok (.ireturn, 1) := by decide +kernel
theorem dX8_sent_108 : decode cX8_sent 108 = .ok (.aload_n 0, 1) := by decide +kernel
theorem dX8_sent_109 : decode cX8_sent 109 = .ok (.getfield 250, 3) := by decide +kernel
theorem dX8_sent_112 : decode cX8_sent 112 = .ok (.ireturn, 1) := by decide +kernel
theorem dX8_sent_113 : decode cX8_sent 113 = .ok (.aload_n 0, 1) := by decide +kernel
theorem dX8_sent_114 : decode cX8_sent 114 = .ok (.getfield 256, 3) := by decide +kernel
theorem dX8_sent_117 : decode cX8_sent 117 = .ok (.ireturn, 1) := by decide +kernel
theorem dX8_sent_118 : decode cX8_sent 118 = .ok (.aload_n 0, 1) := by decide +kernel
theorem dX8_sent_119 : decode cX8_sent 119 = .ok (.iload_n 1, 1) := by decide +kernel
theorem dX8_sent_120 : decode cX8_sent 120 = .ok (.iconst 3, 1) := by decide +kernel
theorem dX8_sent_121 : decode cX8_sent 121 = .ok (.isub, 1) := by decide +kernel
theorem dX8_sent_122 : decode cX8_sent 122 = .ok (.invokevirtual 283, 3) := by decide +kernel
theorem dX8_sent_125 : decode cX8_sent 125 = .ok (.ireturn, 1) := by decide +kernel
theorem dX8_sentLine_0 : decode cX8_sentLine 0 = .ok (.aload_n 0, 1) := by decide +kernel
theorem dX8_sentLine_1 : decode cX8_sentLine 1 = .ok (.aload_n 0, 1) := by decide +kernel
theorem dX8_sentLine_2 : decode cX8_sentLine 2 = .ok (.iload_n 1, 1) := by decide +kernel
theorem dX8_sentLine_3 : decode cX8_sentLine 3 = .ok (.invokevirtual 194, 3) := by decide +kernel
theorem dX8_sentLine_6 : decode cX8_sentLine 6 = .ok (.ifCond .ne 7, 3) := by decide +kernel
theorem dX8_sentLine_9 : decode cX8_sentLine 9 = .ok (.iconst 1, 1) := by decide +kernel
theorem dX8_sentLine_10 : decode cX8_sentLine 10 = .ok (.goto 17, 3) := by decide +kernel
theorem dX8_sentLine_13 : decode cX8_sentLine 13 = .ok (.iload_n 2, 1) := by decide +kernel
theorem dX8_sentLine_14 : decode cX8_sentLine 14 = .ok (.iconst 0, 1) := by decide +kernel
theorem dX8_sentLine_15 : decode cX8_sentLine 15 = .ok (.iconst 4, 1) := by decide +kernel
theorem dX8_sentLine_16 : decode cX8_sentLine 16 = .ok (.invokestatic 124, 3) := by decide +kernel
theorem dX8_sentLine_19 : decode cX8_sentLine 19 = .ok (.ifCond .eq 7, 3) := by decide +kernel
theorem dX8_sentLine_22 : decode cX8_sentLine 22 = .ok (.iconst 0, 1) := by decide +kernel
theorem dX8_sentLine_23 : decode cX8_sentLine 23 = .ok (.goto 4, 3) := by decide +kernel
theorem dX8_sentLine_26 : decode cX8_sentLine 26 = .ok (.iconst 2, 1) := by decide +kernel
theorem dX8_sentLine_27 : decode cX8_sentLine 27 = .ok (.putfield 90, 3) := by decide +kernel
theorem dX8_sentLine_30 : decode cX8_sentLine 30 = .ok (.aload_n 0, 1) := by decide +kernel
theorem dX8_sentLine_31 : decode cX8_sentLine 31 = .ok (.getfield 90, 3) := by decide +kernel
theorem dX8_sentLine_34 : decode cX8_sentLine 34 = .ok (.ifCond .le 5, 3) := by decide +kernel
theorem dX8_sentLine_37 : decode cX8_sentLine 37 = .ok (.iconst 0, 1) := by decide +kernel
theorem dX8_sentLine_38 : decode cX8_sentLine 38 = .ok (.ireturn, 1) := by decide +kernel
theorem dX8_sentLine_39 : decode cX8_sentLine 39 = .ok (.aload_n 0, 1) := by decide +kernel
theorem dX8_sentLine_40 : decode cX8_sentLine 40 = .ok (.invokevirtual 277, 3) := by decide +kernel
theorem dX8_sentLine_43 : decode cX8_sentLine 43 = .ok (.iload_n 2, 1) := by decide +kernel
theorem dX8_sentLine_44 : decode cX8_sentLine 44 = .ok (.ifCond .ne 12, 3) := by decide +kernel
theorem dX8_sentLine_47 : decode cX8_sentLine 47 = .ok (.aload_n 0, 1) := by decide +kernel
theorem dX8_sentLine_48 : decode cX8_sentLine 48 = .ok (.getfield 53, 3) := by decide +kernel
theorem dX8_sentLine_51 : decode cX8_sentLine 51 = .ok (.iload_n 1, 1) := by decide +kernel
theorem dX8_sentLine_52 : decode cX8_sentLine 52 = .ok (.iaload, 1) := by decide +kernel
theorem dX8_sentLine_53 : decode cX8_sentLine 53 = .ok (.goto 50, 3) := by decide +kernel
theorem dX8_sentLine_56 : decode cX8_sentLine 56 = .ok (.iload_n 2, 1) := by decide +kernel
theorem dX8_sentLine_57 : decode cX8_sentLine 57 = .ok (.iconst 1, 1) := by decide +kernel
theorem dX8_sentLine_58 : decode cX8_sentLine 58 = .ok (.if_icmp .ne 12, 3) := by decide +kernel
theorem dX8_sentLine_61 : decode cX8_sentLine 61 = .ok (.aload_n 0, 1) := by decide +kernel
theorem dX8_sentLine_62 : decode cX8_sentLine 62 = .ok (.getfield 56, 3) := by decide +kernel
theorem dX8_sentLine_65 : decode cX8_sentLine 65 = .ok (.iload_n 1, 1) := by decide +kernel
theorem dX8_sentLine_66 : decode cX8_sentLine 66 = .ok (.iaload, 1) := by decide +kernel
theorem dX8_sentLine_67 : decode cX8_sentLine 67 = .ok (.goto 36, 3) := by decide +kernel
theorem dX8_sentLine_70 : decode cX8_sentLine 70 = .ok (.iload_n 2, 1) := by decide +kernel
theorem dX8_sentLine_71 : decode cX8_sentLine 71 = .ok (.iconst 2, 1) := by decide +kernel
theorem dX8_sentLine_72 : decode cX8_sentLine 72 = .ok (.if_icmp .ne 12, 3) := by decide +kernel
theorem dX8_sentLine_75 : decode cX8_sentLine 75 = .ok (.aload_n 0, 1) := by decide +kernel
theorem dX8_sentLine_76 : decode cX8_sentLine 76 = .ok (.getfield 59, 3) := by decide +kernel
theorem dX8_sentLine_79 : decode cX8_sentLine 79 = .ok (.iload_n 1, 1) := by decide +kernel
theorem dX8_sentLine_80 : decode cX8_sentLine 80 = .ok (.iaload, 1) := by decide +kernel
theorem dX8_sentLine_81 : decode cX8_sentLine 81 = .ok (.goto 22, 3) := by decide +kernel
theorem dX8_sentLine_84 : decode cX8_sentLine 84 = .ok (.iload_n 2, 1) := by decide +kernel
theorem dX8_sentLine_85 : decode cX8_sentLine 85 = .ok (.iconst 3, 1) := by decide +kernel
theorem dX8_sentLine_86 : decode cX8_sentLine 86 = .ok (.if_icmp .ne 11, 3) := by decide +kernel
theorem dX8_sentLine_89 : decode cX8_sentLine 89 = .ok (.aload_n 0, 1) := by decide +kernel
theorem dX8_sentLine_90 : decode cX8_sentLine 90 = .ok (.iload_n 1, 1) := by decide +kernel
theorem dX8_sentLine_91 : decode cX8_sentLine 91 = .ok (.invokevirtual 259, 3) := by decide +kernel
theorem dX8_sentLine_94 : decode cX8_sentLine 94 = .ok (.goto 9, 3) := by decide +kernel
theorem dX8_sentLine_97 : decode cX8_sentLine 97 = .ok (.aload_n 0, 1) := by decide +kernel
theorem dX8_sentLine_98 : decode cX8_sentLine 98 = .ok (.getfield 62, 3) := by decide +kernel
theorem dX8_sentLine_101 : decode cX8_sentLine 101 = .ok (.iload_n 1, 1) := by decide +kernel
theorem dX8_sentLine_102 : decode cX8_sentLine 102 = .ok (.iaload, 1) := by decide +kernel
theorem dX8_sentLine_103 : decode cX8_sentLine 103 = .ok (.ireturn, 1) := by decide +kernel
theorem dX8_received_0 : decode cX8_received 0 = .ok (.aload_n 0, 1) := by decide +kernel
theorem dX8_received_1 : decode cX8_received 1 = .ok (.aload_n 0, 1) := by decide +kernel
theorem dX8_received_2 : decode cX8_received 2 = .ok (.iload_n 1, 1) := by decide +kernel
theorem dX8_received_3 : decode cX8_received 3 = .ok (.iload_n 2, 1) := by decide +kernel
theorem dX8_received_4 : decode cX8_received 4 = .ok (.invokevirtual 197, 3) := by decide +kernel
theorem dX8_received_7 : decode cX8_received 7 = .ok (.ifCond .eq 7, 3) := by decide +kernel
theorem dX8_received_10 : decode cX8_received 10 = .ok (.iconst 0, 1) := by decide +kernel
theorem dX8_received_11 : decode cX8_received 11 = .ok (.goto 4, 3) := by decide +kernel
theorem dX8_received_14 : decode cX8_received 14 = .ok (.iconst 1, 1) := by decide +kernel
theorem dX8_received_15 : decode cX8_received 15 = .ok (.putfield 90, 3) := by decide +kernel
theorem dX8_received_18 : decode cX8_received 18 = .ok (.aload_n 0, 1) := by decide +kernel
theorem dX8_received_19 : decode cX8_received 19 = .ok (.getfield 90, 3) := by decide +kernel
theorem dX8_received_22 : decode cX8_received 22 = .ok (.ifCond .le 5, 3) := by decide +kernel
theorem dX8_received_25 : decode cX8_received 25 = .ok (.iconst 0, 1) := by decide +kernel
theorem dX8_received_26 : decode cX8_received 26 = .ok (.ireturn, 1) := by decide +kernel
theorem dX8_received_27 : decode cX8_received 27 = .ok (.aload_n 0, 1) := by decide +kernel
theorem dX8_received_28 : decode cX8_received 28 = .ok (.invokevirtual 277, 3) := by decide +kernel
theorem dX8_received_31 : decode cX8_received 31 = .ok (.aload_n 0, 1) := by decide +kernel
theorem dX8_received_32 : decode cX8_received 32 = .ok (.getfield 50, 3) := by decide +kernel
theorem dX8_received_35 : decode cX8_received 35 = .ok (.bipush 40, 2) := by decide +kernel
theorem dX8_received_37 : decode cX8_received 37 = .ok (.iload_n 1, 1) := by decide +kernel
theorem dX8_received_38 : decode cX8_received 38 = .ok (.imul, 1) := by decide +kernel
theorem dX8_received_39 : decode cX8_received 39 = .ok (.iload_n 2, 1) := by decide +kernel
theorem dX8_received_40 : decode cX8_received 40 = .ok (.iadd, 1) := by decide +kernel
theorem dX8_received_41 : decode cX8_received 41 = .ok (.iaload, 1) := by decide +kernel
theorem dX8_received_42 : decode cX8_received 42 = .ok (.ireturn, 1) := by decide +kernel
theorem dX8_sendsHarmed_0 : decode cX8_sendsHarmed 0 = .ok (.iconst 0, 1) := by decide +kernel
theorem dX8_sendsHarmed_1 : decode cX8_sendsHarmed 1 = .ok (.istore_n 2, 1) := by decide +kernel
theorem dX8_sendsHarmed_2 : decode cX8_sendsHarmed 2 = .ok (.iload_n 2, 1) := by decide +kernel
theorem dX8_sendsHarmed_3 : decode cX8_sendsHarmed 3 = .ok (.bipush 20, 2) := by decide +kernel
theorem dX8_sendsHarmed_5 : decode cX8_sendsHarmed 5 = .ok (.if_icmp .ge 25, 3) := by decide +kernel
theorem dX8_sendsHarmed_8 : decode cX8_sendsHarmed 8 = .ok (.aload_n 0, 1) := by decide +kernel
theorem dX8_sendsHarmed_9 : decode cX8_sendsHarmed 9 = .ok (.getfield 65, 3) := by decide +kernel
theorem dX8_sendsHarmed_12 : decode cX8_sendsHarmed 12 = .ok (.iload_n 2, 1) := by decide +kernel
theorem dX8_sendsHarmed_13 : decode cX8_sendsHarmed 13 = .ok (.iload_n 2, 1) := by decide +kernel
theorem dX8_sendsHarmed_14 : decode cX8_sendsHarmed 14 = .ok (.iload_n 1, 1) := by decide +kernel
theorem dX8_sendsHarmed_15 : decode cX8_sendsHarmed 15 = .ok (.if_icmp .ne 7, 3) := by decide +kernel
theorem dX8_sendsHarmed_18 : decode cX8_sendsHarmed 18 = .ok (.iconst 1, 1) := by decide +kernel
theorem dX8_sendsHarmed_19 : decode cX8_sendsHarmed 19 = .ok (.goto 4, 3) := by decide +kernel
theorem dX8_sendsHarmed_22 : decode cX8_sendsHarmed 22 = .ok (.iconst 0, 1) := by decide +kernel
theorem dX8_sendsHarmed_23 : decode cX8_sendsHarmed 23 = .ok (.iastore, 1) := by decide +kernel
theorem dX8_sendsHarmed_24 : decode cX8_sendsHarmed 24 = .ok (.iinc 2 1, 3) := by decide +kernel
theorem dX8_sendsHarmed_27 : decode cX8_sendsHarmed 27 = .ok (.goto (-25), 3) := by decide +kernel
theorem dX8_sendsHarmed_30 : decode cX8_sendsHarmed 30 = .ok (.aload_n 0, 1) := by decide +kernel
theorem dX8_sendsHarmed_31 : decode cX8_sendsHarmed 31 = .ok (.getfield 7, 3) := by decide +kernel
theorem dX8_sendsHarmed_34 : decode cX8_sendsHarmed 34 = .ok (.iconst 5, 1) := by decide +kernel
theorem dX8_sendsHarmed_35 : decode cX8_sendsHarmed 35 = .ok (.iaload, 1) := by decide +kernel
theorem dX8_sendsHarmed_36 : decode cX8_sendsHarmed 36 = .ok (.istore_n 2, 1) := by decide +kernel
theorem dX8_sendsHarmed_37 : decode cX8_sendsHarmed 37 = .ok (.aload_n 0, 1) := by decide +kernel
theorem dX8_sendsHarmed_38 : decode cX8_sendsHarmed 38 = .ok (.getfield 7, 3) := by decide +kernel
theorem dX8_sendsHarmed_41 : decode cX8_sendsHarmed 41 = .ok (.iconst 5, 1) := by decide +kernel
theorem dX8_sendsHarmed_42 : decode cX8_sendsHarmed 42 = .ok (.iconst 0, 1) := by decide +kernel
theorem dX8_sendsHarmed_43 : decode cX8_sendsHarmed 43 = .ok (.iastore, 1) := by decide +kernel
theorem dX8_sendsHarmed_44 : decode cX8_sendsHarmed 44 = .ok (.aload_n 0, 1) := by decide +kernel
theorem dX8_sendsHarmed_45 : decode cX8_sendsHarmed 45 = .ok (.invokevirtual 274, 3) := by decide +kernel
theorem dX8_sendsHarmed_48 : decode cX8_sendsHarmed 48 = .ok (.aload_n 0, 1) := by decide +kernel
theorem dX8_sendsHarmed_49 : decode cX8_sendsHarmed 49 = .ok (.getfield 7, 3) := by decide +kernel
theorem dX8_sendsHarmed_52 : decode cX8_sendsHarmed 52 = .ok (.iconst 5, 1) := by decide +kernel
theorem dX8_sendsHarmed_53 : decode cX8_sendsHarmed 53 = .ok (.iload_n 2, 1) := by decide +kernel
theorem dX8_sendsHarmed_54 : decode cX8_sendsHarmed 54 = .ok (.iastore, 1) := by decide +kernel
theorem dX8_sendsHarmed_55 : decode cX8_sendsHarmed 55 = .ok (.return_, 1) := by decide +kernel
theorem dX8_harmOf_0 : decode cX8_harmOf 0 = .ok (.iconst 0, 1) := by decide +kernel
theorem dX8_harmOf_1 : decode cX8_harmOf 1 = .ok (.istore_n 2, 1) := by decide +kernel
theorem dX8_harmOf_2 : decode cX8_harmOf 2 = .ok (.iconst (-1), 1) := by decide +kernel
theorem dX8_harmOf_3 : decode cX8_harmOf 3 = .ok (.istore_n 3, 1) := by decide +kernel
theorem dX8_harmOf_4 : decode cX8_harmOf 4 = .ok (.iconst 0, 1) := by decide +kernel
theorem dX8_harmOf_5 : decode cX8_harmOf 5 = .ok (.istore 4, 2) := by decide +kernel
theorem dX8_harmOf_7 : decode cX8_harmOf 7 = .ok (.iload 4, 2) := by decide +kernel
theorem dX8_harmOf_9 : decode cX8_harmOf 9 = .ok (.aload_n 0, 1) := by decide +kernel
theorem dX8_harmOf_10 : decode cX8_harmOf 10 = .ok (.getfield 7, 3) := by decide +kernel
theorem dX8_harmOf_13 : decode cX8_harmOf 13 = .ok (.iconst 1, 1) := by decide +kernel
theorem dX8_harmOf_14 : decode cX8_harmOf 14 = .ok (.iaload, 1) := by decide +kernel
theorem dX8_harmOf_15 : decode cX8_harmOf 15 = .ok (.if_icmp .ge 50, 3) := by decide +kernel
theorem dX8_harmOf_18 : decode cX8_harmOf 18 = .ok (.aload_n 0, 1) := by decide +kernel
theorem dX8_harmOf_19 : decode cX8_harmOf 19 = .ok (.iload 4, 2) := by decide +kernel
theorem dX8_harmOf_21 : decode cX8_harmOf 21 = .ok (.invokevirtual 259, 3) := by decide +kernel
theorem dX8_harmOf_24 : decode cX8_harmOf 24 = .ok (.ifCond .le 7, 3) := by decide +kernel
theorem dX8_harmOf_27 : decode cX8_harmOf 27 = .ok (.iconst 1, 1) := by decide +kernel
theorem dX8_harmOf_28 : decode cX8_harmOf 28 = .ok (.goto 4, 3) := by decide +kernel
theorem dX8_harmOf_31 : decode cX8_harmOf 31 = .ok (.iconst 0, 1) := by decide +kernel
theorem dX8_harmOf_32 : decode cX8_harmOf 32 = .ok (.istore 5, 2) := by decide +kernel
theorem dX8_harmOf_34 : decode cX8_harmOf 34 = .ok (.iload_n 2, 1) := by decide +kernel
theorem dX8_harmOf_35 : decode cX8_harmOf 35 = .ok (.iload 5, 2) := by decide +kernel
theorem dX8_harmOf_37 : decode cX8_harmOf 37 = .ok (.ifCond .eq 7, 3) := by decide +kernel
theorem dX8_harmOf_40 : decode cX8_harmOf 40 = .ok (.iconst 1, 1) := by decide +kernel
theorem dX8_harmOf_41 : decode cX8_harmOf 41 = .ok (.goto 4, 3) := by decide +kernel
theorem dX8_harmOf_44 : decode cX8_harmOf 44 = .ok (.iconst 0, 1) := by decide +kernel
theorem dX8_harmOf_45 : decode cX8_harmOf 45 = .ok (.iadd, 1) := by decide +kernel
theorem dX8_harmOf_46 : decode cX8_harmOf 46 = .ok (.istore_n 2, 1) := by decide +kernel
theorem dX8_harmOf_47 : decode cX8_harmOf 47 = .ok (.iload 5, 2) := by decide +kernel
theorem dX8_harmOf_49 : decode cX8_harmOf 49 = .ok (.ifCond .eq 8, 3) := by decide +kernel
theorem dX8_harmOf_52 : decode cX8_harmOf 52 = .ok (.iload 4, 2) := by decide +kernel
theorem dX8_harmOf_54 : decode cX8_harmOf 54 = .ok (.goto 4, 3) := by decide +kernel
theorem dX8_harmOf_57 : decode cX8_harmOf 57 = .ok (.iload_n 3, 1) := by decide +kernel
theorem dX8_harmOf_58 : decode cX8_harmOf 58 = .ok (.istore_n 3, 1) := by decide +kernel
theorem dX8_harmOf_59 : decode cX8_harmOf 59 = .ok (.iinc 4 1, 3) := by decide +kernel
theorem dX8_harmOf_62 : decode cX8_harmOf 62 = .ok (.goto (-55), 3) := by decide +kernel
theorem dX8_harmOf_65 : decode cX8_harmOf 65 = .ok (.iload_n 1, 1) := by decide +kernel
theorem dX8_harmOf_66 : decode cX8_harmOf 66 = .ok (.ifCond .ne 7, 3) := by decide +kernel
theorem dX8_harmOf_69 : decode cX8_harmOf 69 = .ok (.iload_n 2, 1) := by decide +kernel
theorem dX8_harmOf_70 : decode cX8_harmOf 70 = .ok (.goto 16, 3) := by decide +kernel
theorem dX8_harmOf_73 : decode cX8_harmOf 73 = .ok (.iload_n 1, 1) := by decide +kernel
theorem dX8_harmOf_74 : decode cX8_harmOf 74 = .ok (.iconst 1, 1) := by decide +kernel
theorem dX8_harmOf_75 : decode cX8_harmOf 75 = .ok (.if_icmp .ne 10, 3) := by decide +kernel
theorem dX8_harmOf_78 : decode cX8_harmOf 78 = .ok (.aload_n 0, 1) := by decide +kernel
theorem dX8_harmOf_79 : decode cX8_harmOf 79 = .ok (.invokevirtual 280, 3) := by decide +kernel
theorem dX8_harmOf_82 : decode cX8_harmOf 82 = .ok (.goto 4, 3) := by decide +kernel
theorem dX8_harmOf_85 : decode cX8_harmOf 85 = .ok (.iload_n 3, 1) := by decide +kernel
theorem dX8_harmOf_86 : decode cX8_harmOf 86 = .ok (.ireturn, 1) := by decide +kernel
theorem dX8_harm_0 : decode cX8_harm 0 = .ok (.aload_n 0, 1) := by decide +kernel
theorem dX8_harm_1 : decode cX8_harm 1 = .ok (.aload_n 0, 1) := by decide +kernel
theorem dX8_harm_2 : decode cX8_harm 2 = .ok (.iload_n 1, 1) := by decide +kernel
theorem dX8_harm_3 : decode cX8_harm 3 = .ok (.invokevirtual 194, 3) := by decide +kernel
theorem dX8_harm_6 : decode cX8_harm 6 = .ok (.ifCond .ne 7, 3) := by decide +kernel
theorem dX8_harm_9 : decode cX8_harm 9 = .ok (.iconst 1, 1) := by decide +kernel
theorem dX8_harm_10 : decode cX8_harm 10 = .ok (.goto 17, 3) := by decide +kernel
theorem dX8_harm_13 : decode cX8_harm 13 = .ok (.iload_n 2, 1) := by decide +kernel
theorem dX8_harm_14 : decode cX8_harm 14 = .ok (.iconst 0, 1) := by decide +kernel
theorem dX8_harm_15 : decode cX8_harm 15 = .ok (.iconst 2, 1) := by decide +kernel
theorem dX8_harm_16 : decode cX8_harm 16 = .ok (.invokestatic 124, 3) := by decide +kernel
theorem dX8_harm_19 : decode cX8_harm 19 = .ok (.ifCond .eq 7, 3) := by decide +kernel
theorem dX8_harm_22 : decode cX8_harm 22 = .ok (.iconst 0, 1) := by decide +kernel
theorem dX8_harm_23 : decode cX8_harm 23 = .ok (.goto 4, 3) := by decide +kernel
theorem dX8_harm_26 : decode cX8_harm 26 = .ok (.iconst 2, 1) := by decide +kernel
theorem dX8_harm_27 : decode cX8_harm 27 = .ok (.putfield 90, 3) := by decide +kernel
theorem dX8_harm_30 : decode cX8_harm 30 = .ok (.aload_n 0, 1) := by decide +kernel
theorem dX8_harm_31 : decode cX8_harm 31 = .ok (.getfield 90, 3) := by decide +kernel
theorem dX8_harm_34 : decode cX8_harm 34 = .ok (.ifCond .le 5, 3) := by decide +kernel
theorem dX8_harm_37 : decode cX8_harm 37 = .ok (.iconst 0, 1) := by decide +kernel
theorem dX8_harm_38 : decode cX8_harm 38 = .ok (.ireturn, 1) := by decide +kernel
theorem dX8_harm_39 : decode cX8_harm 39 = .ok (.aload_n 0, 1) := by decide +kernel
theorem dX8_harm_40 : decode cX8_harm 40 = .ok (.iload_n 1, 1) := by decide +kernel
theorem dX8_harm_41 : decode cX8_harm 41 = .ok (.invokevirtual 286, 3) := by decide +kernel
theorem dX8_harm_44 : decode cX8_harm 44 = .ok (.aload_n 0, 1) := by decide +kernel
theorem dX8_harm_45 : decode cX8_harm 45 = .ok (.iload_n 2, 1) := by decide +kernel
theorem dX8_harm_46 : decode cX8_harm 46 = .ok (.invokevirtual 289, 3) := by decide +kernel
theorem dX8_harm_49 : decode cX8_harm 49 = .ok (.ireturn, 1) := by decide +kernel
theorem dX8_worst_0 : decode cX8_worst 0 = .ok (.aload_n 0, 1) := by decide +kernel
theorem dX8_worst_1 : decode cX8_worst 1 = .ok (.iconst 0, 1) := by decide +kernel
theorem dX8_worst_2 : decode cX8_worst 2 = .ok (.putfield 90, 3) := by decide +kernel
theorem dX8_worst_5 : decode cX8_worst 5 = .ok (.iconst (-1), 1) := by decide +kernel
theorem dX8_worst_6 : decode cX8_worst 6 = .ok (.istore_n 1, 1) := by decide +kernel
theorem dX8_worst_7 : decode cX8_worst 7 = .ok (.iconst 0, 1) := by decide +kernel
theorem dX8_worst_8 : decode cX8_worst 8 = .ok (.istore_n 2, 1) := by decide +kernel
theorem dX8_worst_9 : decode cX8_worst 9 = .ok (.iconst 0, 1) := by decide +kernel
theorem dX8_worst_10 : decode cX8_worst 10 = .ok (.istore_n 3, 1) := by decide +kernel
theorem dX8_worst_11 : decode cX8_worst 11 = .ok (.iload_n 3, 1) := by decide +kernel
theorem dX8_worst_12 : decode cX8_worst 12 = .ok (.aload_n 0, 1) := by decide +kernel
theorem dX8_worst_13 : decode cX8_worst 13 = .ok (.getfield 7, 3) := by decide +kernel
theorem dX8_worst_16 : decode cX8_worst 16 = .ok (.iconst 1, 1) := by decide +kernel
theorem dX8_worst_17 : decode cX8_worst 17 = .ok (.iaload, 1) := by decide +kernel
theorem dX8_worst_18 : decode cX8_worst 18 = .ok (.if_icmp .ge 36, 3) := by decide +kernel
theorem dX8_worst_21 : decode cX8_worst 21 = .ok (.aload_n 0, 1) := by decide +kernel
theorem dX8_worst_22 : decode cX8_worst 22 = .ok (.iload_n 3, 1) := by decide +kernel
theorem dX8_worst_23 : decode cX8_worst 23 = .ok (.invokevirtual 286, 3) := by decide +kernel
theorem dX8_worst_26 : decode cX8_worst 26 = .ok (.aload_n 0, 1) := by decide +kernel
theorem dX8_worst_27 : decode cX8_worst 27 = .ok (.invokevirtual 280, 3) := by decide +kernel
theorem dX8_worst_30 : decode cX8_worst 30 = .ok (.istore 4, 2) := by decide +kernel
theorem dX8_worst_32 : decode cX8_worst 32 = .ok (.iload_n 1, 1) := by decide +kernel
theorem dX8_worst_33 : decode cX8_worst 33 = .ok (.iconst (-1), 1) := by decide +kernel
theorem dX8_worst_34 : decode cX8_worst 34 = .ok (.if_icmp .eq 9, 3) := by decide +kernel
theorem dX8_worst_37 : decode cX8_worst 37 = .ok (.iload 4, 2) := by decide +kernel
theorem dX8_worst_39 : decode cX8_worst 39 = .ok (.iload_n 2, 1) := by decide +kernel
theorem dX8_worst_40 : decode cX8_worst 40 = .ok (.if_icmp .le 8, 3) := by decide +kernel
theorem dX8_worst_43 : decode cX8_worst 43 = .ok (.iload_n 3, 1) := by decide +kernel
theorem dX8_worst_44 : decode cX8_worst 44 = .ok (.istore_n 1, 1) := by decide +kernel
theorem dX8_worst_45 : decode cX8_worst 45 = .ok (.iload 4, 2) := by decide +kernel
theorem dX8_worst_47 : decode cX8_worst 47 = .ok (.istore_n 2, 1) := by decide +kernel
theorem dX8_worst_48 : decode cX8_worst 48 = .ok (.iinc 3 1, 3) := by decide +kernel
theorem dX8_worst_51 : decode cX8_worst 51 = .ok (.goto (-40), 3) := by decide +kernel
theorem dX8_worst_54 : decode cX8_worst 54 = .ok (.iload_n 1, 1) := by decide +kernel
theorem dX8_worst_55 : decode cX8_worst 55 = .ok (.ireturn, 1) := by decide +kernel
theorem dX8_bestEvery_0 : decode cX8_bestEvery 0 = .ok (.aload_n 0, 1) := by decide +kernel
theorem dX8_bestEvery_1 : decode cX8_bestEvery 1 = .ok (.iconst 0, 1) := by decide +kernel
theorem dX8_bestEvery_2 : decode cX8_bestEvery 2 = .ok (.putfield 90, 3) := by decide +kernel
theorem dX8_bestEvery_5 : decode cX8_bestEvery 5 = .ok (.aload_n 0, 1) := by decide +kernel
theorem dX8_bestEvery_6 : decode cX8_bestEvery 6 = .ok (.getfield 7, 3) := by decide +kernel
theorem dX8_bestEvery_9 : decode cX8_bestEvery 9 = .ok (.iconst 2, 1) := by decide +kernel
theorem dX8_bestEvery_10 : decode cX8_bestEvery 10 = .ok (.iaload, 1) := by decide +kernel
theorem dX8_bestEvery_11 : decode cX8_bestEvery 11 = .ok (.istore_n 1, 1) := by decide +kernel
theorem dX8_bestEvery_12 : decode cX8_bestEvery 12 = .ok (.iconst (-1), 1) := by decide +kernel
theorem dX8_bestEvery_13 : decode cX8_bestEvery 13 = .ok (.istore_n 2, 1) := by decide +kernel
theorem dX8_bestEvery_14 : decode cX8_bestEvery 14 = .ok (.iconst 0, 1) := by decide +kernel
theorem dX8_bestEvery_15 : decode cX8_bestEvery 15 = .ok (.istore_n 3, 1) := by decide +kernel
theorem dX8_bestEvery_16 : decode cX8_bestEvery 16 = .ok (.iconst 0, 1) := by decide +kernel
theorem dX8_bestEvery_17 : decode cX8_bestEvery 17 = .ok (.istore 4, 2) := by decide +kernel
theorem dX8_bestEvery_19 : decode cX8_bestEvery 19 = .ok (.iconst 1, 1) := by decide +kernel
theorem dX8_bestEvery_20 : decode cX8_bestEvery 20 = .ok (.istore 5, 2) := by decide +kernel
theorem dX8_bestEvery_22 : decode cX8_bestEvery 22 = .ok (.iload 5, 2) := by decide +kernel
theorem dX8_bestEvery_24 : decode cX8_bestEvery 24 = .ok (.bipush 8, 2) := by decide +kernel
theorem dX8_bestEvery_26 : decode cX8_bestEvery 26 = .ok (.if_icmp .gt 65, 3) := by decide +kernel
theorem dX8_bestEvery_29 : decode cX8_bestEvery 29 = .ok (.aload_n 0, 1) := by decide +kernel
theorem dX8_bestEvery_30 : decode cX8_bestEvery 30 = .ok (.getfield 7, 3) := by decide +kernel
theorem dX8_bestEvery_33 : decode cX8_bestEvery 33 = .ok (.iconst 2, 1) := by decide +kernel
theorem dX8_bestEvery_34 : decode cX8_bestEvery 34 = .ok (.iload 5, 2) := by decide +kernel
theorem dX8_bestEvery_36 : decode cX8_bestEvery 36 = .ok (.iastore, 1) := by decide +kernel
theorem dX8_bestEvery_37 : decode cX8_bestEvery 37 = .ok (.aload_n 0, 1) := by decide +kernel
theorem dX8_bestEvery_38 : decode cX8_bestEvery 38 = .ok (.invokevirtual 277, 3) := by decide +kernel
theorem dX8_bestEvery_41 : decode cX8_bestEvery 41 = .ok (.aload_n 0, 1) := by decide +kernel
theorem dX8_bestEvery_42 : decode cX8_bestEvery 42 = .ok (.invokevirtual 280, 3) := by decide +kernel
theorem dX8_bestEvery_45 : decode cX8_bestEvery 45 = .ok (.istore 6, 2) := by decide +kernel
theorem dX8_bestEvery_47 : decode cX8_bestEvery 47 = .ok (.iload_n 2, 1) := by decide +kernel
theorem dX8_bestEvery_48 : decode cX8_bestEvery 48 = .ok (.iconst (-1), 1) := by decide +kernel
theorem dX8_bestEvery_49 : decode cX8_bestEvery 49 = .ok (.if_icmp .eq 24, 3) := by decide +kernel
theorem dX8_bestEvery_52 : decode cX8_bestEvery 52 = .ok (.iload 6, 2) := by decide +kernel
theorem dX8_bestEvery_54 : decode cX8_bestEvery 54 = .ok (.iload_n 3, 1) := by decide +kernel
theorem dX8_bestEvery_55 : decode cX8_bestEvery 55 = .ok (.if_icmp .lt 18, 3) := by decide +kernel
theorem dX8_bestEvery_58 : decode cX8_bestEvery 58 = .ok (.iload 6, 2) := by decide +kernel
theorem dX8_bestEvery_60 : decode cX8_bestEvery 60 = .ok (.iload_n 3, 1) := by decide +kernel
theorem dX8_bestEvery_61 : decode cX8_bestEvery 61 = .ok (.if_icmp .ne 24, 3) := by decide +kernel
theorem dX8_bestEvery_64 : decode cX8_bestEvery 64 = .ok (.aload_n 0, 1) := by decide +kernel
theorem dX8_bestEvery_65 : decode cX8_bestEvery 65 = .ok (.getfield 244, 3) := by decide +kernel
theorem dX8_bestEvery_68 : decode cX8_bestEvery 68 = .ok (.iload 4, 2) := by decide +kernel
theorem dX8_bestEvery_70 : decode cX8_bestEvery 70 = .ok (.if_icmp .ge 15, 3) := by decide +kernel
theorem dX8_bestEvery_73 : decode cX8_bestEvery 73 = .ok (.iload 5, 2) := by decide +kernel
theorem dX8_bestEvery_75 : decode cX8_bestEvery 75 = .ok (.istore_n 2, 1) := by decide +kernel
theorem dX8_bestEvery_76 : decode cX8_bestEvery 76 = .ok (.iload 6, 2) := by decide +kernel
theorem dX8_bestEvery_78 : decode cX8_bestEvery 78 = .ok (.istore_n 3, 1) := by decide +kernel
theorem dX8_bestEvery_79 : decode cX8_bestEvery 79 = .ok (.aload_n 0, 1) := by decide +kernel
theorem dX8_bestEvery_80 : decode cX8_bestEvery 80 = .ok (.getfield 244, 3) := by decide +kernel
theorem dX8_bestEvery_83 : decode cX8_bestEvery 83 = .ok (.istore 4, 2) := by decide +kernel
theorem dX8_bestEvery_85 : decode cX8_bestEvery 85 = .ok (.iinc 5 1, 3) := by decide +kernel
theorem dX8_bestEvery_88 : decode cX8_bestEvery 88 = .ok (.goto (-66), 3) := by decide +kernel
theorem dX8_bestEvery_91 : decode cX8_bestEvery 91 = .ok (.aload_n 0, 1) := by decide +kernel
theorem dX8_bestEvery_92 : decode cX8_bestEvery 92 = .ok (.getfield 7, 3) := by decide +kernel
theorem dX8_bestEvery_95 : decode cX8_bestEvery 95 = .ok (.iconst 2, 1) := by decide +kernel
theorem dX8_bestEvery_96 : decode cX8_bestEvery 96 = .ok (.iload_n 1, 1) := by decide +kernel
theorem dX8_bestEvery_97 : decode cX8_bestEvery 97 = .ok (.iastore, 1) := by decide +kernel
theorem dX8_bestEvery_98 : decode cX8_bestEvery 98 = .ok (.iload_n 2, 1) := by decide +kernel
theorem dX8_bestEvery_99 : decode cX8_bestEvery 99 = .ok (.ireturn, 1) := by decide +kernel
theorem dX8_needsSteps_0 : decode cX8_needsSteps 0 = .ok (.aload_n 0, 1) := by decide +kernel
theorem dX8_needsSteps_1 : decode cX8_needsSteps 1 = .ok (.iconst 0, 1) := by decide +kernel
theorem dX8_needsSteps_2 : decode cX8_needsSteps 2 = .ok (.putfield 90, 3) := by decide +kernel
theorem dX8_needsSteps_5 : decode cX8_needsSteps 5 = .ok (.aload_n 0, 1) := by decide +kernel
theorem dX8_needsSteps_6 : decode cX8_needsSteps 6 = .ok (.getfield 7, 3) := by decide +kernel
theorem dX8_needsSteps_9 : decode cX8_needsSteps 9 = .ok (.iconst 5, 1) := by decide +kernel
theorem dX8_needsSteps_10 : decode cX8_needsSteps 10 = .ok (.iaload, 1) := by decide +kernel
theorem dX8_needsSteps_11 : decode cX8_needsSteps 11 = .ok (.istore_n 1, 1) := by decide +kernel
theorem dX8_needsSteps_12 : decode cX8_needsSteps 12 = .ok (.iconst (-1), 1) := by decide +kernel
theorem dX8_needsSteps_13 : decode cX8_needsSteps 13 = .ok (.istore_n 2, 1) := by decide +kernel
theorem dX8_needsSteps_14 : decode cX8_needsSteps 14 = .ok (.iconst 0, 1) := by decide +kernel
theorem dX8_needsSteps_15 : decode cX8_needsSteps 15 = .ok (.istore_n 3, 1) := by decide +kernel
theorem dX8_needsSteps_16 : decode cX8_needsSteps 16 = .ok (.iload_n 3, 1) := by decide +kernel
theorem dX8_needsSteps_17 : decode cX8_needsSteps 17 = .ok (.bipush 9, 2) := by decide +kernel
theorem dX8_needsSteps_19 : decode cX8_needsSteps 19 = .ok (.if_icmp .gt 38, 3) := by decide +kernel
theorem dX8_needsSteps_22 : decode cX8_needsSteps 22 = .ok (.iload_n 2, 1) := by decide +kernel
theorem dX8_needsSteps_23 : decode cX8_needsSteps 23 = .ok (.iconst (-1), 1) := by decide +kernel
theorem dX8_needsSteps_24 : decode cX8_needsSteps 24 = .ok (.if_icmp .ne 33, 3) := by decide +kernel
theorem dX8_needsSteps_27 : decode cX8_needsSteps 27 = .ok (.aload_n 0, 1) := by decide +kernel
theorem dX8_needsSteps_28 : decode cX8_needsSteps 28 = .ok (.getfield 7, 3) := by decide +kernel
theorem dX8_needsSteps_31 : decode cX8_needsSteps 31 = .ok (.iconst 5, 1) := by decide +kernel
theorem dX8_needsSteps_32 : decode cX8_needsSteps 32 = .ok (.iload_n 3, 1) := by decide +kernel
theorem dX8_needsSteps_33 : decode cX8_needsSteps 33 = .ok (.iastore, 1) := by decide +kernel
theorem dX8_needsSteps_34 : decode cX8_needsSteps 34 = .ok (.aload_n 0, 1) := by decide +kernel
theorem dX8_needsSteps_35 : decode cX8_needsSteps 35 = .ok (.invokevirtual 277, 3) := by decide +kernel
theorem dX8_needsSteps_38 : decode cX8_needsSteps 38 = .ok (.aload_n 0, 1) := by decide +kernel
theorem dX8_needsSteps_39 : decode cX8_needsSteps 39 = .ok (.invokevirtual 280, 3) := by decide +kernel
theorem dX8_needsSteps_42 : decode cX8_needsSteps 42 = .ok (.ifCond .ne 7, 3) := by decide +kernel
theorem dX8_needsSteps_45 : decode cX8_needsSteps 45 = .ok (.iload_n 3, 1) := by decide +kernel
theorem dX8_needsSteps_46 : decode cX8_needsSteps 46 = .ok (.goto 4, 3) := by decide +kernel
theorem dX8_needsSteps_49 : decode cX8_needsSteps 49 = .ok (.iconst (-1), 1) := by decide +kernel
theorem dX8_needsSteps_50 : decode cX8_needsSteps 50 = .ok (.istore_n 2, 1) := by decide +kernel
theorem dX8_needsSteps_51 : decode cX8_needsSteps 51 = .ok (.iinc 3 1, 3) := by decide +kernel
theorem dX8_needsSteps_54 : decode cX8_needsSteps 54 = .ok (.goto (-38), 3) := by decide +kernel
theorem dX8_needsSteps_57 : decode cX8_needsSteps 57 = .ok (.aload_n 0, 1) := by decide +kernel
theorem dX8_needsSteps_58 : decode cX8_needsSteps 58 = .ok (.getfield 7, 3) := by decide +kernel
theorem dX8_needsSteps_61 : decode cX8_needsSteps 61 = .ok (.iconst 5, 1) := by decide +kernel
theorem dX8_needsSteps_62 : decode cX8_needsSteps 62 = .ok (.iload_n 1, 1) := by decide +kernel
theorem dX8_needsSteps_63 : decode cX8_needsSteps 63 = .ok (.iastore, 1) := by decide +kernel
theorem dX8_needsSteps_64 : decode cX8_needsSteps 64 = .ok (.iload_n 2, 1) := by decide +kernel
theorem dX8_needsSteps_65 : decode cX8_needsSteps 65 = .ok (.ireturn, 1) := by decide +kernel
theorem dX8_perDot_0 : decode cX8_perDot 0 = .ok (.aload_n 0, 1) := by decide +kernel
theorem dX8_perDot_1 : decode cX8_perDot 1 = .ok (.iconst 0, 1) := by decide +kernel
theorem dX8_perDot_2 : decode cX8_perDot 2 = .ok (.putfield 90, 3) := by decide +kernel
theorem dX8_perDot_5 : decode cX8_perDot 5 = .ok (.aload_n 0, 1) := by decide +kernel
theorem dX8_perDot_6 : decode cX8_perDot 6 = .ok (.getfield 7, 3) := by decide +kernel
theorem dX8_perDot_9 : decode cX8_perDot 9 = .ok (.iconst 1, 1) := by decide +kernel
theorem dX8_perDot_10 : decode cX8_perDot 10 = .ok (.iaload, 1) := by decide +kernel
theorem dX8_perDot_11 : decode cX8_perDot 11 = .ok (.ifCond .ne 5, 3) := by decide +kernel
theorem dX8_perDot_14 : decode cX8_perDot 14 = .ok (.dconst 0, 1) := by decide +kernel
theorem dX8_perDot_15 : decode cX8_perDot 15 = .ok (.dreturn, 1) := by decide +kernel
theorem dX8_perDot_16 : decode cX8_perDot 16 = .ok (.aload_n 0, 1) := by decide +kernel
theorem dX8_perDot_17 : decode cX8_perDot 17 = .ok (.invokevirtual 277, 3) := by decide +kernel
theorem dX8_perDot_20 : decode cX8_perDot 20 = .ok (.aload_n 0, 1) := by decide +kernel
theorem dX8_perDot_21 : decode cX8_perDot 21 = .ok (.getfield 244, 3) := by decide +kernel
theorem dX8_perDot_24 : decode cX8_perDot 24 = .ok (.i2d, 1) := by decide +kernel
theorem dX8_perDot_25 : decode cX8_perDot 25 = .ok (.aload_n 0, 1) := by decide +kernel
theorem dX8_perDot_26 : decode cX8_perDot 26 = .ok (.getfield 7, 3) := by decide +kernel
theorem dX8_perDot_29 : decode cX8_perDot 29 = .ok (.iconst 0, 1) := by decide +kernel
theorem dX8_perDot_30 : decode cX8_perDot 30 = .ok (.iaload, 1) := by decide +kernel
theorem dX8_perDot_31 : decode cX8_perDot 31 = .ok (.aload_n 0, 1) := by decide +kernel
theorem dX8_perDot_32 : decode cX8_perDot 32 = .ok (.getfield 7, 3) := by decide +kernel
theorem dX8_perDot_35 : decode cX8_perDot 35 = .ok (.iconst 1, 1) := by decide +kernel
theorem dX8_perDot_36 : decode cX8_perDot 36 = .ok (.iaload, 1) := by decide +kernel
theorem dX8_perDot_37 : decode cX8_perDot 37 = .ok (.imul, 1) := by decide +kernel
theorem dX8_perDot_38 : decode cX8_perDot 38 = .ok (.i2d, 1) := by decide +kernel
theorem dX8_perDot_39 : decode cX8_perDot 39 = .ok (.ddiv, 1) := by decide +kernel
theorem dX8_perDot_40 : decode cX8_perDot 40 = .ok (.dreturn, 1) := by decide +kernel
theorem dX8_byAbove_0 : decode cX8_byAbove 0 = .ok (.aload_n 0, 1) := by decide +kernel
theorem dX8_byAbove_1 : decode cX8_byAbove 1 = .ok (.iconst 0, 1) := by decide +kernel
theorem dX8_byAbove_2 : decode cX8_byAbove 2 = .ok (.putfield 90, 3) := by decide +kernel
theorem dX8_byAbove_5 : decode cX8_byAbove 5 = .ok (.aload_n 0, 1) := by decide +kernel
theorem dX8_byAbove_6 : decode cX8_byAbove 6 = .ok (.getfield 7, 3) := by decide +kernel
theorem dX8_byAbove_9 : decode cX8_byAbove 9 = .ok (.iconst 1, 1) := by decide +kernel
theorem dX8_byAbove_10 : decode cX8_byAbove 10 = .ok (.iaload, 1) := by decide +kernel
theorem dX8_byAbove_11 : decode cX8_byAbove 11 = .ok (.aload_n 0, 1) := by decide +kernel
theorem dX8_byAbove_12 : decode cX8_byAbove 12 = .ok (.bipush 10, 2) := by decide +kernel
theorem dX8_byAbove_14 : decode cX8_byAbove 14 = .ok (.invokevirtual 188, 3) := by decide +kernel
theorem dX8_byAbove_17 : decode cX8_byAbove 17 = .ok (.isub, 1) := by decide +kernel
theorem dX8_byAbove_18 : decode cX8_byAbove 18 = .ok (.istore_n 1, 1) := by decide +kernel
theorem dX8_byAbove_19 : decode cX8_byAbove 19 = .ok (.aload_n 0, 1) := by decide +kernel
theorem dX8_byAbove_20 : decode cX8_byAbove 20 = .ok (.getfield 7, 3) := by decide +kernel
theorem dX8_byAbove_23 : decode cX8_byAbove 23 = .ok (.iconst 1, 1) := by decide +kernel
theorem dX8_byAbove_24 : decode cX8_byAbove 24 = .ok (.iaload, 1) := by decide +kernel
theorem dX8_byAbove_25 : decode cX8_byAbove 25 = .ok (.ifCond .ne 7, 3) := by decide +kernel
theorem dX8_byAbove_28 : decode cX8_byAbove 28 = .ok (.fconst 0, 1) := by decide +kernel
theorem dX8_byAbove_29 : decode cX8_byAbove 29 = .ok (.goto 13, 3) := by decide +kernel
theorem dX8_byAbove_32 : decode cX8_byAbove 32 = .ok (.iload_n 1, 1) := by decide +kernel
theorem dX8_byAbove_33 : decode cX8_byAbove 33 = .ok (.i2f, 1) := by decide +kernel
theorem dX8_byAbove_34 : decode cX8_byAbove 34 = .ok (.aload_n 0, 1) := by decide +kernel
theorem dX8_byAbove_35 : decode cX8_byAbove 35 = .ok (.getfield 7, 3) := by decide +kernel
theorem dX8_byAbove_38 : decode cX8_byAbove 38 = .ok (.iconst 1, 1) := by decide +kernel
theorem dX8_byAbove_39 : decode cX8_byAbove 39 = .ok (.iaload, 1) := by decide +kernel
theorem dX8_byAbove_40 : decode cX8_byAbove 40 = .ok (.i2f, 1) := by decide +kernel
theorem dX8_byAbove_41 : decode cX8_byAbove 41 = .ok (.fdiv, 1) := by decide +kernel
theorem dX8_byAbove_42 : decode cX8_byAbove 42 = .ok (.freturn, 1) := by decide +kernel
theorem dX8_appendText_0 : decode cX8_appendText 0 = .ok (.aload_n 0, 1) := by decide +kernel
theorem dX8_appendText_1 : decode cX8_appendText 1 = .ok (.aload_n 0, 1) := by decide +kernel
theorem dX8_appendText_2 : decode cX8_appendText 2 = .ok (.getfield 292, 3) := by decide +kernel
theorem dX8_appendText_5 : decode cX8_appendText 5 = .ok (.iconst 4, 1) := by decide +kernel
theorem dX8_appendText_6 : decode cX8_appendText 6 = .ok (.iadd, 1) := by decide +kernel
theorem dX8_appendText_7 : decode cX8_appendText 7 = .ok (.sipush 900, 3) := by decide +kernel
theorem dX8_appendText_10 : decode cX8_appendText 10 = .ok (.if_icmp .gt 7, 3) := by decide +kernel
theorem dX8_appendText_13 : decode cX8_appendText 13 = .ok (.iconst 0, 1) := by decide +kernel
theorem dX8_appendText_14 : decode cX8_appendText 14 = .ok (.goto 4, 3) := by decide +kernel
theorem dX8_appendText_17 : decode cX8_appendText 17 = .ok (.iconst 1, 1) := by decide +kernel
theorem dX8_appendText_18 : decode cX8_appendText 18 = .ok (.putfield 90, 3) := by decide +kernel
theorem dX8_appendText_21 : decode cX8_appendText 21 = .ok (.aload_n 0, 1) := by decide +kernel
theorem dX8_appendText_22 : decode cX8_appendText 22 = .ok (.getfield 90, 3) := by decide +kernel
theorem dX8_appendText_25 : decode cX8_appendText 25 = .ok (.ifCond .le 5, 3) := by decide +kernel
theorem dX8_appendText_28 : decode cX8_appendText 28 = .ok (.iconst 0, 1) := by decide +kernel
theorem dX8_appendText_29 : decode cX8_appendText 29 = .ok (.ireturn, 1) := by decide +kernel
theorem dX8_appendText_30 : decode cX8_appendText 30 = .ok (.bipush 24, 2) := by decide +kernel
theorem dX8_appendText_32 : decode cX8_appendText 32 = .ok (.istore_n 2, 1) := by decide +kernel
theorem dX8_appendText_33 : decode cX8_appendText 33 = .ok (.iload_n 2, 1) := by decide +kernel
theorem dX8_appendText_34 : decode cX8_appendText 34 = .ok (.ifCond .lt 32, 3) := by decide +kernel
theorem dX8_appendText_37 : decode cX8_appendText 37 = .ok (.aload_n 0, 1) := by decide +kernel
theorem dX8_appendText_38 : decode cX8_appendText 38 = .ok (.getfield 68, 3) := by decide +kernel
theorem dX8_appendText_41 : decode cX8_appendText 41 = .ok (.aload_n 0, 1) := by decide +kernel
theorem dX8_appendText_42 : decode cX8_appendText 42 = .ok (.getfield 292, 3) := by decide +kernel
theorem dX8_appendText_45 : decode cX8_appendText 45 = .ok (.iload_n 1, 1) := by decide +kernel
theorem dX8_appendText_46 : decode cX8_appendText 46 = .ok (.iload_n 2, 1) := by decide +kernel
theorem dX8_appendText_47 : decode cX8_appendText 47 = .ok (.ishr, 1) := by decide +kernel
theorem dX8_appendText_48 : decode cX8_appendText 48 = .ok (.i2b, 1) := by decide +kernel
theorem dX8_appendText_49 : decode cX8_appendText 49 = .ok (.bastore, 1) := by decide +kernel
theorem dX8_appendText_50 : decode cX8_appendText 50 = .ok (.aload_n 0, 1) := by decide +kernel
theorem dX8_appendText_51 : decode cX8_appendText 51 = .ok (.dup, 1) := by decide +kernel
theorem dX8_appendText_52 : decode cX8_appendText 52 = .ok (.getfield 292, 3) := by decide +kernel
theorem dX8_appendText_55 : decode cX8_appendText 55 = .ok (.iconst 1, 1) := by decide +kernel
theorem dX8_appendText_56 : decode cX8_appendText 56 = .ok (.iadd, 1) := by decide +kernel
theorem dX8_appendText_57 : decode cX8_appendText 57 = .ok (.putfield 292, 3) := by decide +kernel
theorem dX8_appendText_60 : decode cX8_appendText 60 = .ok (.iinc 2 (-8), 3) := by decide +kernel
theorem dX8_appendText_63 : decode cX8_appendText 63 = .ok (.goto (-30), 3) := by decide +kernel
theorem dX8_appendText_66 : decode cX8_appendText 66 = .ok (.aload_n 0, 1) := by decide +kernel
theorem dX8_appendText_67 : decode cX8_appendText 67 = .ok (.getfield 292, 3) := by decide +kernel
theorem dX8_appendText_70 : decode cX8_appendText 70 = .ok (.ireturn, 1) := by decide +kernel
theorem dX8_truncateText_0 : decode cX8_truncateText 0 = .ok (.aload_n 0, 1) := by decide +kernel
theorem dX8_truncateText_1 : decode cX8_truncateText 1 = .ok (.iload_n 1, 1) := by decide +kernel
theorem dX8_truncateText_2 : decode cX8_truncateText 2 = .ok (.iconst 0, 1) := by decide +kernel
theorem dX8_truncateText_3 : decode cX8_truncateText 3 = .ok (.aload_n 0, 1) := by decide +kernel
theorem dX8_truncateText_4 : decode cX8_truncateText 4 = .ok (.getfield 292, 3) := by decide +kernel
theorem dX8_truncateText_7 : decode cX8_truncateText 7 = .ok (.invokestatic 124, 3) := by decide +kernel
theorem dX8_truncateText_10 : decode cX8_truncateText 10 = .ok (.ifCond .eq 7, 3) := by decide +kernel
theorem dX8_truncateText_13 : decode cX8_truncateText 13 = .ok (.iconst 0, 1) := by decide +kernel
theorem dX8_truncateText_14 : decode cX8_truncateText 14 = .ok (.goto 4, 3) := by decide +kernel
theorem dX8_truncateText_17 : decode cX8_truncateText 17 = .ok (.iconst 1, 1) := by decide +kernel
theorem dX8_truncateText_18 : decode cX8_truncateText 18 = .ok (.putfield 90, 3) := by decide +kernel
theorem dX8_truncateText_21 : decode cX8_truncateText 21 = .ok (.aload_n 0, 1) := by decide +kernel
theorem dX8_truncateText_22 : decode cX8_truncateText 22 = .ok (.getfield 90, 3) := by decide +kernel
theorem dX8_truncateText_25 : decode cX8_truncateText 25 = .ok (.ifCond .le 5, 3) := by decide +kernel
theorem dX8_truncateText_28 : decode cX8_truncateText 28 = .ok (.iconst 0, 1) := by decide +kernel
theorem dX8_truncateText_29 : decode cX8_truncateText 29 = .ok (.ireturn, 1) := by decide +kernel
theorem dX8_truncateText_30 : decode cX8_truncateText 30 = .ok (.aload_n 0, 1) := by decide +kernel
theorem dX8_truncateText_31 : decode cX8_truncateText 31 = .ok (.iload_n 1, 1) := by decide +kernel
theorem dX8_truncateText_32 : decode cX8_truncateText 32 = .ok (.putfield 292, 3) := by decide +kernel
theorem dX8_truncateText_35 : decode cX8_truncateText 35 = .ok (.aload_n 0, 1) := by decide +kernel
theorem dX8_truncateText_36 : decode cX8_truncateText 36 = .ok (.getfield 292, 3) := by decide +kernel
theorem dX8_truncateText_39 : decode cX8_truncateText 39 = .ok (.ireturn, 1) := by decide +kernel
theorem dX8_see_0 : decode cX8_see 0 = .ok (.aload_n 0, 1) := by decide +kernel
theorem dX8_see_1 : decode cX8_see 1 = .ok (.getfield 295, 3) := by decide +kernel
theorem dX8_see_4 : decode cX8_see 4 = .ok (.aload_n 0, 1) := by decide +kernel
theorem dX8_see_5 : decode cX8_see 5 = .ok (.getfield 292, 3) := by decide +kernel
theorem dX8_see_8 : decode cX8_see 8 = .ok (.if_icmp .ge 19, 3) := by decide +kernel
theorem dX8_see_11 : decode cX8_see 11 = .ok (.aload_n 0, 1) := by decide +kernel
theorem dX8_see_12 : decode cX8_see 12 = .ok (.getfield 68, 3) := by decide +kernel
theorem dX8_see_15 : decode cX8_see 15 = .ok (.aload_n 0, 1) := by decide +kernel
theorem dX8_see_16 : decode cX8_see 16 = .ok (.getfield 295, 3) := by decide +kernel
theorem dX8_see_19 : decode cX8_see 19 = .ok (.baload, 1) := by decide +kernel
theorem dX8_see_20 : decode cX8_see 20 = .ok (.sipush 255, 3) := by decide +kernel
theorem dX8_see_23 : decode cX8_see 23 = .ok (.iand, 1) := by decide +kernel
theorem dX8_see_24 : decode cX8_see 24 = .ok (.goto 4, 3) := by decide +kernel
theorem dX8_see_27 : decode cX8_see 27 = .ok (.iconst (-1), 1) := by decide +kernel
theorem dX8_see_28 : decode cX8_see 28 = .ok (.ireturn, 1) := by decide +kernel
theorem dX8_sortOf_0 : decode cX8_sortOf 0 = .ok (.iload_n 0, 1) := by decide +kernel
theorem dX8_sortOf_1 : decode cX8_sortOf 1 = .ok (.iconst (-1), 1) := by decide +kernel
theorem dX8_sortOf_2 : decode cX8_sortOf 2 = .ok (.if_icmp .ne 5, 3) := by decide +kernel
theorem dX8_sortOf_5 : decode cX8_sortOf 5 = .ok (.iconst 0, 1) := by decide +kernel
theorem dX8_sortOf_6 : decode cX8_sortOf 6 = .ok (.ireturn, 1) := by decide +kernel
theorem dX8_sortOf_7 : decode cX8_sortOf 7 = .ok (.iload_n 0, 1) := by decide +kernel
theorem dX8_sortOf_8 : decode cX8_sortOf 8 = .ok (.bipush 97, 2) := by decide +kernel
theorem dX8_sortOf_10 : decode cX8_sortOf 10 = .ok (.bipush 122, 2) := by decide +kernel
theorem dX8_sortOf_12 : decode cX8_sortOf 12 = .ok (.invokestatic 124, 3) := by decide +kernel
theorem dX8_sortOf_15 : decode cX8_sortOf 15 = .ok (.ifCond .eq 5, 3) := by decide +kernel
theorem dX8_sortOf_18 : decode cX8_sortOf 18 = .ok (.iconst 1, 1) := by decide +kernel
theorem dX8_sortOf_19 : decode cX8_sortOf 19 = .ok (.ireturn, 1) := by decide +kernel
theorem dX8_sortOf_20 : decode cX8_sortOf 20 = .ok (.iload_n 0, 1) := by decide +kernel
theorem dX8_sortOf_21 : decode cX8_sortOf 21 = .ok (.bipush 48, 2) := by decide +kernel
theorem dX8_sortOf_23 : decode cX8_sortOf 23 = .ok (.bipush 57, 2) := by decide +kernel
theorem dX8_sortOf_25 : decode cX8_sortOf 25 = .ok (.invokestatic 124, 3) := by decide +kernel
theorem dX8_sortOf_28 : decode cX8_sortOf 28 = .ok (.ifCond .eq 5, 3) := by decide +kernel
theorem dX8_sortOf_31 : decode cX8_sortOf 31 = .ok (.iconst 2, 1) := by decide +kernel
theorem dX8_sortOf_32 : decode cX8_sortOf 32 = .ok (.ireturn, 1) := by decide +kernel
theorem dX8_sortOf_33 : decode cX8_sortOf 33 = .ok (.iload_n 0, 1) := by decide +kernel
theorem dX8_sortOf_34 : decode cX8_sortOf 34 = .ok (.bipush 46, 2) := by decide +kernel
theorem dX8_sortOf_36 : decode cX8_sortOf 36 = .ok (.if_icmp .eq 9, 3) := by decide +kernel
theorem dX8_sortOf_39 : decode cX8_sortOf 39 = .ok (.iload_n 0, 1) := by decide +kernel
theorem dX8_sortOf_40 : decode cX8_sortOf 40 = .ok (.bipush 35, 2) := by decide +kernel
theorem dX8_sortOf_42 : decode cX8_sortOf 42 = .ok (.if_icmp .ne 7, 3) := by decide +kernel
theorem dX8_sortOf_45 : decode cX8_sortOf 45 = .ok (.iconst 3, 1) := by decide +kernel
theorem dX8_sortOf_46 : decode cX8_sortOf 46 = .ok (.goto 25, 3) := by decide +kernel
theorem dX8_sortOf_49 : decode cX8_sortOf 49 = .ok (.iload_n 0, 1) := by decide +kernel
theorem dX8_sortOf_50 : decode cX8_sortOf 50 = .ok (.bipush 59, 2) := by decide +kernel
theorem dX8_sortOf_52 : decode cX8_sortOf 52 = .ok (.if_icmp .ne 7, 3) := by decide +kernel
theorem dX8_sortOf_55 : decode cX8_sortOf 55 = .ok (.iconst 4, 1) := by decide +kernel
theorem dX8_sortOf_56 : decode cX8_sortOf 56 = .ok (.goto 15, 3) := by decide +kernel
theorem dX8_sortOf_59 : decode cX8_sortOf 59 = .ok (.iload_n 0, 1) := by decide +kernel
theorem dX8_sortOf_60 : decode cX8_sortOf 60 = .ok (.bipush 45, 2) := by decide +kernel
theorem dX8_sortOf_62 : decode cX8_sortOf 62 = .ok (.if_icmp .ne 7, 3) := by decide +kernel
theorem dX8_sortOf_65 : decode cX8_sortOf 65 = .ok (.iconst 5, 1) := by decide +kernel
theorem dX8_sortOf_66 : decode cX8_sortOf 66 = .ok (.goto 5, 3) := by decide +kernel
theorem dX8_sortOf_69 : decode cX8_sortOf 69 = .ok (.bipush 6, 2) := by decide +kernel
theorem dX8_sortOf_71 : decode cX8_sortOf 71 = .ok (.ireturn, 1) := by decide +kernel
theorem dX8_advances_0 : decode cX8_advances 0 = .ok (.aload_n 0, 1) := by decide +kernel
theorem dX8_advances_1 : decode cX8_advances 1 = .ok (.invokevirtual 298, 3) := by decide +kernel
theorem dX8_advances_4 : decode cX8_advances 4 = .ok (.bipush 32, 2) := by decide +kernel
theorem dX8_advances_6 : decode cX8_advances 6 = .ok (.if_icmp .eq 12, 3) := by decide +kernel
theorem dX8_advances_9 : decode cX8_advances 9 = .ok (.aload_n 0, 1) := by decide +kernel
theorem dX8_advances_10 : decode cX8_advances 10 = .ok (.invokevirtual 298, 3) := by decide +kernel
theorem dX8_advances_13 : decode cX8_advances 13 = .ok (.bipush 10, 2) := by decide +kernel
theorem dX8_advances_15 : decode cX8_advances 15 = .ok (.if_icmp .ne 16, 3) := by decide +kernel
theorem dX8_advances_18 : decode cX8_advances 18 = .ok (.aload_n 0, 1) := by decide +kernel
theorem dX8_advances_19 : decode cX8_advances 19 = .ok (.dup, 1) := by decide +kernel
theorem dX8_advances_20 : decode cX8_advances 20 = .ok (.getfield 295, 3) := by decide +kernel
theorem dX8_advances_23 : decode cX8_advances 23 = .ok (.iconst 1, 1) := by decide +kernel
theorem dX8_advances_24 : decode cX8_advances 24 = .ok (.iadd, 1) := by decide +kernel
theorem dX8_advances_25 : decode cX8_advances 25 = .ok (.putfield 295, 3) := by decide +kernel
theorem dX8_advances_28 : decode cX8_advances 28 = .ok (.goto (-28), 3) := by decide +kernel
theorem dX8_advances_31 : decode cX8_advances 31 = .ok (.aload_n 0, 1) := by decide +kernel
theorem dX8_advances_32 : decode cX8_advances 32 = .ok (.aload_n 0, 1) := by decide +kernel
theorem dX8_advances_33 : decode cX8_advances 33 = .ok (.getfield 295, 3) := by decide +kernel
theorem dX8_advances_36 : decode cX8_advances 36 = .ok (.putfield 301, 3) := by decide +kernel
theorem dX8_advances_39 : decode cX8_advances 39 = .ok (.aload_n 0, 1) := by decide +kernel
theorem dX8_advances_40 : decode cX8_advances 40 = .ok (.aload_n 0, 1) := by decide +kernel
theorem dX8_advances_41 : decode cX8_advances 41 = .ok (.invokevirtual 298, 3) := by decide +kernel
theorem dX8_advances_44 : decode cX8_advances 44 = .ok (.invokestatic 304, 3) := by decide +kernel
theorem dX8_advances_47 : decode cX8_advances 47 = .ok (.putfield 307, 3) := by decide +kernel
theorem dX8_advances_50 : decode cX8_advances 50 = .ok (.aload_n 0, 1) := by decide +kernel
theorem dX8_advances_51 : decode cX8_advances 51 = .ok (.iconst 0, 1) := by decide +kernel
theorem dX8_advances_52 : decode cX8_advances 52 = .ok (.putfield 310, 3) := by decide +kernel
theorem dX8_advances_55 : decode cX8_advances 55 = .ok (.aload_n 0, 1) := by decide +kernel
theorem dX8_advances_56 : decode cX8_advances 56 = .ok (.dup, 1) := by decide +kernel
theorem dX8_advances_57 : decode cX8_advances 57 = .ok (.getfield 295, 3) := by decide +kernel
theorem dX8_advances_60 : decode cX8_advances 60 = .ok (.aload_n 0, 1) := by decide +kernel
theorem dX8_advances_61 : decode cX8_advances 61 = .ok (.getfield 307, 3) := by decide +kernel
theorem dX8_advances_64 : decode cX8_advances 64 = .ok (.iconst 4, 1) := by decide +kernel
theorem dX8_advances_65 : decode cX8_advances 65 = .ok (.if_icmp .lt 7, 3) := by decide +kernel
theorem dX8_advances_68 : decode cX8_advances 68 = .ok (.iconst 1, 1) := by decide +kernel
theorem dX8_advances_69 : decode cX8_advances 69 = .ok (.goto 4, 3) := by decide +kernel
theorem dX8_advances_72 : decode cX8_advances 72 = .ok (.iconst 0, 1) := by decide +kernel
theorem dX8_advances_73 : decode cX8_advances 73 = .ok (.iadd, 1) := by decide +kernel
theorem dX8_advances_74 : decode cX8_advances 74 = .ok (.putfield 295, 3) := by decide +kernel
theorem dX8_advances_77 : decode cX8_advances 77 = .ok (.aload_n 0, 1) := by decide +kernel
theorem dX8_advances_78 : decode cX8_advances 78 = .ok (.getfield 307, 3) := by decide +kernel
theorem dX8_advances_81 : decode cX8_advances 81 = .ok (.iconst 1, 1) := by decide +kernel
theorem dX8_advances_82 : decode cX8_advances 82 = .ok (.iconst 3, 1) := by decide +kernel
theorem dX8_advances_83 : decode cX8_advances 83 = .ok (.invokestatic 124, 3) := by decide +kernel
theorem dX8_advances_86 : decode cX8_advances 86 = .ok (.ifCond .eq 74, 3) := by decide +kernel
theorem dX8_advances_89 : decode cX8_advances 89 = .ok (.aload_n 0, 1) := by decide +kernel
theorem dX8_advances_90 : decode cX8_advances 90 = .ok (.invokevirtual 298, 3) := by decide +kernel
theorem dX8_advances_93 : decode cX8_advances 93 = .ok (.invokestatic 304, 3) := by decide +kernel
theorem dX8_advances_96 : decode cX8_advances 96 = .ok (.aload_n 0, 1) := by decide +kernel
theorem dX8_advances_97 : decode cX8_advances 97 = .ok (.getfield 307, 3) := by decide +kernel
theorem dX8_advances_100 : decode cX8_advances 100 = .ok (.if_icmp .ne 60, 3) := by decide +kernel
theorem dX8_advances_103 : decode cX8_advances 103 = .ok (.aload_n 0, 1) := by decide +kernel
theorem dX8_advances_104 : decode cX8_advances 104 = .ok (.aload_n 0, 1) := by decide +kernel
theorem dX8_advances_105 : decode cX8_advances 105 = .ok (.getfield 307, 3) := by decide +kernel
theorem dX8_advances_108 : decode cX8_advances 108 = .ok (.iconst 2, 1) := by decide +kernel
theorem dX8_advances_109 : decode cX8_advances 109 = .ok (.if_icmp .ne 13, 3) := by decide +kernel
theorem dX8_advances_112 : decode cX8_advances 112 = .ok (.aload_n 0, 1) := by decide +kernel
theorem dX8_advances_113 : decode cX8_advances 113 = .ok (.getfield 310, 3) := by decide +kernel
theorem dX8_advances_116 : decode cX8_advances 116 = .ok (.sipush 10000, 3) := by decide +kernel
theorem dX8_advances_119 : decode cX8_advances 119 = .ok (.if_icmp .le 10, 3) := by decide +kernel
theorem dX8_advances_122 : decode cX8_advances 122 = .ok (.aload_n 0, 1) := by decide +kernel
theorem dX8_advances_123 : decode cX8_advances 123 = .ok (.getfield 310, 3) := by decide +kernel
theorem dX8_advances_126 : decode cX8_advances 126 = .ok (.goto 18, 3) := by decide +kernel
theorem dX8_advances_129 : decode cX8_advances 129 = .ok (.bipush 10, 2) := by decide +kernel
theorem dX8_advances_131 : decode cX8_advances 131 = .ok (.aload_n 0, 1) := by decide +kernel
theorem dX8_advances_132 : decode cX8_advances 132 = .ok (.getfield 310, 3) := by decide +kernel
theorem dX8_advances_135 : decode cX8_advances 135 = .ok (.imul, 1) := by decide +kernel
theorem dX8_advances_136 : decode cX8_advances 136 = .ok (.aload_n 0, 1) := by decide +kernel
theorem dX8_advances_137 : decode cX8_advances 137 = .ok (.invokevirtual 298, 3) := by decide +kernel
theorem dX8_advances_140 : decode cX8_advances 140 = .ok (.iadd, 1) := by decide +kernel
theorem dX8_advances_141 : decode cX8_advances 141 = .ok (.bipush 48, 2) := by decide +kernel
theorem dX8_advances_143 : decode cX8_advances 143 = .ok (.isub, 1) := by decide +kernel
theorem dX8_advances_144 : decode cX8_advances 144 = .ok (.putfield 310, 3) := by decide +kernel
theorem dX8_advances_147 : decode cX8_advances 147 = .ok (.aload_n 0, 1) := by decide +kernel
theorem dX8_advances_148 : decode cX8_advances 148 = .ok (.dup, 1) := by decide +kernel
theorem dX8_advances_149 : decode cX8_advances 149 = .ok (.getfield 295, 3) := by decide +kernel
theorem dX8_advances_152 : decode cX8_advances 152 = .ok (.iconst 1, 1) := by decide +kernel
theorem dX8_advances_153 : decode cX8_advances 153 = .ok (.iadd, 1) := by decide +kernel
theorem dX8_advances_154 : decode cX8_advances 154 = .ok (.putfield 295, 3) := by decide +kernel
theorem dX8_advances_157 : decode cX8_advances 157 = .ok (.goto (-80), 3) := by decide +kernel
theorem dX8_advances_160 : decode cX8_advances 160 = .ok (.return_, 1) := by decide +kernel
theorem dX8_must_0 : decode cX8_must 0 = .ok (.iload_n 1, 1) := by decide +kernel
theorem dX8_must_1 : decode cX8_must 1 = .ok (.ifCond .ne 23, 3) := by decide +kernel
theorem dX8_must_4 : decode cX8_must 4 = .ok (.aload_n 0, 1) := by decide +kernel
theorem dX8_must_5 : decode cX8_must 5 = .ok (.getfield 313, 3) := by decide +kernel
theorem dX8_must_8 : decode cX8_must 8 = .ok (.ifCond .ne 16, 3) := by decide +kernel
theorem dX8_must_11 : decode cX8_must 11 = .ok (.aload_n 0, 1) := by decide +kernel
theorem dX8_must_12 : decode cX8_must 12 = .ok (.iload_n 2, 1) := by decide +kernel
theorem dX8_must_13 : decode cX8_must 13 = .ok (.putfield 313, 3) := by decide +kernel
theorem dX8_must_16 : decode cX8_must 16 = .ok (.aload_n 0, 1) := by decide +kernel
theorem dX8_must_17 : decode cX8_must 17 = .ok (.aload_n 0, 1) := by decide +kernel
theorem dX8_must_18 : decode cX8_must 18 = .ok (.getfield 301, 3) := by decide +kernel
theorem dX8_must_21 : decode cX8_must 21 = .ok (.putfield 72, 3) := by decide +kernel
theorem dX8_must_24 : decode cX8_must 24 = .ok (.return_, 1) := by decide +kernel
theorem dX8_goesOn_0 : decode cX8_goesOn 0 = .ok (.aload_n 0, 1) := by decide +kernel
theorem dX8_goesOn_1 : decode cX8_goesOn 1 = .ok (.getfield 313, 3) := by decide +kernel
theorem dX8_goesOn_4 : decode cX8_goesOn 4 = .ok (.ifCond .ne 7, 3) := by decide +kernel
theorem dX8_goesOn_7 : decode cX8_goesOn 7 = .ok (.aload_n 0, 1) := by decide +kernel
theorem dX8_goesOn_8 : decode cX8_goesOn 8 = .ok (.invokevirtual 316, 3) := by decide +kernel
theorem dX8_goesOn_11 : decode cX8_goesOn 11 = .ok (.return_, 1) := by decide +kernel
theorem dX8_wordHere_0 : decode cX8_wordHere 0 = .ok (.iconst 0, 1) := by decide +kernel
theorem dX8_wordHere_1 : decode cX8_wordHere 1 = .ok (.istore_n 1, 1) := by decide +kernel
theorem dX8_wordHere_2 : decode cX8_wordHere 2 = .ok (.iconst 0, 1) := by decide +kernel
theorem dX8_wordHere_3 : decode cX8_wordHere 3 = .ok (.istore_n 2, 1) := by decide +kernel
theorem dX8_wordHere_4 : decode cX8_wordHere 4 = .ok (.aload_n 0, 1) := by decide +kernel
theorem dX8_wordHere_5 : decode cX8_wordHere 5 = .ok (.getfield 307, 3) := by decide +kernel
theorem dX8_wordHere_8 : decode cX8_wordHere 8 = .ok (.iconst 1, 1) := by decide +kernel
theorem dX8_wordHere_9 : decode cX8_wordHere 9 = .ok (.if_icmp .ne 112, 3) := by decide +kernel
theorem dX8_wordHere_12 : decode cX8_wordHere 12 = .ok (.iload_n 2, 1) := by decide +kernel
theorem dX8_wordHere_13 : decode cX8_wordHere 13 = .ok (.bipush 9, 2) := by decide +kernel
theorem dX8_wordHere_15 : decode cX8_wordHere 15 = .ok (.if_icmp .ge 106, 3) := by decide +kernel
theorem dX8_wordHere_18 : decode cX8_wordHere 18 = .ok (.iconst 0, 1) := by decide +kernel
theorem dX8_wordHere_19 : decode cX8_wordHere 19 = .ok (.istore_n 3, 1) := by decide +kernel
theorem dX8_wordHere_20 : decode cX8_wordHere 20 = .ok (.iconst 1, 1) := by decide +kernel
theorem dX8_wordHere_21 : decode cX8_wordHere 21 = .ok (.istore 4, 2) := by decide +kernel
theorem dX8_wordHere_23 : decode cX8_wordHere 23 = .ok (.aload_n 0, 1) := by decide +kernel
theorem dX8_wordHere_24 : decode cX8_wordHere 24 = .ok (.getfield 76, 3) := by decide +kernel
theorem dX8_wordHere_27 : decode cX8_wordHere 27 = .ok (.iload_n 1, 1) := by decide +kernel
theorem dX8_wordHere_28 : decode cX8_wordHere 28 = .ok (.iload_n 3, 1) := by decide +kernel
theorem dX8_wordHere_29 : decode cX8_wordHere 29 = .ok (.iadd, 1) := by decide +kernel
theorem dX8_wordHere_30 : decode cX8_wordHere 30 = .ok (.baload, 1) := by decide +kernel
theorem dX8_wordHere_31 : decode cX8_wordHere 31 = .ok (.bipush 32, 2) := by decide +kernel
theorem dX8_wordHere_33 : decode cX8_wordHere 33 = .ok (.if_icmp .eq 56, 3) := by decide +kernel
theorem dX8_wordHere_36 : decode cX8_wordHere 36 = .ok (.iload 4, 2) := by decide +kernel
theorem dX8_wordHere_38 : decode cX8_wordHere 38 = .ok (.ifCond .eq 42, 3) := by decide +kernel
theorem dX8_wordHere_41 : decode cX8_wordHere 41 = .ok (.aload_n 0, 1) := by decide +kernel
theorem dX8_wordHere_42 : decode cX8_wordHere 42 = .ok (.getfield 301, 3) := by decide +kernel
theorem dX8_wordHere_45 : decode cX8_wordHere 45 = .ok (.iload_n 3, 1) := by decide +kernel
theorem dX8_wordHere_46 : decode cX8_wordHere 46 = .ok (.iadd, 1) := by decide +kernel
theorem dX8_wordHere_47 : decode cX8_wordHere 47 = .ok (.aload_n 0, 1) := by decide +kernel
theorem dX8_wordHere_48 : decode cX8_wordHere 48 = .ok (.getfield 295, 3) := by decide +kernel
theorem dX8_wordHere_51 : decode cX8_wordHere 51 = .ok (.if_icmp .ge 29, 3) := by decide +kernel
theorem dX8_wordHere_54 : decode cX8_wordHere 54 = .ok (.aload_n 0, 1) := by decide +kernel
theorem dX8_wordHere_55 : decode cX8_wordHere 55 = .ok (.getfield 68, 3) := by decide +kernel
theorem dX8_wordHere_58 : decode cX8_wordHere 58 = .ok (.aload_n 0, 1) := by decide +kernel
theorem dX8_wordHere_59 : decode cX8_wordHere 59 = .ok (.getfield 301, 3) := by decide +kernel
theorem dX8_wordHere_62 : decode cX8_wordHere 62 = .ok (.iload_n 3, 1) := by decide +kernel
theorem dX8_wordHere_63 : decode cX8_wordHere 63 = .ok (.iadd, 1) := by decide +kernel
theorem dX8_wordHere_64 : decode cX8_wordHere 64 = .ok (.baload, 1) := by decide +kernel
theorem dX8_wordHere_65 : decode cX8_wordHere 65 = .ok (.aload_n 0, 1) := by decide +kernel
theorem dX8_wordHere_66 : decode cX8_wordHere 66 = .ok (.getfield 76, 3) := by decide +kernel
theorem dX8_wordHere_69 : decode cX8_wordHere 69 = .ok (.iload_n 1, 1) := by decide +kernel
theorem dX8_wordHere_70 : decode cX8_wordHere 70 = .ok (.iload_n 3, 1) := by decide +kernel
theorem dX8_wordHere_71 : decode cX8_wordHere 71 = .ok (.iadd, 1) := by decide +kernel
theorem dX8_wordHere_72 : decode cX8_wordHere 72 = .ok (.baload, 1) := by decide +kernel
theorem dX8_wordHere_73 : decode cX8_wordHere 73 = .ok (.if_icmp .ne 7, 3) := by decide +kernel
theorem dX8_wordHere_76 : decode cX8_wordHere 76 = .ok (.iconst 1, 1) := by decide +kernel
theorem dX8_wordHere_77 : decode cX8_wordHere 77 = .ok (.goto 4, 3) := by decide +kernel
theorem dX8_wordHere_80 : decode cX8_wordHere 80 = .ok (.iconst 0, 1) := by decide +kernel
theorem dX8_wordHere_81 : decode cX8_wordHere 81 = .ok (.istore 4, 2) := by decide +kernel
theorem dX8_wordHere_83 : decode cX8_wordHere 83 = .ok (.iinc 3 1, 3) := by decide +kernel
theorem dX8_wordHere_86 : decode cX8_wordHere 86 = .ok (.goto (-63), 3) := by decide +kernel
theorem dX8_wordHere_89 : decode cX8_wordHere 89 = .ok (.iload 4, 2) := by decide +kernel
theorem dX8_wordHere_91 : decode cX8_wordHere 91 = .ok (.ifCond .eq 18, 3) := by decide +kernel
theorem dX8_wordHere_94 : decode cX8_wordHere 94 = .ok (.aload_n 0, 1) := by decide +kernel
theorem dX8_wordHere_95 : decode cX8_wordHere 95 = .ok (.getfield 295, 3) := by decide +kernel
theorem dX8_wordHere_98 : decode cX8_wordHere 98 = .ok (.aload_n 0, 1) := by decide +kernel
theorem dX8_wordHere_99 : decode cX8_wordHere 99 = .ok (.getfield 301, 3) := by decide +kernel
theorem dX8_wordHere_102 : decode cX8_wordHere 102 = .ok (.isub, 1) := by decide +kernel
theorem dX8_wordHere_103 : decode cX8_wordHere 103 = .ok (.iload_n 3, 1) := by decide +kernel
theorem dX8_wordHere_104 : decode cX8_wordHere 104 = .ok (.if_icmp .ne 5, 3) := by decide +kernel
theorem dX8_wordHere_107 : decode cX8_wordHere 107 = .ok (.iload_n 2, 1) := by decide +kernel
theorem dX8_wordHere_108 : decode cX8_wordHere 108 = .ok (.ireturn, 1) := by decide +kernel
theorem dX8_wordHere_109 : decode cX8_wordHere 109 = .ok (.iload_n 1, 1) := by decide +kernel
theorem dX8_wordHere_110 : decode cX8_wordHere 110 = .ok (.iload_n 3, 1) := by decide +kernel
theorem dX8_wordHere_111 : decode cX8_wordHere 111 = .ok (.iconst 1, 1) := by decide +kernel
theorem dX8_wordHere_112 : decode cX8_wordHere 112 = .ok (.iadd, 1) := by decide +kernel
theorem dX8_wordHere_113 : decode cX8_wordHere 113 = .ok (.iadd, 1) := by decide +kernel
theorem dX8_wordHere_114 : decode cX8_wordHere 114 = .ok (.istore_n 1, 1) := by decide +kernel
theorem dX8_wordHere_115 : decode cX8_wordHere 115 = .ok (.iinc 2 1, 3) := by decide +kernel
theorem dX8_wordHere_118 : decode cX8_wordHere 118 = .ok (.goto (-114), 3) := by decide +kernel
theorem dX8_wordHere_121 : decode cX8_wordHere 121 = .ok (.iconst (-1), 1) := by decide +kernel
theorem dX8_wordHere_122 : decode cX8_wordHere 122 = .ok (.ireturn, 1) := by decide +kernel
theorem dX8_looks_0 : decode cX8_looks 0 = .ok (.aload_n 0, 1) := by decide +kernel
theorem dX8_looks_1 : decode cX8_looks 1 = .ok (.aload_n 0, 1) := by decide +kernel
theorem dX8_looks_2 : decode cX8_looks 2 = .ok (.getfield 307, 3) := by decide +kernel
theorem dX8_looks_5 : decode cX8_looks 5 = .ok (.iconst 2, 1) := by decide +kernel
theorem dX8_looks_6 : decode cX8_looks 6 = .ok (.if_icmp .ne 7, 3) := by decide +kernel
theorem dX8_looks_9 : decode cX8_looks 9 = .ok (.iconst 1, 1) := by decide +kernel
theorem dX8_looks_10 : decode cX8_looks 10 = .ok (.goto 4, 3) := by decide +kernel
theorem dX8_looks_13 : decode cX8_looks 13 = .ok (.iconst 0, 1) := by decide +kernel
theorem dX8_looks_14 : decode cX8_looks 14 = .ok (.iconst 1, 1) := by decide +kernel
theorem dX8_looks_15 : decode cX8_looks 15 = .ok (.invokevirtual 319, 3) := by decide +kernel
theorem dX8_looks_18 : decode cX8_looks 18 = .ok (.aload_n 0, 1) := by decide +kernel
theorem dX8_looks_19 : decode cX8_looks 19 = .ok (.aload_n 0, 1) := by decide +kernel
theorem dX8_looks_20 : decode cX8_looks 20 = .ok (.getfield 313, 3) := by decide +kernel
theorem dX8_looks_23 : decode cX8_looks 23 = .ok (.ifCond .gt 15, 3) := by decide +kernel
theorem dX8_looks_26 : decode cX8_looks 26 = .ok (.aload_n 0, 1) := by decide +kernel
theorem dX8_looks_27 : decode cX8_looks 27 = .ok (.getfield 310, 3) := by decide +kernel
theorem dX8_looks_30 : decode cX8_looks 30 = .ok (.iload_n 1, 1) := by decide +kernel
theorem dX8_looks_31 : decode cX8_looks 31 = .ok (.iload_n 2, 1) := by decide +kernel
theorem dX8_looks_32 : decode cX8_looks 32 = .ok (.invokestatic 124, 3) := by decide +kernel
theorem dX8_looks_35 : decode cX8_looks 35 = .ok (.ifCond .eq 7, 3) := by decide +kernel
theorem dX8_looks_38 : decode cX8_looks 38 = .ok (.iconst 1, 1) := by decide +kernel
theorem dX8_looks_39 : decode cX8_looks 39 = .ok (.goto 4, 3) := by decide +kernel
theorem dX8_looks_42 : decode cX8_looks 42 = .ok (.iconst 0, 1) := by decide +kernel
theorem dX8_looks_43 : decode cX8_looks 43 = .ok (.iconst 2, 1) := by decide +kernel
theorem dX8_looks_44 : decode cX8_looks 44 = .ok (.invokevirtual 319, 3) := by decide +kernel
theorem dX8_looks_47 : decode cX8_looks 47 = .ok (.aload_n 0, 1) := by decide +kernel
theorem dX8_looks_48 : decode cX8_looks 48 = .ok (.getfield 313, 3) := by decide +kernel
theorem dX8_looks_51 : decode cX8_looks 51 = .ok (.ifCond .le 7, 3) := by decide +kernel
theorem dX8_looks_54 : decode cX8_looks 54 = .ok (.iload_n 1, 1) := by decide +kernel
theorem dX8_looks_55 : decode cX8_looks 55 = .ok (.goto 7, 3) := by decide +kernel
theorem dX8_looks_58 : decode cX8_looks 58 = .ok (.aload_n 0, 1) := by decide +kernel
theorem dX8_looks_59 : decode cX8_looks 59 = .ok (.getfield 310, 3) := by decide +kernel
theorem dX8_looks_62 : decode cX8_looks 62 = .ok (.ireturn, 1) := by decide +kernel
theorem dX8_reads_0 : decode cX8_reads 0 = .ok (.aload_n 0, 1) := by decide +kernel
theorem dX8_reads_1 : decode cX8_reads 1 = .ok (.iload_n 1, 1) := by decide +kernel
theorem dX8_reads_2 : decode cX8_reads 2 = .ok (.iload_n 2, 1) := by decide +kernel
theorem dX8_reads_3 : decode cX8_reads 3 = .ok (.invokevirtual 323, 3) := by decide +kernel
theorem dX8_reads_6 : decode cX8_reads 6 = .ok (.istore_n 3, 1) := by decide +kernel
theorem dX8_reads_7 : decode cX8_reads 7 = .ok (.aload_n 0, 1) := by decide +kernel
theorem dX8_reads_8 : decode cX8_reads 8 = .ok (.invokevirtual 326, 3) := by decide +kernel
theorem dX8_reads_11 : decode cX8_reads 11 = .ok (.iload_n 3, 1) := by decide +kernel
theorem dX8_reads_12 : decode cX8_reads 12 = .ok (.ireturn, 1) := by decide +kernel
theorem dX8_laysTold_0 : decode cX8_laysTold 0 = .ok (.aload_n 0, 1) := by decide +kernel
theorem dX8_laysTold_1 : decode cX8_laysTold 1 = .ok (.aload_n 0, 1) := by decide +kernel
theorem dX8_laysTold_2 : decode cX8_laysTold 2 = .ok (.getfield 13, 3) := by decide +kernel
theorem dX8_laysTold_5 : decode cX8_laysTold 5 = .ok (.iconst 0, 1) := by decide +kernel
theorem dX8_laysTold_6 : decode cX8_laysTold 6 = .ok (.iaload, 1) := by decide +kernel
theorem dX8_laysTold_7 : decode cX8_laysTold 7 = .ok (.putfield 93, 3) := by decide +kernel
theorem dX8_laysTold_10 : decode cX8_laysTold 10 = .ok (.aload_n 0, 1) := by decide +kernel
theorem dX8_laysTold_11 : decode cX8_laysTold 11 = .ok (.aload_n 0, 1) := by decide +kernel
theorem dX8_laysTold_12 : decode cX8_laysTold 12 = .ok (.getfield 13, 3) := by decide +kernel
theorem dX8_laysTold_15 : decode cX8_laysTold 15 = .ok (.aload_n 0, 1) := by decide +kernel
theorem dX8_laysTold_16 : decode cX8_laysTold 16 = .ok (.getfield 13, 3) := by decide +kernel
theorem dX8_laysTold_19 : decode cX8_laysTold 19 = .ok (.iconst 1, 1) := by decide +kernel
theorem dX8_laysTold_20 : decode cX8_laysTold 20 = .ok (.iaload, 1) := by decide +kernel
theorem dX8_laysTold_21 : decode cX8_laysTold 21 = .ok (.ifCond .ne 7, 3) := by decide +kernel
theorem dX8_laysTold_24 : decode cX8_laysTold 24 = .ok (.iconst (-1), 1) := by decide +kernel
theorem dX8_laysTold_25 : decode cX8_laysTold 25 = .ok (.goto 15, 3) := by decide +kernel
theorem dX8_laysTold_28 : decode cX8_laysTold 28 = .ok (.aload_n 0, 1) := by decide +kernel
theorem dX8_laysTold_29 : decode cX8_laysTold 29 = .ok (.getfield 13, 3) := by decide +kernel
theorem dX8_laysTold_32 : decode cX8_laysTold 32 = .ok (.iconst 1, 1) := by decide +kernel
theorem dX8_laysTold_33 : decode cX8_laysTold 33 = .ok (.iaload, 1) := by decide +kernel
theorem dX8_laysTold_34 : decode cX8_laysTold 34 = .ok (.iconst 1, 1) := by decide +kernel
theorem dX8_laysTold_35 : decode cX8_laysTold 35 = .ok (.isub, 1) := by decide +kernel
theorem dX8_laysTold_36 : decode cX8_laysTold 36 = .ok (.iconst 0, 1) := by decide +kernel
theorem dX8_laysTold_37 : decode cX8_laysTold 37 = .ok (.invokestatic 96, 3) := by decide +kernel
theorem dX8_laysTold_40 : decode cX8_laysTold 40 = .ok (.invokevirtual 100, 3) := by decide +kernel
theorem dX8_laysTold_43 : decode cX8_laysTold 43 = .ok (.aload_n 0, 1) := by decide +kernel
theorem dX8_laysTold_44 : decode cX8_laysTold 44 = .ok (.invokevirtual 145, 3) := by decide +kernel
theorem dX8_laysTold_47 : decode cX8_laysTold 47 = .ok (.return_, 1) := by decide +kernel
theorem dX8_addsTold_0 : decode cX8_addsTold 0 = .ok (.iconst 0, 1) := by decide +kernel
theorem dX8_addsTold_1 : decode cX8_addsTold 1 = .ok (.istore_n 1, 1) := by decide +kernel
theorem dX8_addsTold_2 : decode cX8_addsTold 2 = .ok (.iload_n 1, 1) := by decide +kernel
theorem dX8_addsTold_3 : decode cX8_addsTold 3 = .ok (.aload_n 0, 1) := by decide +kernel
theorem dX8_addsTold_4 : decode cX8_addsTold 4 = .ok (.getfield 93, 3) := by decide +kernel
theorem dX8_addsTold_7 : decode cX8_addsTold 7 = .ok (.if_icmp .ge 37, 3) := by decide +kernel
theorem dX8_addsTold_10 : decode cX8_addsTold 10 = .ok (.aload_n 0, 1) := by decide +kernel
theorem dX8_addsTold_11 : decode cX8_addsTold 11 = .ok (.getfield 313, 3) := by decide +kernel
theorem dX8_addsTold_14 : decode cX8_addsTold 14 = .ok (.ifCond .ne 30, 3) := by decide +kernel
theorem dX8_addsTold_17 : decode cX8_addsTold 17 = .ok (.aload_n 0, 1) := by decide +kernel
theorem dX8_addsTold_18 : decode cX8_addsTold 18 = .ok (.getfield 13, 3) := by decide +kernel
theorem dX8_addsTold_21 : decode cX8_addsTold 21 = .ok (.aload_n 0, 1) := by decide +kernel
theorem dX8_addsTold_22 : decode cX8_addsTold 22 = .ok (.getfield 13, 3) := by decide +kernel
theorem dX8_addsTold_25 : decode cX8_addsTold 25 = .ok (.iconst 1, 1) := by decide +kernel
theorem dX8_addsTold_26 : decode cX8_addsTold 26 = .ok (.iaload, 1) := by decide +kernel
theorem dX8_addsTold_27 : decode cX8_addsTold 27 = .ok (.iload_n 1, 1) := by decide +kernel
theorem dX8_addsTold_28 : decode cX8_addsTold 28 = .ok (.invokestatic 96, 3) := by decide +kernel
theorem dX8_addsTold_31 : decode cX8_addsTold 31 = .ok (.aload_n 0, 1) := by decide +kernel
theorem dX8_addsTold_32 : decode cX8_addsTold 32 = .ok (.getfield 44, 3) := by decide +kernel
theorem dX8_addsTold_35 : decode cX8_addsTold 35 = .ok (.iload_n 1, 1) := by decide +kernel
theorem dX8_addsTold_36 : decode cX8_addsTold 36 = .ok (.iaload, 1) := by decide +kernel
theorem dX8_addsTold_37 : decode cX8_addsTold 37 = .ok (.iastore, 1) := by decide +kernel
theorem dX8_addsTold_38 : decode cX8_addsTold 38 = .ok (.iinc 1 1, 3) := by decide +kernel
theorem dX8_addsTold_41 : decode cX8_addsTold 41 = .ok (.goto (-39), 3) := by decide +kernel
theorem dX8_addsTold_44 : decode cX8_addsTold 44 = .ok (.aload_n 0, 1) := by decide +kernel
theorem dX8_addsTold_45 : decode cX8_addsTold 45 = .ok (.getfield 13, 3) := by decide +kernel
theorem dX8_addsTold_48 : decode cX8_addsTold 48 = .ok (.iconst 1, 1) := by decide +kernel
theorem dX8_addsTold_49 : decode cX8_addsTold 49 = .ok (.dup2, 1) := by decide +kernel
theorem dX8_addsTold_50 : decode cX8_addsTold 50 = .ok (.iaload, 1) := by decide +kernel
theorem dX8_addsTold_51 : decode cX8_addsTold 51 = .ok (.aload_n 0, 1) := by decide +kernel
theorem dX8_addsTold_52 : decode cX8_addsTold 52 = .ok (.getfield 313, 3) := by decide +kernel
theorem dX8_addsTold_55 : decode cX8_addsTold 55 = .ok (.ifCond .ne 7, 3) := by decide +kernel
theorem dX8_addsTold_58 : decode cX8_addsTold 58 = .ok (.iconst 1, 1) := by decide +kernel
theorem dX8_addsTold_59 : decode cX8_addsTold 59 = .ok (.goto 4, 3) := by decide +kernel
theorem dX8_addsTold_62 : decode cX8_addsTold 62 = .ok (.iconst 0, 1) := by decide +kernel
theorem dX8_addsTold_63 : decode cX8_addsTold 63 = .ok (.iadd, 1) := by decide +kernel
theorem dX8_addsTold_64 : decode cX8_addsTold 64 = .ok (.iastore, 1) := by decide +kernel
theorem dX8_addsTold_65 : decode cX8_addsTold 65 = .ok (.return_, 1) := by decide +kernel
theorem dX8_readsRow_0 : decode cX8_readsRow 0 = .ok (.aload_n 0, 1) := by decide +kernel
theorem dX8_readsRow_1 : decode cX8_readsRow 1 = .ok (.aload_n 0, 1) := by decide +kernel
theorem dX8_readsRow_2 : decode cX8_readsRow 2 = .ok (.getfield 307, 3) := by decide +kernel
theorem dX8_readsRow_5 : decode cX8_readsRow 5 = .ok (.iconst 3, 1) := by decide +kernel
theorem dX8_readsRow_6 : decode cX8_readsRow 6 = .ok (.if_icmp .ne 7, 3) := by decide +kernel
theorem dX8_readsRow_9 : decode cX8_readsRow 9 = .ok (.iconst 1, 1) := by decide +kernel
theorem dX8_readsRow_10 : decode cX8_readsRow 10 = .ok (.goto 4, 3) := by decide +kernel
theorem dX8_readsRow_13 : decode cX8_readsRow 13 = .ok (.iconst 0, 1) := by decide +kernel
theorem dX8_readsRow_14 : decode cX8_readsRow 14 = .ok (.iconst 1, 1) := by decide +kernel
theorem dX8_readsRow_15 : decode cX8_readsRow 15 = .ok (.invokevirtual 319, 3) := by decide +kernel
theorem dX8_readsRow_18 : decode cX8_readsRow 18 = .ok (.aload_n 0, 1) := by decide +kernel
theorem dX8_readsRow_19 : decode cX8_readsRow 19 = .ok (.aload_n 0, 1) := by decide +kernel
theorem dX8_readsRow_20 : decode cX8_readsRow 20 = .ok (.getfield 295, 3) := by decide +kernel
theorem dX8_readsRow_23 : decode cX8_readsRow 23 = .ok (.aload_n 0, 1) := by decide +kernel
theorem dX8_readsRow_24 : decode cX8_readsRow 24 = .ok (.getfield 301, 3) := by decide +kernel
theorem dX8_readsRow_27 : decode cX8_readsRow 27 = .ok (.isub, 1) := by decide +kernel
theorem dX8_readsRow_28 : decode cX8_readsRow 28 = .ok (.aload_n 0, 1) := by decide +kernel
theorem dX8_readsRow_29 : decode cX8_readsRow 29 = .ok (.getfield 93, 3) := by decide +kernel
theorem dX8_readsRow_32 : decode cX8_readsRow 32 = .ok (.if_icmp .ne 7, 3) := by decide +kernel
theorem dX8_readsRow_35 : decode cX8_readsRow 35 = .ok (.iconst 1, 1) := by decide +kernel
theorem dX8_readsRow_36 : decode cX8_readsRow 36 = .ok (.goto 4, 3) := by decide +kernel
theorem dX8_readsRow_39 : decode cX8_readsRow 39 = .ok (.iconst 0, 1) := by decide +kernel
theorem dX8_readsRow_40 : decode cX8_readsRow 40 = .ok (.iconst 3, 1) := by decide +kernel
theorem dX8_readsRow_41 : decode cX8_readsRow 41 = .ok (.invokevirtual 319, 3) := by decide +kernel
theorem dX8_readsRow_44 : decode cX8_readsRow 44 = .ok (.iconst 0, 1) := by decide +kernel
theorem dX8_readsRow_45 : decode cX8_readsRow 45 = .ok (.istore_n 1, 1) := by decide +kernel
theorem dX8_readsRow_46 : decode cX8_readsRow 46 = .ok (.iload_n 1, 1) := by decide +kernel
theorem dX8_readsRow_47 : decode cX8_readsRow 47 = .ok (.aload_n 0, 1) := by decide +kernel
theorem dX8_readsRow_48 : decode cX8_readsRow 48 = .ok (.getfield 93, 3) := by decide +kernel
theorem dX8_readsRow_51 : decode cX8_readsRow 51 = .ok (.if_icmp .ge 43, 3) := by decide +kernel
theorem dX8_readsRow_54 : decode cX8_readsRow 54 = .ok (.aload_n 0, 1) := by decide +kernel
theorem dX8_readsRow_55 : decode cX8_readsRow 55 = .ok (.getfield 313, 3) := by decide +kernel
theorem dX8_readsRow_58 : decode cX8_readsRow 58 = .ok (.ifCond .ne 36, 3) := by decide +kernel
theorem dX8_readsRow_61 : decode cX8_readsRow 61 = .ok (.aload_n 0, 1) := by decide +kernel
theorem dX8_readsRow_62 : decode cX8_readsRow 62 = .ok (.getfield 44, 3) := by decide +kernel
theorem dX8_readsRow_65 : decode cX8_readsRow 65 = .ok (.iload_n 1, 1) := by decide +kernel
theorem dX8_readsRow_66 : decode cX8_readsRow 66 = .ok (.aload_n 0, 1) := by decide +kernel
theorem dX8_readsRow_67 : decode cX8_readsRow 67 = .ok (.getfield 68, 3) := by decide +kernel
theorem dX8_readsRow_70 : decode cX8_readsRow 70 = .ok (.aload_n 0, 1) := by decide +kernel
theorem dX8_readsRow_71 : decode cX8_readsRow 71 = .ok (.getfield 301, 3) := by decide +kernel
theorem dX8_readsRow_74 : decode cX8_readsRow 74 = .ok (.iload_n 1, 1) := by decide +kernel
theorem dX8_readsRow_75 : decode cX8_readsRow 75 = .ok (.iadd, 1) := by decide +kernel
theorem dX8_readsRow_76 : decode cX8_readsRow 76 = .ok (.baload, 1) := by decide +kernel
theorem dX8_readsRow_77 : decode cX8_readsRow 77 = .ok (.bipush 35, 2) := by decide +kernel
theorem dX8_readsRow_79 : decode cX8_readsRow 79 = .ok (.if_icmp .ne 7, 3) := by decide +kernel
theorem dX8_readsRow_82 : decode cX8_readsRow 82 = .ok (.iconst 1, 1) := by decide +kernel
theorem dX8_readsRow_83 : decode cX8_readsRow 83 = .ok (.goto 4, 3) := by decide +kernel
theorem dX8_readsRow_86 : decode cX8_readsRow 86 = .ok (.iconst 0, 1) := by decide +kernel
theorem dX8_readsRow_87 : decode cX8_readsRow 87 = .ok (.iastore, 1) := by decide +kernel
theorem dX8_readsRow_88 : decode cX8_readsRow 88 = .ok (.iinc 1 1, 3) := by decide +kernel
theorem dX8_readsRow_91 : decode cX8_readsRow 91 = .ok (.goto (-45), 3) := by decide +kernel
theorem dX8_readsRow_94 : decode cX8_readsRow 94 = .ok (.aload_n 0, 1) := by decide +kernel
theorem dX8_readsRow_95 : decode cX8_readsRow 95 = .ok (.invokevirtual 326, 3) := by decide +kernel
theorem dX8_readsRow_98 : decode cX8_readsRow 98 = .ok (.return_, 1) := by decide +kernel
theorem dX8_readsAlone_0 : decode cX8_readsAlone 0 = .ok (.iconst 0, 1) := by decide +kernel
theorem dX8_readsAlone_1 : decode cX8_readsAlone 1 = .ok (.istore_n 1, 1) := by decide +kernel
theorem dX8_readsAlone_2 : decode cX8_readsAlone 2 = .ok (.iconst 0, 1) := by decide +kernel
theorem dX8_readsAlone_3 : decode cX8_readsAlone 3 = .ok (.istore_n 2, 1) := by decide +kernel
theorem dX8_readsAlone_4 : decode cX8_readsAlone 4 = .ok (.iconst 1, 1) := by decide +kernel
theorem dX8_readsAlone_5 : decode cX8_readsAlone 5 = .ok (.istore_n 3, 1) := by decide +kernel
theorem dX8_readsAlone_6 : decode cX8_readsAlone 6 = .ok (.iload_n 3, 1) := by decide +kernel
theorem dX8_readsAlone_7 : decode cX8_readsAlone 7 = .ok (.ifCond .ne 18, 3) := by decide +kernel
theorem dX8_readsAlone_10 : decode cX8_readsAlone 10 = .ok (.aload_n 0, 1) := by decide +kernel
theorem dX8_readsAlone_11 : decode cX8_readsAlone 11 = .ok (.getfield 313, 3) := by decide +kernel
theorem dX8_readsAlone_14 : decode cX8_readsAlone 14 = .ok (.ifCond .ne 86, 3) := by decide +kernel
theorem dX8_readsAlone_17 : decode cX8_readsAlone 17 = .ok (.aload_n 0, 1) := by decide +kernel
theorem dX8_readsAlone_18 : decode cX8_readsAlone 18 = .ok (.getfield 307, 3) := by decide +kernel
theorem dX8_readsAlone_21 : decode cX8_readsAlone 21 = .ok (.iconst 2, 1) := by decide +kernel
theorem dX8_readsAlone_22 : decode cX8_readsAlone 22 = .ok (.if_icmp .ne 78, 3) := by decide +kernel
theorem dX8_readsAlone_25 : decode cX8_readsAlone 25 = .ok (.aload_n 0, 1) := by decide +kernel
theorem dX8_readsAlone_26 : decode cX8_readsAlone 26 = .ok (.iload_n 3, 1) := by decide +kernel
theorem dX8_readsAlone_27 : decode cX8_readsAlone 27 = .ok (.ifCond .eq 7, 3) := by decide +kernel
theorem dX8_readsAlone_30 : decode cX8_readsAlone 30 = .ok (.iconst 0, 1) := by decide +kernel
theorem dX8_readsAlone_31 : decode cX8_readsAlone 31 = .ok (.goto 4, 3) := by decide +kernel
theorem dX8_readsAlone_34 : decode cX8_readsAlone 34 = .ok (.iconst 1, 1) := by decide +kernel
theorem dX8_readsAlone_35 : decode cX8_readsAlone 35 = .ok (.aload_n 0, 1) := by decide +kernel
theorem dX8_readsAlone_36 : decode cX8_readsAlone 36 = .ok (.getfield 93, 3) := by decide +kernel
theorem dX8_readsAlone_39 : decode cX8_readsAlone 39 = .ok (.invokevirtual 323, 3) := by decide +kernel
theorem dX8_readsAlone_42 : decode cX8_readsAlone 42 = .ok (.istore 4, 2) := by decide +kernel
theorem dX8_readsAlone_44 : decode cX8_readsAlone 44 = .ok (.aload_n 0, 1) := by decide +kernel
theorem dX8_readsAlone_45 : decode cX8_readsAlone 45 = .ok (.iload_n 1, 1) := by decide +kernel
theorem dX8_readsAlone_46 : decode cX8_readsAlone 46 = .ok (.iload 4, 2) := by decide +kernel
theorem dX8_readsAlone_48 : decode cX8_readsAlone 48 = .ok (.iadd, 1) := by decide +kernel
theorem dX8_readsAlone_49 : decode cX8_readsAlone 49 = .ok (.aload_n 0, 1) := by decide +kernel
theorem dX8_readsAlone_50 : decode cX8_readsAlone 50 = .ok (.getfield 93, 3) := by decide +kernel
theorem dX8_readsAlone_53 : decode cX8_readsAlone 53 = .ok (.if_icmp .gt 7, 3) := by decide +kernel
theorem dX8_readsAlone_56 : decode cX8_readsAlone 56 = .ok (.iconst 1, 1) := by decide +kernel
theorem dX8_readsAlone_57 : decode cX8_readsAlone 57 = .ok (.goto 4, 3) := by decide +kernel
theorem dX8_readsAlone_60 : decode cX8_readsAlone 60 = .ok (.iconst 0, 1) := by decide +kernel
theorem dX8_readsAlone_61 : decode cX8_readsAlone 61 = .ok (.iconst 4, 1) := by decide +kernel
theorem dX8_readsAlone_62 : decode cX8_readsAlone 62 = .ok (.invokevirtual 319, 3) := by decide +kernel
theorem dX8_readsAlone_65 : decode cX8_readsAlone 65 = .ok (.aload_n 0, 1) := by decide +kernel
theorem dX8_readsAlone_66 : decode cX8_readsAlone 66 = .ok (.getfield 313, 3) := by decide +kernel
theorem dX8_readsAlone_69 : decode cX8_readsAlone 69 = .ok (.ifCond .ne 22, 3) := by decide +kernel
theorem dX8_readsAlone_72 : decode cX8_readsAlone 72 = .ok (.aload_n 0, 1) := by decide +kernel
theorem dX8_readsAlone_73 : decode cX8_readsAlone 73 = .ok (.iload_n 1, 1) := by decide +kernel
theorem dX8_readsAlone_74 : decode cX8_readsAlone 74 = .ok (.iload_n 1, 1) := by decide +kernel
theorem dX8_readsAlone_75 : decode cX8_readsAlone 75 = .ok (.iload 4, 2) := by decide +kernel
theorem dX8_readsAlone_77 : decode cX8_readsAlone 77 = .ok (.iadd, 1) := by decide +kernel
theorem dX8_readsAlone_78 : decode cX8_readsAlone 78 = .ok (.iload_n 2, 1) := by decide +kernel
theorem dX8_readsAlone_79 : decode cX8_readsAlone 79 = .ok (.invokevirtual 141, 3) := by decide +kernel
theorem dX8_readsAlone_82 : decode cX8_readsAlone 82 = .ok (.iload_n 1, 1) := by decide +kernel
theorem dX8_readsAlone_83 : decode cX8_readsAlone 83 = .ok (.iload 4, 2) := by decide +kernel
theorem dX8_readsAlone_85 : decode cX8_readsAlone 85 = .ok (.iadd, 1) := by decide +kernel
theorem dX8_readsAlone_86 : decode cX8_readsAlone 86 = .ok (.istore_n 1, 1) := by decide +kernel
theorem dX8_readsAlone_87 : decode cX8_readsAlone 87 = .ok (.iconst 1, 1) := by decide +kernel
theorem dX8_readsAlone_88 : decode cX8_readsAlone 88 = .ok (.iload_n 2, 1) := by decide +kernel
theorem dX8_readsAlone_89 : decode cX8_readsAlone 89 = .ok (.isub, 1) := by decide +kernel
theorem dX8_readsAlone_90 : decode cX8_readsAlone 90 = .ok (.istore_n 2, 1) := by decide +kernel
theorem dX8_readsAlone_91 : decode cX8_readsAlone 91 = .ok (.aload_n 0, 1) := by decide +kernel
theorem dX8_readsAlone_92 : decode cX8_readsAlone 92 = .ok (.invokevirtual 326, 3) := by decide +kernel
theorem dX8_readsAlone_95 : decode cX8_readsAlone 95 = .ok (.iconst 0, 1) := by decide +kernel
theorem dX8_readsAlone_96 : decode cX8_readsAlone 96 = .ok (.istore_n 3, 1) := by decide +kernel
theorem dX8_readsAlone_97 : decode cX8_readsAlone 97 = .ok (.goto (-91), 3) := by decide +kernel
theorem dX8_readsAlone_100 : decode cX8_readsAlone 100 = .ok (.aload_n 0, 1) := by decide +kernel
theorem dX8_readsAlone_101 : decode cX8_readsAlone 101 = .ok (.aload_n 0, 1) := by decide +kernel
theorem dX8_readsAlone_102 : decode cX8_readsAlone 102 = .ok (.getfield 307, 3) := by decide +kernel
theorem dX8_readsAlone_105 : decode cX8_readsAlone 105 = .ok (.iconst 4, 1) := by decide +kernel
theorem dX8_readsAlone_106 : decode cX8_readsAlone 106 = .ok (.if_icmp .ne 7, 3) := by decide +kernel
theorem dX8_readsAlone_109 : decode cX8_readsAlone 109 = .ok (.iconst 1, 1) := by decide +kernel
theorem dX8_readsAlone_110 : decode cX8_readsAlone 110 = .ok (.goto 4, 3) := by decide +kernel
theorem dX8_readsAlone_113 : decode cX8_readsAlone 113 = .ok (.iconst 0, 1) := by decide +kernel
theorem dX8_readsAlone_114 : decode cX8_readsAlone 114 = .ok (.iconst 1, 1) := by decide +kernel
theorem dX8_readsAlone_115 : decode cX8_readsAlone 115 = .ok (.invokevirtual 319, 3) := by decide +kernel
theorem dX8_readsAlone_118 : decode cX8_readsAlone 118 = .ok (.aload_n 0, 1) := by decide +kernel
theorem dX8_readsAlone_119 : decode cX8_readsAlone 119 = .ok (.iload_n 1, 1) := by decide +kernel
theorem dX8_readsAlone_120 : decode cX8_readsAlone 120 = .ok (.aload_n 0, 1) := by decide +kernel
theorem dX8_readsAlone_121 : decode cX8_readsAlone 121 = .ok (.getfield 93, 3) := by decide +kernel
theorem dX8_readsAlone_124 : decode cX8_readsAlone 124 = .ok (.if_icmp .ne 7, 3) := by decide +kernel
theorem dX8_readsAlone_127 : decode cX8_readsAlone 127 = .ok (.iconst 1, 1) := by decide +kernel
theorem dX8_readsAlone_128 : decode cX8_readsAlone 128 = .ok (.goto 4, 3) := by decide +kernel
theorem dX8_readsAlone_131 : decode cX8_readsAlone 131 = .ok (.iconst 0, 1) := by decide +kernel
theorem dX8_readsAlone_132 : decode cX8_readsAlone 132 = .ok (.iconst 3, 1) := by decide +kernel
theorem dX8_readsAlone_133 : decode cX8_readsAlone 133 = .ok (.invokevirtual 319, 3) := by decide +kernel
theorem dX8_readsAlone_136 : decode cX8_readsAlone 136 = .ok (.return_, 1) := by decide +kernel
theorem dX8_readsOne_0 : decode cX8_readsOne 0 = .ok (.aload_n 0, 1) := by decide +kernel
theorem dX8_readsOne_1 : decode cX8_readsOne 1 = .ok (.invokevirtual 329, 3) := by decide +kernel
theorem dX8_readsOne_4 : decode cX8_readsOne 4 = .ok (.bipush 6, 2) := by decide +kernel
theorem dX8_readsOne_6 : decode cX8_readsOne 6 = .ok (.isub, 1) := by decide +kernel
theorem dX8_readsOne_7 : decode cX8_readsOne 7 = .ok (.istore_n 1, 1) := by decide +kernel
theorem dX8_readsOne_8 : decode cX8_readsOne 8 = .ok (.aload_n 0, 1) := by decide +kernel
theorem dX8_readsOne_9 : decode cX8_readsOne 9 = .ok (.aload_n 0, 1) := by decide +kernel
theorem dX8_readsOne_10 : decode cX8_readsOne 10 = .ok (.getfield 135, 3) := by decide +kernel
theorem dX8_readsOne_13 : decode cX8_readsOne 13 = .ok (.aload_n 0, 1) := by decide +kernel
theorem dX8_readsOne_14 : decode cX8_readsOne 14 = .ok (.getfield 93, 3) := by decide +kernel
theorem dX8_readsOne_17 : decode cX8_readsOne 17 = .ok (.if_icmp .ge 7, 3) := by decide +kernel
theorem dX8_readsOne_20 : decode cX8_readsOne 20 = .ok (.iconst 1, 1) := by decide +kernel
theorem dX8_readsOne_21 : decode cX8_readsOne 21 = .ok (.goto 4, 3) := by decide +kernel
theorem dX8_readsOne_24 : decode cX8_readsOne 24 = .ok (.iconst 0, 1) := by decide +kernel
theorem dX8_readsOne_25 : decode cX8_readsOne 25 = .ok (.iconst 4, 1) := by decide +kernel
theorem dX8_readsOne_26 : decode cX8_readsOne 26 = .ok (.invokevirtual 319, 3) := by decide +kernel
theorem dX8_readsOne_29 : decode cX8_readsOne 29 = .ok (.aload_n 0, 1) := by decide +kernel
theorem dX8_readsOne_30 : decode cX8_readsOne 30 = .ok (.getfield 301, 3) := by decide +kernel
theorem dX8_readsOne_33 : decode cX8_readsOne 33 = .ok (.istore_n 2, 1) := by decide +kernel
theorem dX8_readsOne_34 : decode cX8_readsOne 34 = .ok (.aload_n 0, 1) := by decide +kernel
theorem dX8_readsOne_35 : decode cX8_readsOne 35 = .ok (.invokevirtual 326, 3) := by decide +kernel
theorem dX8_readsOne_38 : decode cX8_readsOne 38 = .ok (.aload_n 0, 1) := by decide +kernel
theorem dX8_readsOne_39 : decode cX8_readsOne 39 = .ok (.getfield 313, 3) := by decide +kernel
theorem dX8_readsOne_42 : decode cX8_readsOne 42 = .ok (.ifCond .ne 20, 3) := by decide +kernel
theorem dX8_readsOne_45 : decode cX8_readsOne 45 = .ok (.iload_n 1, 1) := by decide +kernel
theorem dX8_readsOne_46 : decode cX8_readsOne 46 = .ok (.iconst 1, 1) := by decide +kernel
theorem dX8_readsOne_47 : decode cX8_readsOne 47 = .ok (.if_icmp .ne 15, 3) := by decide +kernel
theorem dX8_readsOne_50 : decode cX8_readsOne 50 = .ok (.aload_n 0, 1) := by decide +kernel
theorem dX8_readsOne_51 : decode cX8_readsOne 51 = .ok (.getfield 307, 3) := by decide +kernel
theorem dX8_readsOne_54 : decode cX8_readsOne 54 = .ok (.iconst 5, 1) := by decide +kernel
theorem dX8_readsOne_55 : decode cX8_readsOne 55 = .ok (.if_icmp .ne 7, 3) := by decide +kernel
theorem dX8_readsOne_58 : decode cX8_readsOne 58 = .ok (.iconst 1, 1) := by decide +kernel
theorem dX8_readsOne_59 : decode cX8_readsOne 59 = .ok (.goto 4, 3) := by decide +kernel
theorem dX8_readsOne_62 : decode cX8_readsOne 62 = .ok (.iconst 0, 1) := by decide +kernel
theorem dX8_readsOne_63 : decode cX8_readsOne 63 = .ok (.istore_n 3, 1) := by decide +kernel
theorem dX8_readsOne_64 : decode cX8_readsOne 64 = .ok (.iload_n 3, 1) := by decide +kernel
theorem dX8_readsOne_65 : decode cX8_readsOne 65 = .ok (.ifCond .eq 7, 3) := by decide +kernel
theorem dX8_readsOne_68 : decode cX8_readsOne 68 = .ok (.aload_n 0, 1) := by decide +kernel
theorem dX8_readsOne_69 : decode cX8_readsOne 69 = .ok (.invokevirtual 326, 3) := by decide +kernel
theorem dX8_readsOne_72 : decode cX8_readsOne 72 = .ok (.iload_n 1, 1) := by decide +kernel
theorem dX8_readsOne_73 : decode cX8_readsOne 73 = .ok (.ifCond .ne 7, 3) := by decide +kernel
theorem dX8_readsOne_76 : decode cX8_readsOne 76 = .ok (.iconst 0, 1) := by decide +kernel
theorem dX8_readsOne_77 : decode cX8_readsOne 77 = .ok (.goto 26, 3) := by decide +kernel
theorem dX8_readsOne_80 : decode cX8_readsOne 80 = .ok (.iload_n 1, 1) := by decide +kernel
theorem dX8_readsOne_81 : decode cX8_readsOne 81 = .ok (.iconst 1, 1) := by decide +kernel
theorem dX8_readsOne_82 : decode cX8_readsOne 82 = .ok (.if_icmp .ne 12, 3) := by decide +kernel
theorem dX8_readsOne_85 : decode cX8_readsOne 85 = .ok (.aload_n 0, 1) := by decide +kernel
theorem dX8_readsOne_86 : decode cX8_readsOne 86 = .ok (.iconst 0, 1) := by decide +kernel
theorem dX8_readsOne_87 : decode cX8_readsOne 87 = .ok (.iconst 3, 1) := by decide +kernel
theorem dX8_readsOne_88 : decode cX8_readsOne 88 = .ok (.invokevirtual 332, 3) := by decide +kernel
theorem dX8_readsOne_91 : decode cX8_readsOne 91 = .ok (.goto 12, 3) := by decide +kernel
theorem dX8_readsOne_94 : decode cX8_readsOne 94 = .ok (.aload_n 0, 1) := by decide +kernel
theorem dX8_readsOne_95 : decode cX8_readsOne 95 = .ok (.iconst 0, 1) := by decide +kernel
theorem dX8_readsOne_96 : decode cX8_readsOne 96 = .ok (.aload_n 0, 1) := by decide +kernel
theorem dX8_readsOne_97 : decode cX8_readsOne 97 = .ok (.getfield 93, 3) := by decide +kernel
theorem dX8_readsOne_100 : decode cX8_readsOne 100 = .ok (.invokevirtual 332, 3) := by decide +kernel
theorem dX8_readsOne_103 : decode cX8_readsOne 103 = .ok (.istore 4, 2) := by decide +kernel
theorem dX8_readsOne_105 : decode cX8_readsOne 105 = .ok (.iload_n 1, 1) := by decide +kernel
theorem dX8_readsOne_106 : decode cX8_readsOne 106 = .ok (.iconst 2, 1) := by decide +kernel
theorem dX8_readsOne_107 : decode cX8_readsOne 107 = .ok (.if_icmp .ne 15, 3) := by decide +kernel
theorem dX8_readsOne_110 : decode cX8_readsOne 110 = .ok (.aload_n 0, 1) := by decide +kernel
theorem dX8_readsOne_111 : decode cX8_readsOne 111 = .ok (.iconst 0, 1) := by decide +kernel
theorem dX8_readsOne_112 : decode cX8_readsOne 112 = .ok (.aload_n 0, 1) := by decide +kernel
theorem dX8_readsOne_113 : decode cX8_readsOne 113 = .ok (.getfield 93, 3) := by decide +kernel
theorem dX8_readsOne_116 : decode cX8_readsOne 116 = .ok (.invokevirtual 332, 3) := by decide +kernel
theorem dX8_readsOne_119 : decode cX8_readsOne 119 = .ok (.goto 4, 3) := by decide +kernel
theorem dX8_readsOne_122 : decode cX8_readsOne 122 = .ok (.iconst 0, 1) := by decide +kernel
theorem dX8_readsOne_123 : decode cX8_readsOne 123 = .ok (.istore 5, 2) := by decide +kernel
theorem dX8_readsOne_125 : decode cX8_readsOne 125 = .ok (.aload_n 0, 1) := by decide +kernel
theorem dX8_readsOne_126 : decode cX8_readsOne 126 = .ok (.getfield 313, 3) := by decide +kernel
theorem dX8_readsOne_129 : decode cX8_readsOne 129 = .ok (.ifCond .ne 35, 3) := by decide +kernel
theorem dX8_readsOne_132 : decode cX8_readsOne 132 = .ok (.aload_n 0, 1) := by decide +kernel
theorem dX8_readsOne_133 : decode cX8_readsOne 133 = .ok (.iload_n 1, 1) := by decide +kernel
theorem dX8_readsOne_134 : decode cX8_readsOne 134 = .ok (.iload_n 3, 1) := by decide +kernel
theorem dX8_readsOne_135 : decode cX8_readsOne 135 = .ok (.ifCond .eq 9, 3) := by decide +kernel
theorem dX8_readsOne_138 : decode cX8_readsOne 138 = .ok (.iload 4, 2) := by decide +kernel
theorem dX8_readsOne_140 : decode cX8_readsOne 140 = .ok (.ineg, 1) := by decide +kernel
theorem dX8_readsOne_141 : decode cX8_readsOne 141 = .ok (.goto 5, 3) := by decide +kernel
theorem dX8_readsOne_144 : decode cX8_readsOne 144 = .ok (.iload 4, 2) := by decide +kernel
theorem dX8_readsOne_146 : decode cX8_readsOne 146 = .ok (.iload 5, 2) := by decide +kernel
theorem dX8_readsOne_148 : decode cX8_readsOne 148 = .ok (.invokevirtual 148, 3) := by decide +kernel
theorem dX8_readsOne_151 : decode cX8_readsOne 151 = .ok (.ifCond .ne 13, 3) := by decide +kernel
theorem dX8_readsOne_154 : decode cX8_readsOne 154 = .ok (.aload_n 0, 1) := by decide +kernel
theorem dX8_readsOne_155 : decode cX8_readsOne 155 = .ok (.iconst 4, 1) := by decide +kernel
theorem dX8_readsOne_156 : decode cX8_readsOne 156 = .ok (.putfield 313, 3) := by decide +kernel
theorem dX8_readsOne_159 : decode cX8_readsOne 159 = .ok (.aload_n 0, 1) := by decide +kernel
theorem dX8_readsOne_160 : decode cX8_readsOne 160 = .ok (.iload_n 2, 1) := by decide +kernel
theorem dX8_readsOne_161 : decode cX8_readsOne 161 = .ok (.putfield 72, 3) := by decide +kernel
theorem dX8_readsOne_164 : decode cX8_readsOne 164 = .ok (.return_, 1) := by decide +kernel
theorem dX8_readsAbove_0 : decode cX8_readsAbove 0 = .ok (.aload_n 0, 1) := by decide +kernel
theorem dX8_readsAbove_1 : decode cX8_readsAbove 1 = .ok (.getfield 313, 3) := by decide +kernel
theorem dX8_readsAbove_4 : decode cX8_readsAbove 4 = .ok (.ifCond .ne 24, 3) := by decide +kernel
theorem dX8_readsAbove_7 : decode cX8_readsAbove 7 = .ok (.aload_n 0, 1) := by decide +kernel
theorem dX8_readsAbove_8 : decode cX8_readsAbove 8 = .ok (.invokevirtual 329, 3) := by decide +kernel
theorem dX8_readsAbove_11 : decode cX8_readsAbove 11 = .ok (.bipush 6, 2) := by decide +kernel
theorem dX8_readsAbove_13 : decode cX8_readsAbove 13 = .ok (.bipush 8, 2) := by decide +kernel
theorem dX8_readsAbove_15 : decode cX8_readsAbove 15 = .ok (.invokestatic 124, 3) := by decide +kernel
theorem dX8_readsAbove_18 : decode cX8_readsAbove 18 = .ok (.ifCond .eq 10, 3) := by decide +kernel
theorem dX8_readsAbove_21 : decode cX8_readsAbove 21 = .ok (.aload_n 0, 1) := by decide +kernel
theorem dX8_readsAbove_22 : decode cX8_readsAbove 22 = .ok (.invokevirtual 335, 3) := by decide +kernel
theorem dX8_readsAbove_25 : decode cX8_readsAbove 25 = .ok (.goto (-25), 3) := by decide +kernel
theorem dX8_readsAbove_28 : decode cX8_readsAbove 28 = .ok (.aload_n 0, 1) := by decide +kernel
theorem dX8_readsAbove_29 : decode cX8_readsAbove 29 = .ok (.aload_n 0, 1) := by decide +kernel
theorem dX8_readsAbove_30 : decode cX8_readsAbove 30 = .ok (.getfield 307, 3) := by decide +kernel
theorem dX8_readsAbove_33 : decode cX8_readsAbove 33 = .ok (.iconst 4, 1) := by decide +kernel
theorem dX8_readsAbove_34 : decode cX8_readsAbove 34 = .ok (.if_icmp .ne 7, 3) := by decide +kernel
theorem dX8_readsAbove_37 : decode cX8_readsAbove 37 = .ok (.iconst 1, 1) := by decide +kernel
theorem dX8_readsAbove_38 : decode cX8_readsAbove 38 = .ok (.goto 4, 3) := by decide +kernel
theorem dX8_readsAbove_41 : decode cX8_readsAbove 41 = .ok (.iconst 0, 1) := by decide +kernel
theorem dX8_readsAbove_42 : decode cX8_readsAbove 42 = .ok (.iconst 1, 1) := by decide +kernel
theorem dX8_readsAbove_43 : decode cX8_readsAbove 43 = .ok (.invokevirtual 319, 3) := by decide +kernel
theorem dX8_readsAbove_46 : decode cX8_readsAbove 46 = .ok (.aload_n 0, 1) := by decide +kernel
theorem dX8_readsAbove_47 : decode cX8_readsAbove 47 = .ok (.aload_n 0, 1) := by decide +kernel
theorem dX8_readsAbove_48 : decode cX8_readsAbove 48 = .ok (.getfield 135, 3) := by decide +kernel
theorem dX8_readsAbove_51 : decode cX8_readsAbove 51 = .ok (.aload_n 0, 1) := by decide +kernel
theorem dX8_readsAbove_52 : decode cX8_readsAbove 52 = .ok (.getfield 93, 3) := by decide +kernel
theorem dX8_readsAbove_55 : decode cX8_readsAbove 55 = .ok (.if_icmp .ne 7, 3) := by decide +kernel
theorem dX8_readsAbove_58 : decode cX8_readsAbove 58 = .ok (.iconst 1, 1) := by decide +kernel
theorem dX8_readsAbove_59 : decode cX8_readsAbove 59 = .ok (.goto 4, 3) := by decide +kernel
theorem dX8_readsAbove_62 : decode cX8_readsAbove 62 = .ok (.iconst 0, 1) := by decide +kernel
theorem dX8_readsAbove_63 : decode cX8_readsAbove 63 = .ok (.iconst 3, 1) := by decide +kernel
theorem dX8_readsAbove_64 : decode cX8_readsAbove 64 = .ok (.invokevirtual 319, 3) := by decide +kernel
theorem dX8_readsAbove_67 : decode cX8_readsAbove 67 = .ok (.return_, 1) := by decide +kernel
theorem dX8_readsSetting_0 : decode cX8_readsSetting 0 = .ok (.aload_n 0, 1) := by decide +kernel
theorem dX8_readsSetting_1 : decode cX8_readsSetting 1 = .ok (.iconst 0, 1) := by decide +kernel
theorem dX8_readsSetting_2 : decode cX8_readsSetting 2 = .ok (.iconst 5, 1) := by decide +kernel
theorem dX8_readsSetting_3 : decode cX8_readsSetting 3 = .ok (.invokevirtual 332, 3) := by decide +kernel
theorem dX8_readsSetting_6 : decode cX8_readsSetting 6 = .ok (.istore_n 1, 1) := by decide +kernel
theorem dX8_readsSetting_7 : decode cX8_readsSetting 7 = .ok (.aload_n 0, 1) := by decide +kernel
theorem dX8_readsSetting_8 : decode cX8_readsSetting 8 = .ok (.iload_n 1, 1) := by decide +kernel
theorem dX8_readsSetting_9 : decode cX8_readsSetting 9 = .ok (.ifCond .ne 7, 3) := by decide +kernel
theorem dX8_readsSetting_12 : decode cX8_readsSetting 12 = .ok (.iconst 1, 1) := by decide +kernel
theorem dX8_readsSetting_13 : decode cX8_readsSetting 13 = .ok (.goto 4, 3) := by decide +kernel
theorem dX8_readsSetting_16 : decode cX8_readsSetting 16 = .ok (.iconst 0, 1) := by decide +kernel
theorem dX8_readsSetting_17 : decode cX8_readsSetting 17 = .ok (.iload_n 1, 1) := by decide +kernel
theorem dX8_readsSetting_18 : decode cX8_readsSetting 18 = .ok (.invokestatic 221, 3) := by decide +kernel
theorem dX8_readsSetting_21 : decode cX8_readsSetting 21 = .ok (.invokevirtual 332, 3) := by decide +kernel
theorem dX8_readsSetting_24 : decode cX8_readsSetting 24 = .ok (.istore_n 2, 1) := by decide +kernel
theorem dX8_readsSetting_25 : decode cX8_readsSetting 25 = .ok (.aload_n 0, 1) := by decide +kernel
theorem dX8_readsSetting_26 : decode cX8_readsSetting 26 = .ok (.getfield 13, 3) := by decide +kernel
theorem dX8_readsSetting_29 : decode cX8_readsSetting 29 = .ok (.iconst 2, 1) := by decide +kernel
theorem dX8_readsSetting_30 : decode cX8_readsSetting 30 = .ok (.iload_n 1, 1) := by decide +kernel
theorem dX8_readsSetting_31 : decode cX8_readsSetting 31 = .ok (.iadd, 1) := by decide +kernel
theorem dX8_readsSetting_32 : decode cX8_readsSetting 32 = .ok (.aload_n 0, 1) := by decide +kernel
theorem dX8_readsSetting_33 : decode cX8_readsSetting 33 = .ok (.getfield 313, 3) := by decide +kernel
theorem dX8_readsSetting_36 : decode cX8_readsSetting 36 = .ok (.ifCond .ne 7, 3) := by decide +kernel
theorem dX8_readsSetting_39 : decode cX8_readsSetting 39 = .ok (.iload_n 2, 1) := by decide +kernel
theorem dX8_readsSetting_40 : decode cX8_readsSetting 40 = .ok (.goto 11, 3) := by decide +kernel
theorem dX8_readsSetting_43 : decode cX8_readsSetting 43 = .ok (.aload_n 0, 1) := by decide +kernel
theorem dX8_readsSetting_44 : decode cX8_readsSetting 44 = .ok (.getfield 13, 3) := by decide +kernel
theorem dX8_readsSetting_47 : decode cX8_readsSetting 47 = .ok (.iconst 2, 1) := by decide +kernel
theorem dX8_readsSetting_48 : decode cX8_readsSetting 48 = .ok (.iload_n 1, 1) := by decide +kernel
theorem dX8_readsSetting_49 : decode cX8_readsSetting 49 = .ok (.iadd, 1) := by decide +kernel
theorem dX8_readsSetting_50 : decode cX8_readsSetting 50 = .ok (.iaload, 1) := by decide +kernel
theorem dX8_readsSetting_51 : decode cX8_readsSetting 51 = .ok (.iastore, 1) := by decide +kernel
theorem dX8_readsSetting_52 : decode cX8_readsSetting 52 = .ok (.return_, 1) := by decide +kernel
theorem dX8_readsLoss_0 : decode cX8_readsLoss 0 = .ok (.aload_n 0, 1) := by decide +kernel
theorem dX8_readsLoss_1 : decode cX8_readsLoss 1 = .ok (.iconst 0, 1) := by decide +kernel
theorem dX8_readsLoss_2 : decode cX8_readsLoss 2 = .ok (.bipush 19, 2) := by decide +kernel
theorem dX8_readsLoss_4 : decode cX8_readsLoss 4 = .ok (.invokevirtual 332, 3) := by decide +kernel
theorem dX8_readsLoss_7 : decode cX8_readsLoss 7 = .ok (.istore_n 1, 1) := by decide +kernel
theorem dX8_readsLoss_8 : decode cX8_readsLoss 8 = .ok (.aload_n 0, 1) := by decide +kernel
theorem dX8_readsLoss_9 : decode cX8_readsLoss 9 = .ok (.iconst 0, 1) := by decide +kernel
theorem dX8_readsLoss_10 : decode cX8_readsLoss 10 = .ok (.iconst 5, 1) := by decide +kernel
theorem dX8_readsLoss_11 : decode cX8_readsLoss 11 = .ok (.invokevirtual 332, 3) := by decide +kernel
theorem dX8_readsLoss_14 : decode cX8_readsLoss 14 = .ok (.istore_n 2, 1) := by decide +kernel
theorem dX8_readsLoss_15 : decode cX8_readsLoss 15 = .ok (.aload_n 0, 1) := by decide +kernel
theorem dX8_readsLoss_16 : decode cX8_readsLoss 16 = .ok (.getfield 13, 3) := by decide +kernel
theorem dX8_readsLoss_19 : decode cX8_readsLoss 19 = .ok (.bipush 8, 2) := by decide +kernel
theorem dX8_readsLoss_21 : decode cX8_readsLoss 21 = .ok (.iload_n 1, 1) := by decide +kernel
theorem dX8_readsLoss_22 : decode cX8_readsLoss 22 = .ok (.iadd, 1) := by decide +kernel
theorem dX8_readsLoss_23 : decode cX8_readsLoss 23 = .ok (.aload_n 0, 1) := by decide +kernel
theorem dX8_readsLoss_24 : decode cX8_readsLoss 24 = .ok (.getfield 313, 3) := by decide +kernel
theorem dX8_readsLoss_27 : decode cX8_readsLoss 27 = .ok (.ifCond .ne 7, 3) := by decide +kernel
theorem dX8_readsLoss_30 : decode cX8_readsLoss 30 = .ok (.iload_n 2, 1) := by decide +kernel
theorem dX8_readsLoss_31 : decode cX8_readsLoss 31 = .ok (.goto 12, 3) := by decide +kernel
theorem dX8_readsLoss_34 : decode cX8_readsLoss 34 = .ok (.aload_n 0, 1) := by decide +kernel
theorem dX8_readsLoss_35 : decode cX8_readsLoss 35 = .ok (.getfield 13, 3) := by decide +kernel
theorem dX8_readsLoss_38 : decode cX8_readsLoss 38 = .ok (.bipush 8, 2) := by decide +kernel
theorem dX8_readsLoss_40 : decode cX8_readsLoss 40 = .ok (.iload_n 1, 1) := by decide +kernel
theorem dX8_readsLoss_41 : decode cX8_readsLoss 41 = .ok (.iadd, 1) := by decide +kernel
theorem dX8_readsLoss_42 : decode cX8_readsLoss 42 = .ok (.iaload, 1) := by decide +kernel
theorem dX8_readsLoss_43 : decode cX8_readsLoss 43 = .ok (.iastore, 1) := by decide +kernel
theorem dX8_readsLoss_44 : decode cX8_readsLoss 44 = .ok (.return_, 1) := by decide +kernel
theorem dX8_readsLine_0 : decode cX8_readsLine 0 = .ok (.aload_n 0, 1) := by decide +kernel
theorem dX8_readsLine_1 : decode cX8_readsLine 1 = .ok (.invokevirtual 338, 3) := by decide +kernel
theorem dX8_readsLine_4 : decode cX8_readsLine 4 = .ok (.iload_n 1, 1) := by decide +kernel
theorem dX8_readsLine_5 : decode cX8_readsLine 5 = .ok (.ifCond .ne 10, 3) := by decide +kernel
theorem dX8_readsLine_8 : decode cX8_readsLine 8 = .ok (.aload_n 0, 1) := by decide +kernel
theorem dX8_readsLine_9 : decode cX8_readsLine 9 = .ok (.invokevirtual 341, 3) := by decide +kernel
theorem dX8_readsLine_12 : decode cX8_readsLine 12 = .ok (.goto 19, 3) := by decide +kernel
theorem dX8_readsLine_15 : decode cX8_readsLine 15 = .ok (.iload_n 1, 1) := by decide +kernel
theorem dX8_readsLine_16 : decode cX8_readsLine 16 = .ok (.iconst 1, 1) := by decide +kernel
theorem dX8_readsLine_17 : decode cX8_readsLine 17 = .ok (.if_icmp .ne 10, 3) := by decide +kernel
theorem dX8_readsLine_20 : decode cX8_readsLine 20 = .ok (.aload_n 0, 1) := by decide +kernel
theorem dX8_readsLine_21 : decode cX8_readsLine 21 = .ok (.invokevirtual 344, 3) := by decide +kernel
theorem dX8_readsLine_24 : decode cX8_readsLine 24 = .ok (.goto 7, 3) := by decide +kernel
theorem dX8_readsLine_27 : decode cX8_readsLine 27 = .ok (.aload_n 0, 1) := by decide +kernel
theorem dX8_readsLine_28 : decode cX8_readsLine 28 = .ok (.invokevirtual 347, 3) := by decide +kernel
theorem dX8_readsLine_31 : decode cX8_readsLine 31 = .ok (.aload_n 0, 1) := by decide +kernel
theorem dX8_readsLine_32 : decode cX8_readsLine 32 = .ok (.aload_n 0, 1) := by decide +kernel
theorem dX8_readsLine_33 : decode cX8_readsLine 33 = .ok (.getfield 307, 3) := by decide +kernel
theorem dX8_readsLine_36 : decode cX8_readsLine 36 = .ok (.iconst 4, 1) := by decide +kernel
theorem dX8_readsLine_37 : decode cX8_readsLine 37 = .ok (.if_icmp .ne 7, 3) := by decide +kernel
theorem dX8_readsLine_40 : decode cX8_readsLine 40 = .ok (.iconst 1, 1) := by decide +kernel
theorem dX8_readsLine_41 : decode cX8_readsLine 41 = .ok (.goto 4, 3) := by decide +kernel
theorem dX8_readsLine_44 : decode cX8_readsLine 44 = .ok (.iconst 0, 1) := by decide +kernel
theorem dX8_readsLine_45 : decode cX8_readsLine 45 = .ok (.iconst 1, 1) := by decide +kernel
theorem dX8_readsLine_46 : decode cX8_readsLine 46 = .ok (.invokevirtual 319, 3) := by decide +kernel
theorem dX8_readsLine_49 : decode cX8_readsLine 49 = .ok (.aload_n 0, 1) := by decide +kernel
theorem dX8_readsLine_50 : decode cX8_readsLine 50 = .ok (.invokevirtual 350, 3) := by decide +kernel
theorem dX8_readsLine_53 : decode cX8_readsLine 53 = .ok (.return_, 1) := by decide +kernel
theorem dX8_readsStatement_0 : decode cX8_readsStatement 0 = .ok (.aload_n 0, 1) := by decide +kernel
theorem dX8_readsStatement_1 : decode cX8_readsStatement 1 = .ok (.invokevirtual 329, 3) := by decide +kernel
theorem dX8_readsStatement_4 : decode cX8_readsStatement 4 = .ok (.istore_n 1, 1) := by decide +kernel
theorem dX8_readsStatement_5 : decode cX8_readsStatement 5 = .ok (.aload_n 0, 1) := by decide +kernel
theorem dX8_readsStatement_6 : decode cX8_readsStatement 6 = .ok (.iload_n 1, 1) := by decide +kernel
theorem dX8_readsStatement_7 : decode cX8_readsStatement 7 = .ok (.iconst 0, 1) := by decide +kernel
theorem dX8_readsStatement_8 : decode cX8_readsStatement 8 = .ok (.iconst 4, 1) := by decide +kernel
theorem dX8_readsStatement_9 : decode cX8_readsStatement 9 = .ok (.invokestatic 124, 3) := by decide +kernel
theorem dX8_readsStatement_12 : decode cX8_readsStatement 12 = .ok (.iconst 1, 1) := by decide +kernel
theorem dX8_readsStatement_13 : decode cX8_readsStatement 13 = .ok (.invokevirtual 319, 3) := by decide +kernel
theorem dX8_readsStatement_16 : decode cX8_readsStatement 16 = .ok (.aload_n 0, 1) := by decide +kernel
theorem dX8_readsStatement_17 : decode cX8_readsStatement 17 = .ok (.iload_n 1, 1) := by decide +kernel
theorem dX8_readsStatement_18 : decode cX8_readsStatement 18 = .ok (.iconst 2, 1) := by decide +kernel
theorem dX8_readsStatement_19 : decode cX8_readsStatement 19 = .ok (.if_icmp .gt 14, 3) := by decide +kernel
theorem dX8_readsStatement_22 : decode cX8_readsStatement 22 = .ok (.aload_n 0, 1) := by decide +kernel
theorem dX8_readsStatement_23 : decode cX8_readsStatement 23 = .ok (.getfield 13, 3) := by decide +kernel
theorem dX8_readsStatement_26 : decode cX8_readsStatement 26 = .ok (.iconst 1, 1) := by decide +kernel
theorem dX8_readsStatement_27 : decode cX8_readsStatement 27 = .ok (.iaload, 1) := by decide +kernel
theorem dX8_readsStatement_28 : decode cX8_readsStatement 28 = .ok (.bipush 20, 2) := by decide +kernel
theorem dX8_readsStatement_30 : decode cX8_readsStatement 30 = .ok (.if_icmp .ge 7, 3) := by decide +kernel
theorem dX8_readsStatement_33 : decode cX8_readsStatement 33 = .ok (.iconst 1, 1) := by decide +kernel
theorem dX8_readsStatement_34 : decode cX8_readsStatement 34 = .ok (.goto 4, 3) := by decide +kernel
theorem dX8_readsStatement_37 : decode cX8_readsStatement 37 = .ok (.iconst 0, 1) := by decide +kernel
theorem dX8_readsStatement_38 : decode cX8_readsStatement 38 = .ok (.iconst 5, 1) := by decide +kernel
theorem dX8_readsStatement_39 : decode cX8_readsStatement 39 = .ok (.invokevirtual 319, 3) := by decide +kernel
theorem dX8_readsStatement_42 : decode cX8_readsStatement 42 = .ok (.aload_n 0, 1) := by decide +kernel
theorem dX8_readsStatement_43 : decode cX8_readsStatement 43 = .ok (.invokevirtual 326, 3) := by decide +kernel
theorem dX8_readsStatement_46 : decode cX8_readsStatement 46 = .ok (.aload_n 0, 1) := by decide +kernel
theorem dX8_readsStatement_47 : decode cX8_readsStatement 47 = .ok (.getfield 313, 3) := by decide +kernel
theorem dX8_readsStatement_50 : decode cX8_readsStatement 50 = .ok (.ifCond .le 4, 3) := by decide +kernel
theorem dX8_readsStatement_53 : decode cX8_readsStatement 53 = .ok (.return_, 1) := by decide +kernel
theorem dX8_readsStatement_54 : decode cX8_readsStatement 54 = .ok (.iload_n 1, 1) := by decide +kernel
theorem dX8_readsStatement_55 : decode cX8_readsStatement 55 = .ok (.iconst 2, 1) := by decide +kernel
theorem dX8_readsStatement_56 : decode cX8_readsStatement 56 = .ok (.if_icmp .gt 11, 3) := by decide +kernel
theorem dX8_readsStatement_59 : decode cX8_readsStatement 59 = .ok (.aload_n 0, 1) := by decide +kernel
theorem dX8_readsStatement_60 : decode cX8_readsStatement 60 = .ok (.iload_n 1, 1) := by decide +kernel
theorem dX8_readsStatement_61 : decode cX8_readsStatement 61 = .ok (.invokevirtual 353, 3) := by decide +kernel
theorem dX8_readsStatement_64 : decode cX8_readsStatement 64 = .ok (.goto 19, 3) := by decide +kernel
theorem dX8_readsStatement_67 : decode cX8_readsStatement 67 = .ok (.iload_n 1, 1) := by decide +kernel
theorem dX8_readsStatement_68 : decode cX8_readsStatement 68 = .ok (.iconst 3, 1) := by decide +kernel
theorem dX8_readsStatement_69 : decode cX8_readsStatement 69 = .ok (.if_icmp .ne 10, 3) := by decide +kernel
theorem dX8_readsStatement_72 : decode cX8_readsStatement 72 = .ok (.aload_n 0, 1) := by decide +kernel
theorem dX8_readsStatement_73 : decode cX8_readsStatement 73 = .ok (.invokevirtual 356, 3) := by decide +kernel
theorem dX8_readsStatement_76 : decode cX8_readsStatement 76 = .ok (.goto 7, 3) := by decide +kernel
theorem dX8_readsStatement_79 : decode cX8_readsStatement 79 = .ok (.aload_n 0, 1) := by decide +kernel
theorem dX8_readsStatement_80 : decode cX8_readsStatement 80 = .ok (.invokevirtual 359, 3) := by decide +kernel
theorem dX8_readsStatement_83 : decode cX8_readsStatement 83 = .ok (.aload_n 0, 1) := by decide +kernel
theorem dX8_readsStatement_84 : decode cX8_readsStatement 84 = .ok (.aload_n 0, 1) := by decide +kernel
theorem dX8_readsStatement_85 : decode cX8_readsStatement 85 = .ok (.getfield 307, 3) := by decide +kernel
theorem dX8_readsStatement_88 : decode cX8_readsStatement 88 = .ok (.iconst 4, 1) := by decide +kernel
theorem dX8_readsStatement_89 : decode cX8_readsStatement 89 = .ok (.if_icmp .ne 7, 3) := by decide +kernel
theorem dX8_readsStatement_92 : decode cX8_readsStatement 92 = .ok (.iconst 1, 1) := by decide +kernel
theorem dX8_readsStatement_93 : decode cX8_readsStatement 93 = .ok (.goto 4, 3) := by decide +kernel
theorem dX8_readsStatement_96 : decode cX8_readsStatement 96 = .ok (.iconst 0, 1) := by decide +kernel
theorem dX8_readsStatement_97 : decode cX8_readsStatement 97 = .ok (.iconst 1, 1) := by decide +kernel
theorem dX8_readsStatement_98 : decode cX8_readsStatement 98 = .ok (.invokevirtual 319, 3) := by decide +kernel
theorem dX8_readsStatement_101 : decode cX8_readsStatement 101 = .ok (.aload_n 0, 1) := by decide +kernel
theorem dX8_readsStatement_102 : decode cX8_readsStatement 102 = .ok (.invokevirtual 326, 3) := by decide +kernel
theorem dX8_readsStatement_105 : decode cX8_readsStatement 105 = .ok (.return_, 1) := by decide +kernel
theorem dX8_load_0 : decode cX8_load 0 = .ok (.aload_n 0, 1) := by decide +kernel
theorem dX8_load_1 : decode cX8_load 1 = .ok (.iconst 0, 1) := by decide +kernel
theorem dX8_load_2 : decode cX8_load 2 = .ok (.putfield 90, 3) := by decide +kernel
theorem dX8_load_5 : decode cX8_load 5 = .ok (.aload_n 0, 1) := by decide +kernel
theorem dX8_load_6 : decode cX8_load 6 = .ok (.iconst 0, 1) := by decide +kernel
theorem dX8_load_7 : decode cX8_load 7 = .ok (.putfield 295, 3) := by decide +kernel
theorem dX8_load_10 : decode cX8_load 10 = .ok (.aload_n 0, 1) := by decide +kernel
theorem dX8_load_11 : decode cX8_load 11 = .ok (.iconst 0, 1) := by decide +kernel
theorem dX8_load_12 : decode cX8_load 12 = .ok (.putfield 313, 3) := by decide +kernel
theorem dX8_load_15 : decode cX8_load 15 = .ok (.aload_n 0, 1) := by decide +kernel
theorem dX8_load_16 : decode cX8_load 16 = .ok (.iconst (-1), 1) := by decide +kernel
theorem dX8_load_17 : decode cX8_load 17 = .ok (.putfield 72, 3) := by decide +kernel
theorem dX8_load_20 : decode cX8_load 20 = .ok (.aload_n 0, 1) := by decide +kernel
theorem dX8_load_21 : decode cX8_load 21 = .ok (.bipush 16, 2) := by decide +kernel
theorem dX8_load_23 : decode cX8_load 23 = .ok (.invokevirtual 82, 3) := by decide +kernel
theorem dX8_load_26 : decode cX8_load 26 = .ok (.aload_n 0, 1) := by decide +kernel
theorem dX8_load_27 : decode cX8_load 27 = .ok (.invokevirtual 316, 3) := by decide +kernel
theorem dX8_load_30 : decode cX8_load 30 = .ok (.aload_n 0, 1) := by decide +kernel
theorem dX8_load_31 : decode cX8_load 31 = .ok (.invokevirtual 329, 3) := by decide +kernel
theorem dX8_load_34 : decode cX8_load 34 = .ok (.iconst 5, 1) := by decide +kernel
theorem dX8_load_35 : decode cX8_load 35 = .ok (.if_icmp .ne 43, 3) := by decide +kernel
theorem dX8_load_38 : decode cX8_load 38 = .ok (.aload_n 0, 1) := by decide +kernel
theorem dX8_load_39 : decode cX8_load 39 = .ok (.invokevirtual 326, 3) := by decide +kernel
theorem dX8_load_42 : decode cX8_load 42 = .ok (.aload_n 0, 1) := by decide +kernel
theorem dX8_load_43 : decode cX8_load 43 = .ok (.bipush 8, 2) := by decide +kernel
theorem dX8_load_45 : decode cX8_load 45 = .ok (.bipush 40, 2) := by decide +kernel
theorem dX8_load_47 : decode cX8_load 47 = .ok (.invokevirtual 332, 3) := by decide +kernel
theorem dX8_load_50 : decode cX8_load 50 = .ok (.istore_n 1, 1) := by decide +kernel
theorem dX8_load_51 : decode cX8_load 51 = .ok (.aload_n 0, 1) := by decide +kernel
theorem dX8_load_52 : decode cX8_load 52 = .ok (.aload_n 0, 1) := by decide +kernel
theorem dX8_load_53 : decode cX8_load 53 = .ok (.getfield 307, 3) := by decide +kernel
theorem dX8_load_56 : decode cX8_load 56 = .ok (.iconst 4, 1) := by decide +kernel
theorem dX8_load_57 : decode cX8_load 57 = .ok (.if_icmp .ne 7, 3) := by decide +kernel
theorem dX8_load_60 : decode cX8_load 60 = .ok (.iconst 1, 1) := by decide +kernel
theorem dX8_load_61 : decode cX8_load 61 = .ok (.goto 4, 3) := by decide +kernel
theorem dX8_load_64 : decode cX8_load 64 = .ok (.iconst 0, 1) := by decide +kernel
theorem dX8_load_65 : decode cX8_load 65 = .ok (.iconst 1, 1) := by decide +kernel
theorem dX8_load_66 : decode cX8_load 66 = .ok (.invokevirtual 319, 3) := by decide +kernel
theorem dX8_load_69 : decode cX8_load 69 = .ok (.aload_n 0, 1) := by decide +kernel
theorem dX8_load_70 : decode cX8_load 70 = .ok (.invokevirtual 326, 3) := by decide +kernel
theorem dX8_load_73 : decode cX8_load 73 = .ok (.aload_n 0, 1) := by decide +kernel
theorem dX8_load_74 : decode cX8_load 74 = .ok (.iload_n 1, 1) := by decide +kernel
theorem dX8_load_75 : decode cX8_load 75 = .ok (.invokevirtual 82, 3) := by decide +kernel
theorem dX8_load_78 : decode cX8_load 78 = .ok (.aload_n 0, 1) := by decide +kernel
theorem dX8_load_79 : decode cX8_load 79 = .ok (.getfield 313, 3) := by decide +kernel
theorem dX8_load_82 : decode cX8_load 82 = .ok (.ifCond .ne 17, 3) := by decide +kernel
theorem dX8_load_85 : decode cX8_load 85 = .ok (.aload_n 0, 1) := by decide +kernel
theorem dX8_load_86 : decode cX8_load 86 = .ok (.getfield 307, 3) := by decide +kernel
theorem dX8_load_89 : decode cX8_load 89 = .ok (.ifCond .eq 10, 3) := by decide +kernel
theorem dX8_load_92 : decode cX8_load 92 = .ok (.aload_n 0, 1) := by decide +kernel
theorem dX8_load_93 : decode cX8_load 93 = .ok (.invokevirtual 362, 3) := by decide +kernel
theorem dX8_load_96 : decode cX8_load 96 = .ok (.goto (-18), 3) := by decide +kernel
theorem dX8_load_99 : decode cX8_load 99 = .ok (.aload_n 0, 1) := by decide +kernel
theorem dX8_load_100 : decode cX8_load 100 = .ok (.iconst 0, 1) := by decide +kernel
theorem dX8_load_101 : decode cX8_load 101 = .ok (.putfield 292, 3) := by decide +kernel
theorem dX8_load_104 : decode cX8_load 104 = .ok (.aload_n 0, 1) := by decide +kernel
theorem dX8_load_105 : decode cX8_load 105 = .ok (.getfield 313, 3) := by decide +kernel
theorem dX8_load_108 : decode cX8_load 108 = .ok (.ifCond .le 5, 3) := by decide +kernel
theorem dX8_load_111 : decode cX8_load 111 = .ok (.iconst (-1), 1) := by decide +kernel
theorem dX8_load_112 : decode cX8_load 112 = .ok (.ireturn, 1) := by decide +kernel
theorem dX8_load_113 : decode cX8_load 113 = .ok (.aload_n 0, 1) := by decide +kernel
theorem dX8_load_114 : decode cX8_load 114 = .ok (.getfield 13, 3) := by decide +kernel
theorem dX8_load_117 : decode cX8_load 117 = .ok (.iconst 0, 1) := by decide +kernel
theorem dX8_load_118 : decode cX8_load 118 = .ok (.aload_n 0, 1) := by decide +kernel
theorem dX8_load_119 : decode cX8_load 119 = .ok (.getfield 7, 3) := by decide +kernel
theorem dX8_load_122 : decode cX8_load 122 = .ok (.iconst 0, 1) := by decide +kernel
theorem dX8_load_123 : decode cX8_load 123 = .ok (.invokestatic 86, 3) := by decide +kernel
theorem dX8_load_126 : decode cX8_load 126 = .ok (.aload_n 0, 1) := by decide +kernel
theorem dX8_load_127 : decode cX8_load 127 = .ok (.iconst 0, 1) := by decide +kernel
theorem dX8_load_128 : decode cX8_load 128 = .ok (.putfield 191, 3) := by decide +kernel
theorem dX8_load_131 : decode cX8_load 131 = .ok (.aload_n 0, 1) := by decide +kernel
theorem dX8_load_132 : decode cX8_load 132 = .ok (.getfield 7, 3) := by decide +kernel
theorem dX8_load_135 : decode cX8_load 135 = .ok (.iconst 1, 1) := by decide +kernel
theorem dX8_load_136 : decode cX8_load 136 = .ok (.iaload, 1) := by decide +kernel
theorem dX8_load_137 : decode cX8_load 137 = .ok (.ireturn, 1) := by decide +kernel
theorem dX8_errorCode_0 : decode cX8_errorCode 0 = .ok (.aload_n 0, 1) := by decide +kernel
theorem dX8_errorCode_1 : decode cX8_errorCode 1 = .ok (.iconst 0, 1) := by decide +kernel
theorem dX8_errorCode_2 : decode cX8_errorCode 2 = .ok (.putfield 90, 3) := by decide +kernel
theorem dX8_errorCode_5 : decode cX8_errorCode 5 = .ok (.aload_n 0, 1) := by decide +kernel
theorem dX8_errorCode_6 : decode cX8_errorCode 6 = .ok (.getfield 313, 3) := by decide +kernel
theorem dX8_errorCode_9 : decode cX8_errorCode 9 = .ok (.ireturn, 1) := by decide +kernel
theorem dX8_errorPosition_0 : decode cX8_errorPosition 0 = .ok (.aload_n 0, 1) := by decide +kernel
theorem dX8_errorPosition_1 : decode cX8_errorPosition 1 = .ok (.iconst 0, 1) := by decide +kernel
theorem dX8_errorPosition_2 : decode cX8_errorPosition 2 = .ok (.putfield 90, 3) := by decide +kernel
theorem dX8_errorPosition_5 : decode cX8_errorPosition 5 = .ok (.aload_n 0, 1) := by decide +kernel
theorem dX8_errorPosition_6 : decode cX8_errorPosition 6 = .ok (.getfield 72, 3) := by decide +kernel
theorem dX8_errorPosition_9 : decode cX8_errorPosition 9 = .ok (.ireturn, 1) := by decide +kernel
theorem dX8_prints_0 : decode cX8_prints 0 = .ok (.aload_n 0, 1) := by decide +kernel
theorem dX8_prints_1 : decode cX8_prints 1 = .ok (.getfield 79, 3) := by decide +kernel
theorem dX8_prints_4 : decode cX8_prints 4 = .ok (.aload_n 0, 1) := by decide +kernel
theorem dX8_prints_5 : decode cX8_prints 5 = .ok (.getfield 365, 3) := by decide +kernel
theorem dX8_prints_8 : decode cX8_prints 8 = .ok (.iload_n 1, 1) := by decide +kernel
theorem dX8_prints_9 : decode cX8_prints 9 = .ok (.i2b, 1) := by decide +kernel
theorem dX8_prints_10 : decode cX8_prints 10 = .ok (.bastore, 1) := by decide +kernel
theorem dX8_prints_11 : decode cX8_prints 11 = .ok (.aload_n 0, 1) := by decide +kernel
theorem dX8_prints_12 : decode cX8_prints 12 = .ok (.dup, 1) := by decide +kernel
theorem dX8_prints_13 : decode cX8_prints 13 = .ok (.getfield 365, 3) := by decide +kernel
theorem dX8_prints_16 : decode cX8_prints 16 = .ok (.iconst 1, 1) := by decide +kernel
theorem dX8_prints_17 : decode cX8_prints 17 = .ok (.iadd, 1) := by decide +kernel
theorem dX8_prints_18 : decode cX8_prints 18 = .ok (.putfield 365, 3) := by decide +kernel
theorem dX8_prints_21 : decode cX8_prints 21 = .ok (.return_, 1) := by decide +kernel
theorem dX8_printsWord_0 : decode cX8_printsWord 0 = .ok (.iconst 0, 1) := by decide +kernel
theorem dX8_printsWord_1 : decode cX8_printsWord 1 = .ok (.istore_n 2, 1) := by decide +kernel
theorem dX8_printsWord_2 : decode cX8_printsWord 2 = .ok (.iload_n 1, 1) := by decide +kernel
theorem dX8_printsWord_3 : decode cX8_printsWord 3 = .ok (.istore_n 3, 1) := by decide +kernel
theorem dX8_printsWord_4 : decode cX8_printsWord 4 = .ok (.iload_n 3, 1) := by decide +kernel
theorem dX8_printsWord_5 : decode cX8_printsWord 5 = .ok (.ifCond .le 28, 3) := by decide +kernel
theorem dX8_printsWord_8 : decode cX8_printsWord 8 = .ok (.iload_n 3, 1) := by decide +kernel
theorem dX8_printsWord_9 : decode cX8_printsWord 9 = .ok (.aload_n 0, 1) := by decide +kernel
theorem dX8_printsWord_10 : decode cX8_printsWord 10 = .ok (.getfield 76, 3) := by decide +kernel
theorem dX8_printsWord_13 : decode cX8_printsWord 13 = .ok (.iload_n 2, 1) := by decide +kernel
theorem dX8_printsWord_14 : decode cX8_printsWord 14 = .ok (.baload, 1) := by decide +kernel
theorem dX8_printsWord_15 : decode cX8_printsWord 15 = .ok (.bipush 32, 2) := by decide +kernel
theorem dX8_printsWord_17 : decode cX8_printsWord 17 = .ok (.if_icmp .ne 7, 3) := by decide +kernel
theorem dX8_printsWord_20 : decode cX8_printsWord 20 = .ok (.iconst 1, 1) := by decide +kernel
theorem dX8_printsWord_21 : decode cX8_printsWord 21 = .ok (.goto 4, 3) := by decide +kernel
theorem dX8_printsWord_24 : decode cX8_printsWord 24 = .ok (.iconst 0, 1) := by decide +kernel
theorem dX8_printsWord_25 : decode cX8_printsWord 25 = .ok (.isub, 1) := by decide +kernel
theorem dX8_printsWord_26 : decode cX8_printsWord 26 = .ok (.istore_n 3, 1) := by decide +kernel
theorem dX8_printsWord_27 : decode cX8_printsWord 27 = .ok (.iinc 2 1, 3) := by decide +kernel
theorem dX8_printsWord_30 : decode cX8_printsWord 30 = .ok (.goto (-26), 3) := by decide +kernel
theorem dX8_printsWord_33 : decode cX8_printsWord 33 = .ok (.aload_n 0, 1) := by decide +kernel
theorem dX8_printsWord_34 : decode cX8_printsWord 34 = .ok (.getfield 76, 3) := by decide +kernel
theorem dX8_printsWord_37 : decode cX8_printsWord 37 = .ok (.iload_n 2, 1) := by decide +kernel
theorem dX8_printsWord_38 : decode cX8_printsWord 38 = .ok (.baload, 1) := by decide +kernel
theorem dX8_printsWord_39 : decode cX8_printsWord 39 = .ok (.bipush 32, 2) := by decide +kernel
theorem dX8_printsWord_41 : decode cX8_printsWord 41 = .ok (.if_icmp .eq 19, 3) := by decide +kernel
theorem dX8_printsWord_44 : decode cX8_printsWord 44 = .ok (.aload_n 0, 1) := by decide +kernel
theorem dX8_printsWord_45 : decode cX8_printsWord 45 = .ok (.aload_n 0, 1) := by decide +kernel
theorem dX8_printsWord_46 : decode cX8_printsWord 46 = .ok (.getfield 76, 3) := by decide +kernel
theorem dX8_printsWord_49 : decode cX8_printsWord 49 = .ok (.iload_n 2, 1) := by decide +kernel
theorem dX8_printsWord_50 : decode cX8_printsWord 50 = .ok (.baload, 1) := by decide +kernel
theorem dX8_printsWord_51 : decode cX8_printsWord 51 = .ok (.invokevirtual 368, 3) := by decide +kernel
theorem dX8_printsWord_54 : decode cX8_printsWord 54 = .ok (.iinc 2 1, 3) := by decide +kernel
theorem dX8_printsWord_57 : decode cX8_printsWord 57 = .ok (.goto (-24), 3) := by decide +kernel
theorem dX8_printsWord_60 : decode cX8_printsWord 60 = .ok (.return_, 1) := by decide +kernel
theorem dX8_printsNumber_0 : decode cX8_printsNumber 0 = .ok (.iload_n 1, 1) := by decide +kernel
theorem dX8_printsNumber_1 : decode cX8_printsNumber 1 = .ok (.ifCond .ge 9, 3) := by decide +kernel
theorem dX8_printsNumber_4 : decode cX8_printsNumber 4 = .ok (.aload_n 0, 1) := by decide +kernel
theorem dX8_printsNumber_5 : decode cX8_printsNumber 5 = .ok (.bipush 45, 2) := by decide +kernel
theorem dX8_printsNumber_7 : decode cX8_printsNumber 7 = .ok (.invokevirtual 368, 3) := by decide +kernel
theorem dX8_printsNumber_10 : decode cX8_printsNumber 10 = .ok (.iload_n 1, 1) := by decide +kernel
theorem dX8_printsNumber_11 : decode cX8_printsNumber 11 = .ok (.ifCond .ge 8, 3) := by decide +kernel
theorem dX8_printsNumber_14 : decode cX8_printsNumber 14 = .ok (.iload_n 1, 1) := by decide +kernel
theorem dX8_printsNumber_15 : decode cX8_printsNumber 15 = .ok (.ineg, 1) := by decide +kernel
theorem dX8_printsNumber_16 : decode cX8_printsNumber 16 = .ok (.goto 4, 3) := by decide +kernel
theorem dX8_printsNumber_19 : decode cX8_printsNumber 19 = .ok (.iload_n 1, 1) := by decide +kernel
theorem dX8_printsNumber_20 : decode cX8_printsNumber 20 = .ok (.istore_n 2, 1) := by decide +kernel
theorem dX8_printsNumber_21 : decode cX8_printsNumber 21 = .ok (.iload_n 2, 1) := by decide +kernel
theorem dX8_printsNumber_22 : decode cX8_printsNumber 22 = .ok (.bipush 10, 2) := by decide +kernel
theorem dX8_printsNumber_24 : decode cX8_printsNumber 24 = .ok (.if_icmp .lt 14, 3) := by decide +kernel
theorem dX8_printsNumber_27 : decode cX8_printsNumber 27 = .ok (.aload_n 0, 1) := by decide +kernel
theorem dX8_printsNumber_28 : decode cX8_printsNumber 28 = .ok (.bipush 48, 2) := by decide +kernel
theorem dX8_printsNumber_30 : decode cX8_printsNumber 30 = .ok (.iload_n 2, 1) := by decide +kernel
theorem dX8_printsNumber_31 : decode cX8_printsNumber 31 = .ok (.bipush 10, 2) := by decide +kernel
theorem dX8_printsNumber_33 : decode cX8_printsNumber 33 = .ok (.idiv, 1) := by decide +kernel
theorem dX8_printsNumber_34 : decode cX8_printsNumber 34 = .ok (.iadd, 1) := by decide +kernel
theorem dX8_printsNumber_35 : decode cX8_printsNumber 35 = .ok (.invokevirtual 368, 3) := by decide +kernel
theorem dX8_printsNumber_38 : decode cX8_printsNumber 38 = .ok (.aload_n 0, 1) := by decide +kernel
theorem dX8_printsNumber_39 : decode cX8_printsNumber 39 = .ok (.bipush 48, 2) := by decide +kernel
theorem dX8_printsNumber_41 : decode cX8_printsNumber 41 = .ok (.iload_n 2, 1) := by decide +kernel
theorem dX8_printsNumber_42 : decode cX8_printsNumber 42 = .ok (.bipush 10, 2) := by decide +kernel
theorem dX8_printsNumber_44 : decode cX8_printsNumber 44 = .ok (.irem, 1) := by decide +kernel
theorem dX8_printsNumber_45 : decode cX8_printsNumber 45 = .ok (.iadd, 1) := by decide +kernel
theorem dX8_printsNumber_46 : decode cX8_printsNumber 46 = .ok (.invokevirtual 368, 3) := by decide +kernel
theorem dX8_printsNumber_49 : decode cX8_printsNumber 49 = .ok (.return_, 1) := by decide +kernel
theorem dX8_printsMode_0 : decode cX8_printsMode 0 = .ok (.aload_n 0, 1) := by decide +kernel
theorem dX8_printsMode_1 : decode cX8_printsMode 1 = .ok (.bipush 32, 2) := by decide +kernel
theorem dX8_printsMode_3 : decode cX8_printsMode 3 = .ok (.invokevirtual 368, 3) := by decide +kernel
theorem dX8_printsMode_6 : decode cX8_printsMode 6 = .ok (.aload_n 0, 1) := by decide +kernel
theorem dX8_printsMode_7 : decode cX8_printsMode 7 = .ok (.aload_n 0, 1) := by decide +kernel
theorem dX8_printsMode_8 : decode cX8_printsMode 8 = .ok (.getfield 32, 3) := by decide +kernel
theorem dX8_printsMode_11 : decode cX8_printsMode 11 = .ok (.iload_n 1, 1) := by decide +kernel
theorem dX8_printsMode_12 : decode cX8_printsMode 12 = .ok (.iaload, 1) := by decide +kernel
theorem dX8_printsMode_13 : decode cX8_printsMode 13 = .ok (.ifCond .ne 8, 3) := by decide +kernel
theorem dX8_printsMode_16 : decode cX8_printsMode 16 = .ok (.bipush 112, 2) := by decide +kernel
theorem dX8_printsMode_18 : decode cX8_printsMode 18 = .ok (.goto 20, 3) := by decide +kernel
theorem dX8_printsMode_21 : decode cX8_printsMode 21 = .ok (.aload_n 0, 1) := by decide +kernel
theorem dX8_printsMode_22 : decode cX8_printsMode 22 = .ok (.getfield 32, 3) := by decide +kernel
theorem dX8_printsMode_25 : decode cX8_printsMode 25 = .ok (.iload_n 1, 1) := by decide +kernel
theorem dX8_printsMode_26 : decode cX8_printsMode 26 = .ok (.iaload, 1) := by decide +kernel
theorem dX8_printsMode_27 : decode cX8_printsMode 27 = .ok (.iconst 1, 1) := by decide +kernel
theorem dX8_printsMode_28 : decode cX8_printsMode 28 = .ok (.if_icmp .ne 8, 3) := by decide +kernel
theorem dX8_printsMode_31 : decode cX8_printsMode 31 = .ok (.bipush 118, 2) := by decide +kernel
theorem dX8_printsMode_33 : decode cX8_printsMode 33 = .ok (.goto 5, 3) := by decide +kernel
theorem dX8_printsMode_36 : decode cX8_printsMode 36 = .ok (.bipush 104, 2) := by decide +kernel
theorem dX8_printsMode_38 : decode cX8_printsMode 38 = .ok (.invokevirtual 368, 3) := by decide +kernel
theorem dX8_printsMode_41 : decode cX8_printsMode 41 = .ok (.aload_n 0, 1) := by decide +kernel
theorem dX8_printsMode_42 : decode cX8_printsMode 42 = .ok (.getfield 32, 3) := by decide +kernel
theorem dX8_printsMode_45 : decode cX8_printsMode 45 = .ok (.iload_n 1, 1) := by decide +kernel
theorem dX8_printsMode_46 : decode cX8_printsMode 46 = .ok (.iaload, 1) := by decide +kernel
theorem dX8_printsMode_47 : decode cX8_printsMode 47 = .ok (.ifCond .eq 13, 3) := by decide +kernel
theorem dX8_printsMode_50 : decode cX8_printsMode 50 = .ok (.aload_n 0, 1) := by decide +kernel
theorem dX8_printsMode_51 : decode cX8_printsMode 51 = .ok (.aload_n 0, 1) := by decide +kernel
theorem dX8_printsMode_52 : decode cX8_printsMode 52 = .ok (.getfield 35, 3) := by decide +kernel
theorem dX8_printsMode_55 : decode cX8_printsMode 55 = .ok (.iload_n 1, 1) := by decide +kernel
theorem dX8_printsMode_56 : decode cX8_printsMode 56 = .ok (.iaload, 1) := by decide +kernel
theorem dX8_printsMode_57 : decode cX8_printsMode 57 = .ok (.invokevirtual 371, 3) := by decide +kernel
theorem dX8_printsMode_60 : decode cX8_printsMode 60 = .ok (.aload_n 0, 1) := by decide +kernel
theorem dX8_printsMode_61 : decode cX8_printsMode 61 = .ok (.getfield 32, 3) := by decide +kernel
theorem dX8_printsMode_64 : decode cX8_printsMode 64 = .ok (.iload_n 1, 1) := by decide +kernel
theorem dX8_printsMode_65 : decode cX8_printsMode 65 = .ok (.iaload, 1) := by decide +kernel
theorem dX8_printsMode_66 : decode cX8_printsMode 66 = .ok (.iconst 2, 1) := by decide +kernel
theorem dX8_printsMode_67 : decode cX8_printsMode 67 = .ok (.if_icmp .ne 19, 3) := by decide +kernel
theorem dX8_printsMode_70 : decode cX8_printsMode 70 = .ok (.aload_n 0, 1) := by decide +kernel
theorem dX8_printsMode_71 : decode cX8_printsMode 71 = .ok (.bipush 32, 2) := by decide +kernel
theorem dX8_printsMode_73 : decode cX8_printsMode 73 = .ok (.invokevirtual 368, 3) := by decide +kernel
theorem dX8_printsMode_76 : decode cX8_printsMode 76 = .ok (.aload_n 0, 1) := by decide +kernel
theorem dX8_printsMode_77 : decode cX8_printsMode 77 = .ok (.aload_n 0, 1) := by decide +kernel
theorem dX8_printsMode_78 : decode cX8_printsMode 78 = .ok (.getfield 38, 3) := by decide +kernel
theorem dX8_printsMode_81 : decode cX8_printsMode 81 = .ok (.iload_n 1, 1) := by decide +kernel
theorem dX8_printsMode_82 : decode cX8_printsMode 82 = .ok (.iaload, 1) := by decide +kernel
theorem dX8_printsMode_83 : decode cX8_printsMode 83 = .ok (.invokevirtual 371, 3) := by decide +kernel
theorem dX8_printsMode_86 : decode cX8_printsMode 86 = .ok (.return_, 1) := by decide +kernel
theorem dX8_write_0 : decode cX8_write 0 = .ok (.aload_n 0, 1) := by decide +kernel
theorem dX8_write_1 : decode cX8_write 1 = .ok (.aload_n 0, 1) := by decide +kernel
theorem dX8_write_2 : decode cX8_write 2 = .ok (.iload_n 1, 1) := by decide +kernel
theorem dX8_write_3 : decode cX8_write 3 = .ok (.invokevirtual 194, 3) := by decide +kernel
theorem dX8_write_6 : decode cX8_write 6 = .ok (.ifCond .eq 7, 3) := by decide +kernel
theorem dX8_write_9 : decode cX8_write 9 = .ok (.iconst 0, 1) := by decide +kernel
theorem dX8_write_10 : decode cX8_write 10 = .ok (.goto 4, 3) := by decide +kernel
theorem dX8_write_13 : decode cX8_write 13 = .ok (.iconst 1, 1) := by decide +kernel
theorem dX8_write_14 : decode cX8_write 14 = .ok (.putfield 90, 3) := by decide +kernel
theorem dX8_write_17 : decode cX8_write 17 = .ok (.aload_n 0, 1) := by decide +kernel
theorem dX8_write_18 : decode cX8_write 18 = .ok (.getfield 90, 3) := by decide +kernel
theorem dX8_write_21 : decode cX8_write 21 = .ok (.ifCond .le 5, 3) := by decide +kernel
theorem dX8_write_24 : decode cX8_write 24 = .ok (.iconst 0, 1) := by decide +kernel
theorem dX8_write_25 : decode cX8_write 25 = .ok (.ireturn, 1) := by decide +kernel
theorem dX8_write_26 : decode cX8_write 26 = .ok (.aload_n 0, 1) := by decide +kernel
theorem dX8_write_27 : decode cX8_write 27 = .ok (.iload_n 1, 1) := by decide +kernel
theorem dX8_write_28 : decode cX8_write 28 = .ok (.invokevirtual 173, 3) := by decide +kernel
theorem dX8_write_31 : decode cX8_write 31 = .ok (.istore_n 2, 1) := by decide +kernel
theorem dX8_write_32 : decode cX8_write 32 = .ok (.aload_n 0, 1) := by decide +kernel
theorem dX8_write_33 : decode cX8_write 33 = .ok (.iload_n 1, 1) := by decide +kernel
theorem dX8_write_34 : decode cX8_write 34 = .ok (.invokevirtual 163, 3) := by decide +kernel
theorem dX8_write_37 : decode cX8_write 37 = .ok (.aload_n 0, 1) := by decide +kernel
theorem dX8_write_38 : decode cX8_write 38 = .ok (.iconst 0, 1) := by decide +kernel
theorem dX8_write_39 : decode cX8_write 39 = .ok (.putfield 365, 3) := by decide +kernel
theorem dX8_write_42 : decode cX8_write 42 = .ok (.aload_n 0, 1) := by decide +kernel
theorem dX8_write_43 : decode cX8_write 43 = .ok (.iload_n 2, 1) := by decide +kernel
theorem dX8_write_44 : decode cX8_write 44 = .ok (.ifCond .eq 7, 3) := by decide +kernel
theorem dX8_write_47 : decode cX8_write 47 = .ok (.iconst 1, 1) := by decide +kernel
theorem dX8_write_48 : decode cX8_write 48 = .ok (.goto 4, 3) := by decide +kernel
theorem dX8_write_51 : decode cX8_write 51 = .ok (.iconst 2, 1) := by decide +kernel
theorem dX8_write_52 : decode cX8_write 52 = .ok (.invokevirtual 374, 3) := by decide +kernel
theorem dX8_write_55 : decode cX8_write 55 = .ok (.iconst 0, 1) := by decide +kernel
theorem dX8_write_56 : decode cX8_write 56 = .ok (.istore_n 3, 1) := by decide +kernel
theorem dX8_write_57 : decode cX8_write 57 = .ok (.iload_n 3, 1) := by decide +kernel
theorem dX8_write_58 : decode cX8_write 58 = .ok (.aload_n 0, 1) := by decide +kernel
theorem dX8_write_59 : decode cX8_write 59 = .ok (.getfield 151, 3) := by decide +kernel
theorem dX8_write_62 : decode cX8_write 62 = .ok (.if_icmp .ge 29, 3) := by decide +kernel
theorem dX8_write_65 : decode cX8_write 65 = .ok (.iload_n 2, 1) := by decide +kernel
theorem dX8_write_66 : decode cX8_write 66 = .ok (.ifCond .eq 25, 3) := by decide +kernel
theorem dX8_write_69 : decode cX8_write 69 = .ok (.aload_n 0, 1) := by decide +kernel
theorem dX8_write_70 : decode cX8_write 70 = .ok (.bipush 32, 2) := by decide +kernel
theorem dX8_write_72 : decode cX8_write 72 = .ok (.invokevirtual 368, 3) := by decide +kernel
theorem dX8_write_75 : decode cX8_write 75 = .ok (.aload_n 0, 1) := by decide +kernel
theorem dX8_write_76 : decode cX8_write 76 = .ok (.aload_n 0, 1) := by decide +kernel
theorem dX8_write_77 : decode cX8_write 77 = .ok (.getfield 47, 3) := by decide +kernel
theorem dX8_write_80 : decode cX8_write 80 = .ok (.iload_n 3, 1) := by decide +kernel
theorem dX8_write_81 : decode cX8_write 81 = .ok (.iaload, 1) := by decide +kernel
theorem dX8_write_82 : decode cX8_write 82 = .ok (.invokevirtual 371, 3) := by decide +kernel
theorem dX8_write_85 : decode cX8_write 85 = .ok (.iinc 3 1, 3) := by decide +kernel
theorem dX8_write_88 : decode cX8_write 88 = .ok (.goto (-31), 3) := by decide +kernel
theorem dX8_write_91 : decode cX8_write 91 = .ok (.iconst 0, 1) := by decide +kernel
theorem dX8_write_92 : decode cX8_write 92 = .ok (.istore_n 3, 1) := by decide +kernel
theorem dX8_write_93 : decode cX8_write 93 = .ok (.iload_n 3, 1) := by decide +kernel
theorem dX8_write_94 : decode cX8_write 94 = .ok (.aload_n 0, 1) := by decide +kernel
theorem dX8_write_95 : decode cX8_write 95 = .ok (.getfield 111, 3) := by decide +kernel
theorem dX8_write_98 : decode cX8_write 98 = .ok (.if_icmp .ge 18, 3) := by decide +kernel
theorem dX8_write_101 : decode cX8_write 101 = .ok (.iload_n 2, 1) := by decide +kernel
theorem dX8_write_102 : decode cX8_write 102 = .ok (.ifCond .ne 14, 3) := by decide +kernel
theorem dX8_write_105 : decode cX8_write 105 = .ok (.aload_n 0, 1) := by decide +kernel
theorem dX8_write_106 : decode cX8_write 106 = .ok (.iload_n 3, 1) := by decide +kernel
theorem dX8_write_107 : decode cX8_write 107 = .ok (.invokevirtual 377, 3) := by decide +kernel
theorem dX8_write_110 : decode cX8_write 110 = .ok (.iinc 3 1, 3) := by decide +kernel
theorem dX8_write_113 : decode cX8_write 113 = .ok (.goto (-20), 3) := by decide +kernel
theorem dX8_write_116 : decode cX8_write 116 = .ok (.aload_n 0, 1) := by decide +kernel
theorem dX8_write_117 : decode cX8_write 117 = .ok (.getfield 365, 3) := by decide +kernel
theorem dX8_write_120 : decode cX8_write 120 = .ok (.ireturn, 1) := by decide +kernel
theorem dX8_show_0 : decode cX8_show 0 = .ok (.aload_n 0, 1) := by decide +kernel
theorem dX8_show_1 : decode cX8_show 1 = .ok (.aload_n 0, 1) := by decide +kernel
theorem dX8_show_2 : decode cX8_show 2 = .ok (.iload_n 1, 1) := by decide +kernel
theorem dX8_show_3 : decode cX8_show 3 = .ok (.invokevirtual 194, 3) := by decide +kernel
theorem dX8_show_6 : decode cX8_show 6 = .ok (.ifCond .eq 7, 3) := by decide +kernel
theorem dX8_show_9 : decode cX8_show 9 = .ok (.iconst 0, 1) := by decide +kernel
theorem dX8_show_10 : decode cX8_show 10 = .ok (.goto 4, 3) := by decide +kernel
theorem dX8_show_13 : decode cX8_show 13 = .ok (.iconst 1, 1) := by decide +kernel
theorem dX8_show_14 : decode cX8_show 14 = .ok (.putfield 90, 3) := by decide +kernel
theorem dX8_show_17 : decode cX8_show 17 = .ok (.aload_n 0, 1) := by decide +kernel
theorem dX8_show_18 : decode cX8_show 18 = .ok (.getfield 90, 3) := by decide +kernel
theorem dX8_show_21 : decode cX8_show 21 = .ok (.ifCond .le 5, 3) := by decide +kernel
theorem dX8_show_24 : decode cX8_show 24 = .ok (.iconst 0, 1) := by decide +kernel
theorem dX8_show_25 : decode cX8_show 25 = .ok (.ireturn, 1) := by decide +kernel
theorem dX8_show_26 : decode cX8_show 26 = .ok (.aload_n 0, 1) := by decide +kernel
theorem dX8_show_27 : decode cX8_show 27 = .ok (.invokevirtual 277, 3) := by decide +kernel
theorem dX8_show_30 : decode cX8_show 30 = .ok (.aload_n 0, 1) := by decide +kernel
theorem dX8_show_31 : decode cX8_show 31 = .ok (.iconst 0, 1) := by decide +kernel
theorem dX8_show_32 : decode cX8_show 32 = .ok (.putfield 365, 3) := by decide +kernel
theorem dX8_show_35 : decode cX8_show 35 = .ok (.iconst 0, 1) := by decide +kernel
theorem dX8_show_36 : decode cX8_show 36 = .ok (.istore_n 2, 1) := by decide +kernel
theorem dX8_show_37 : decode cX8_show 37 = .ok (.iload_n 2, 1) := by decide +kernel
theorem dX8_show_38 : decode cX8_show 38 = .ok (.aload_n 0, 1) := by decide +kernel
theorem dX8_show_39 : decode cX8_show 39 = .ok (.getfield 7, 3) := by decide +kernel
theorem dX8_show_42 : decode cX8_show 42 = .ok (.iconst 0, 1) := by decide +kernel
theorem dX8_show_43 : decode cX8_show 43 = .ok (.iaload, 1) := by decide +kernel
theorem dX8_show_44 : decode cX8_show 44 = .ok (.if_icmp .ge 35, 3) := by decide +kernel
theorem dX8_show_47 : decode cX8_show 47 = .ok (.aload_n 0, 1) := by decide +kernel
theorem dX8_show_48 : decode cX8_show 48 = .ok (.aload_n 0, 1) := by decide +kernel
theorem dX8_show_49 : decode cX8_show 49 = .ok (.getfield 50, 3) := by decide +kernel
theorem dX8_show_52 : decode cX8_show 52 = .ok (.bipush 40, 2) := by decide +kernel
theorem dX8_show_54 : decode cX8_show 54 = .ok (.iload_n 1, 1) := by decide +kernel
theorem dX8_show_55 : decode cX8_show 55 = .ok (.imul, 1) := by decide +kernel
theorem dX8_show_56 : decode cX8_show 56 = .ok (.iload_n 2, 1) := by decide +kernel
theorem dX8_show_57 : decode cX8_show 57 = .ok (.iadd, 1) := by decide +kernel
theorem dX8_show_58 : decode cX8_show 58 = .ok (.iaload, 1) := by decide +kernel
theorem dX8_show_59 : decode cX8_show 59 = .ok (.iconst 1, 1) := by decide +kernel
theorem dX8_show_60 : decode cX8_show 60 = .ok (.if_icmp .ne 8, 3) := by decide +kernel
theorem dX8_show_63 : decode cX8_show 63 = .ok (.bipush 35, 2) := by decide +kernel
theorem dX8_show_65 : decode cX8_show 65 = .ok (.goto 5, 3) := by decide +kernel
theorem dX8_show_68 : decode cX8_show 68 = .ok (.bipush 46, 2) := by decide +kernel
theorem dX8_show_70 : decode cX8_show 70 = .ok (.invokevirtual 368, 3) := by decide +kernel
theorem dX8_show_73 : decode cX8_show 73 = .ok (.iinc 2 1, 3) := by decide +kernel
theorem dX8_show_76 : decode cX8_show 76 = .ok (.goto (-39), 3) := by decide +kernel
theorem dX8_show_79 : decode cX8_show 79 = .ok (.aload_n 0, 1) := by decide +kernel
theorem dX8_show_80 : decode cX8_show 80 = .ok (.getfield 53, 3) := by decide +kernel
theorem dX8_show_83 : decode cX8_show 83 = .ok (.iload_n 1, 1) := by decide +kernel
theorem dX8_show_84 : decode cX8_show 84 = .ok (.iaload, 1) := by decide +kernel
theorem dX8_show_85 : decode cX8_show 85 = .ok (.ifCond .le 16, 3) := by decide +kernel
theorem dX8_show_88 : decode cX8_show 88 = .ok (.aload_n 0, 1) := by decide +kernel
theorem dX8_show_89 : decode cX8_show 89 = .ok (.bipush 48, 2) := by decide +kernel
theorem dX8_show_91 : decode cX8_show 91 = .ok (.aload_n 0, 1) := by decide +kernel
theorem dX8_show_92 : decode cX8_show 92 = .ok (.getfield 53, 3) := by decide +kernel
theorem dX8_show_95 : decode cX8_show 95 = .ok (.iload_n 1, 1) := by decide +kernel
theorem dX8_show_96 : decode cX8_show 96 = .ok (.iaload, 1) := by decide +kernel
theorem dX8_show_97 : decode cX8_show 97 = .ok (.iadd, 1) := by decide +kernel
theorem dX8_show_98 : decode cX8_show 98 = .ok (.invokevirtual 368, 3) := by decide +kernel
theorem dX8_show_101 : decode cX8_show 101 = .ok (.aload_n 0, 1) := by decide +kernel
theorem dX8_show_102 : decode cX8_show 102 = .ok (.getfield 365, 3) := by decide +kernel
theorem dX8_show_105 : decode cX8_show 105 = .ok (.ireturn, 1) := by decide +kernel
theorem dX8_output_0 : decode cX8_output 0 = .ok (.aload_n 0, 1) := by decide +kernel
theorem dX8_output_1 : decode cX8_output 1 = .ok (.iconst 0, 1) := by decide +kernel
theorem dX8_output_2 : decode cX8_output 2 = .ok (.putfield 90, 3) := by decide +kernel
theorem dX8_output_5 : decode cX8_output 5 = .ok (.iload_n 1, 1) := by decide +kernel
theorem dX8_output_6 : decode cX8_output 6 = .ok (.iconst 0, 1) := by decide +kernel
theorem dX8_output_7 : decode cX8_output 7 = .ok (.aload_n 0, 1) := by decide +kernel
theorem dX8_output_8 : decode cX8_output 8 = .ok (.getfield 365, 3) := by decide +kernel
theorem dX8_output_11 : decode cX8_output 11 = .ok (.iconst 1, 1) := by decide +kernel
theorem dX8_output_12 : decode cX8_output 12 = .ok (.isub, 1) := by decide +kernel
theorem dX8_output_13 : decode cX8_output 13 = .ok (.invokestatic 124, 3) := by decide +kernel
theorem dX8_output_16 : decode cX8_output 16 = .ok (.ifCond .eq 12, 3) := by decide +kernel
theorem dX8_output_19 : decode cX8_output 19 = .ok (.aload_n 0, 1) := by decide +kernel
theorem dX8_output_20 : decode cX8_output 20 = .ok (.getfield 79, 3) := by decide +kernel
theorem dX8_output_23 : decode cX8_output 23 = .ok (.iload_n 1, 1) := by decide +kernel
theorem dX8_output_24 : decode cX8_output 24 = .ok (.baload, 1) := by decide +kernel
theorem dX8_output_25 : decode cX8_output 25 = .ok (.goto 4, 3) := by decide +kernel
theorem dX8_output_28 : decode cX8_output 28 = .ok (.iconst (-1), 1) := by decide +kernel
theorem dX8_output_29 : decode cX8_output 29 = .ok (.ireturn, 1) := by decide +kernel
theorem dX8_undo_0 : decode cX8_undo 0 = .ok (.aload_n 0, 1) := by decide +kernel
theorem dX8_undo_1 : decode cX8_undo 1 = .ok (.iconst 0, 1) := by decide +kernel
theorem dX8_undo_2 : decode cX8_undo 2 = .ok (.putfield 90, 3) := by decide +kernel
theorem dX8_undo_5 : decode cX8_undo 5 = .ok (.aload_n 0, 1) := by decide +kernel
theorem dX8_undo_6 : decode cX8_undo 6 = .ok (.getfield 191, 3) := by decide +kernel
theorem dX8_undo_9 : decode cX8_undo 9 = .ok (.ifCond .ne 5, 3) := by decide +kernel
theorem dX8_undo_12 : decode cX8_undo 12 = .ok (.iconst (-1), 1) := by decide +kernel
theorem dX8_undo_13 : decode cX8_undo 13 = .ok (.ireturn, 1) := by decide +kernel
theorem dX8_undo_14 : decode cX8_undo 14 = .ok (.aload_n 0, 1) := by decide +kernel
theorem dX8_undo_15 : decode cX8_undo 15 = .ok (.dup, 1) := by decide +kernel
theorem dX8_undo_16 : decode cX8_undo 16 = .ok (.getfield 191, 3) := by decide +kernel
theorem dX8_undo_19 : decode cX8_undo 19 = .ok (.iconst 1, 1) := by decide +kernel
theorem dX8_undo_20 : decode cX8_undo 20 = .ok (.isub, 1) := by decide +kernel
theorem dX8_undo_21 : decode cX8_undo 21 = .ok (.putfield 191, 3) := by decide +kernel
theorem dX8_undo_24 : decode cX8_undo 24 = .ok (.aload_n 0, 1) := by decide +kernel
theorem dX8_undo_25 : decode cX8_undo 25 = .ok (.getfield 16, 3) := by decide +kernel
theorem dX8_undo_28 : decode cX8_undo 28 = .ok (.sipush 828, 3) := by decide +kernel
theorem dX8_undo_31 : decode cX8_undo 31 = .ok (.aload_n 0, 1) := by decide +kernel
theorem dX8_undo_32 : decode cX8_undo 32 = .ok (.getfield 191, 3) := by decide +kernel
theorem dX8_undo_35 : decode cX8_undo 35 = .ok (.imul, 1) := by decide +kernel
theorem dX8_undo_36 : decode cX8_undo 36 = .ok (.aload_n 0, 1) := by decide +kernel
theorem dX8_undo_37 : decode cX8_undo 37 = .ok (.getfield 7, 3) := by decide +kernel
theorem dX8_undo_40 : decode cX8_undo 40 = .ok (.iconst 0, 1) := by decide +kernel
theorem dX8_undo_41 : decode cX8_undo 41 = .ok (.invokestatic 86, 3) := by decide +kernel
theorem dX8_undo_44 : decode cX8_undo 44 = .ok (.aload_n 0, 1) := by decide +kernel
theorem dX8_undo_45 : decode cX8_undo 45 = .ok (.getfield 191, 3) := by decide +kernel
theorem dX8_undo_48 : decode cX8_undo 48 = .ok (.ireturn, 1) := by decide +kernel
theorem dX8_save_0 : decode cX8_save 0 = .ok (.aload_n 0, 1) := by decide +kernel
theorem dX8_save_1 : decode cX8_save 1 = .ok (.iload_n 1, 1) := by decide +kernel
theorem dX8_save_2 : decode cX8_save 2 = .ok (.iconst 0, 1) := by decide +kernel
theorem dX8_save_3 : decode cX8_save 3 = .ok (.iconst 1, 1) := by decide +kernel
theorem dX8_save_4 : decode cX8_save 4 = .ok (.invokestatic 124, 3) := by decide +kernel
theorem dX8_save_7 : decode cX8_save 7 = .ok (.ifCond .eq 7, 3) := by decide +kernel
theorem dX8_save_10 : decode cX8_save 10 = .ok (.iconst 0, 1) := by decide +kernel
theorem dX8_save_11 : decode cX8_save 11 = .ok (.goto 4, 3) := by decide +kernel
theorem dX8_save_14 : decode cX8_save 14 = .ok (.iconst 1, 1) := by decide +kernel
theorem dX8_save_15 : decode cX8_save 15 = .ok (.putfield 90, 3) := by decide +kernel
theorem dX8_save_18 : decode cX8_save 18 = .ok (.aload_n 0, 1) := by decide +kernel
theorem dX8_save_19 : decode cX8_save 19 = .ok (.getfield 90, 3) := by decide +kernel
theorem dX8_save_22 : decode cX8_save 22 = .ok (.ifCond .le 4, 3) := by decide +kernel
theorem dX8_save_25 : decode cX8_save 25 = .ok (.return_, 1) := by decide +kernel
theorem dX8_save_26 : decode cX8_save 26 = .ok (.aload_n 0, 1) := by decide +kernel
theorem dX8_save_27 : decode cX8_save 27 = .ok (.getfield 7, 3) := by decide +kernel
theorem dX8_save_30 : decode cX8_save 30 = .ok (.iconst 0, 1) := by decide +kernel
theorem dX8_save_31 : decode cX8_save 31 = .ok (.aload_n 0, 1) := by decide +kernel
theorem dX8_save_32 : decode cX8_save 32 = .ok (.getfield 19, 3) := by decide +kernel
theorem dX8_save_35 : decode cX8_save 35 = .ok (.sipush 828, 3) := by decide +kernel
theorem dX8_save_38 : decode cX8_save 38 = .ok (.iload_n 1, 1) := by decide +kernel
theorem dX8_save_39 : decode cX8_save 39 = .ok (.imul, 1) := by decide +kernel
theorem dX8_save_40 : decode cX8_save 40 = .ok (.invokestatic 86, 3) := by decide +kernel
theorem dX8_save_43 : decode cX8_save 43 = .ok (.aload_n 0, 1) := by decide +kernel
theorem dX8_save_44 : decode cX8_save 44 = .ok (.getfield 22, 3) := by decide +kernel
theorem dX8_save_47 : decode cX8_save 47 = .ok (.iload_n 1, 1) := by decide +kernel
theorem dX8_save_48 : decode cX8_save 48 = .ok (.iconst 1, 1) := by decide +kernel
theorem dX8_save_49 : decode cX8_save 49 = .ok (.bastore, 1) := by decide +kernel
theorem dX8_save_50 : decode cX8_save 50 = .ok (.return_, 1) := by decide +kernel
theorem dX8_restore_0 : decode cX8_restore 0 = .ok (.aload_n 0, 1) := by decide +kernel
theorem dX8_restore_1 : decode cX8_restore 1 = .ok (.iload_n 1, 1) := by decide +kernel
theorem dX8_restore_2 : decode cX8_restore 2 = .ok (.iconst 0, 1) := by decide +kernel
theorem dX8_restore_3 : decode cX8_restore 3 = .ok (.iconst 1, 1) := by decide +kernel
theorem dX8_restore_4 : decode cX8_restore 4 = .ok (.invokestatic 124, 3) := by decide +kernel
theorem dX8_restore_7 : decode cX8_restore 7 = .ok (.ifCond .ne 7, 3) := by decide +kernel
theorem dX8_restore_10 : decode cX8_restore 10 = .ok (.iconst 1, 1) := by decide +kernel
theorem dX8_restore_11 : decode cX8_restore 11 = .ok (.goto 17, 3) := by decide +kernel
theorem dX8_restore_14 : decode cX8_restore 14 = .ok (.aload_n 0, 1) := by decide +kernel
theorem dX8_restore_15 : decode cX8_restore 15 = .ok (.getfield 22, 3) := by decide +kernel
theorem dX8_restore_18 : decode cX8_restore 18 = .ok (.iload_n 1, 1) := by decide +kernel
theorem dX8_restore_19 : decode cX8_restore 19 = .ok (.baload, 1) := by decide +kernel
theorem dX8_restore_20 : decode cX8_restore 20 = .ok (.ifCond .eq 7, 3) := by decide +kernel
theorem dX8_restore_23 : decode cX8_restore 23 = .ok (.iconst 0, 1) := by decide +kernel
theorem dX8_restore_24 : decode cX8_restore 24 = .ok (.goto 4, 3) := by decide +kernel
theorem dX8_restore_27 : decode cX8_restore 27 = .ok (.iconst 2, 1) := by decide +kernel
theorem dX8_restore_28 : decode cX8_restore 28 = .ok (.putfield 90, 3) := by decide +kernel
theorem dX8_restore_31 : decode cX8_restore 31 = .ok (.aload_n 0, 1) := by decide +kernel
theorem dX8_restore_32 : decode cX8_restore 32 = .ok (.getfield 90, 3) := by decide +kernel
theorem dX8_restore_35 : decode cX8_restore 35 = .ok (.ifCond .le 4, 3) := by decide +kernel
theorem dX8_restore_38 : decode cX8_restore 38 = .ok (.return_, 1) := by decide +kernel
theorem dX8_restore_39 : decode cX8_restore 39 = .ok (.aload_n 0, 1) := by decide +kernel
theorem dX8_restore_40 : decode cX8_restore 40 = .ok (.getfield 19, 3) := by decide +kernel
theorem dX8_restore_43 : decode cX8_restore 43 = .ok (.sipush 828, 3) := by decide +kernel
theorem dX8_restore_46 : decode cX8_restore 46 = .ok (.iload_n 1, 1) := by decide +kernel
theorem dX8_restore_47 : decode cX8_restore 47 = .ok (.imul, 1) := by decide +kernel
theorem dX8_restore_48 : decode cX8_restore 48 = .ok (.aload_n 0, 1) := by decide +kernel
theorem dX8_restore_49 : decode cX8_restore 49 = .ok (.getfield 7, 3) := by decide +kernel
theorem dX8_restore_52 : decode cX8_restore 52 = .ok (.iconst 0, 1) := by decide +kernel
theorem dX8_restore_53 : decode cX8_restore 53 = .ok (.invokestatic 86, 3) := by decide +kernel
theorem dX8_restore_56 : decode cX8_restore 56 = .ok (.aload_n 0, 1) := by decide +kernel
theorem dX8_restore_57 : decode cX8_restore 57 = .ok (.iconst 0, 1) := by decide +kernel
theorem dX8_restore_58 : decode cX8_restore 58 = .ok (.putfield 191, 3) := by decide +kernel
theorem dX8_restore_61 : decode cX8_restore 61 = .ok (.return_, 1) := by decide +kernel
