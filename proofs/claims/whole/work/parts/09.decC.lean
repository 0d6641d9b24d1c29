/-! ===== decode rows ===== -/
theorem dX12_init_0 : decode cX12_init 0 = .ok (.aload_n 0, 1) := by decide +kernel
theorem dX12_init_1 : decode cX12_init 1 = .ok (.invokespecial 1, 3) := by decide +kernel
theorem dX12_init_4 : decode cX12_init 4 = .ok (.aload_n 0, 1) := by decide +kernel
theorem dX12_init_5 : decode cX12_init 5 = .ok (.bipush 100, 2) := by decide +kernel
theorem dX12_init_7 : decode cX12_init 7 = .ok (.newarray .byte, 2) := by decide +kernel
theorem dX12_init_9 : decode cX12_init 9 = .ok (.putfield 7, 3) := by decide +kernel
theorem dX12_init_12 : decode cX12_init 12 = .ok (.aload_n 0, 1) := by decide +kernel
theorem dX12_init_13 : decode cX12_init 13 = .ok (.sipush 1700, 3) := by decide +kernel
theorem dX12_init_16 : decode cX12_init 16 = .ok (.putfield 13, 3) := by decide +kernel
theorem dX12_init_19 : decode cX12_init 19 = .ok (.aload_n 0, 1) := by decide +kernel
theorem dX12_init_20 : decode cX12_init 20 = .ok (.iconst 5, 1) := by decide +kernel
theorem dX12_init_21 : decode cX12_init 21 = .ok (.putfield 17, 3) := by decide +kernel
theorem dX12_init_24 : decode cX12_init 24 = .ok (.aload_n 0, 1) := by decide +kernel
theorem dX12_init_25 : decode cX12_init 25 = .ok (.bipush 16, 2) := by decide +kernel
theorem dX12_init_27 : decode cX12_init 27 = .ok (.newarray .int, 2) := by decide +kernel
theorem dX12_init_29 : decode cX12_init 29 = .ok (.putfield 20, 3) := by decide +kernel
theorem dX12_init_32 : decode cX12_init 32 = .ok (.aload_n 0, 1) := by decide +kernel
theorem dX12_init_33 : decode cX12_init 33 = .ok (.bipush 16, 2) := by decide +kernel
theorem dX12_init_35 : decode cX12_init 35 = .ok (.newarray .int, 2) := by decide +kernel
theorem dX12_init_37 : decode cX12_init 37 = .ok (.putfield 24, 3) := by decide +kernel
theorem dX12_init_40 : decode cX12_init 40 = .ok (.aload_n 0, 1) := by decide +kernel
theorem dX12_init_41 : decode cX12_init 41 = .ok (.bipush 16, 2) := by decide +kernel
theorem dX12_init_43 : decode cX12_init 43 = .ok (.newarray .int, 2) := by decide +kernel
theorem dX12_init_45 : decode cX12_init 45 = .ok (.putfield 27, 3) := by decide +kernel
theorem dX12_init_48 : decode cX12_init 48 = .ok (.aload_n 0, 1) := by decide +kernel
theorem dX12_init_49 : decode cX12_init 49 = .ok (.bipush 16, 2) := by decide +kernel
theorem dX12_init_51 : decode cX12_init 51 = .ok (.newarray .int, 2) := by decide +kernel
theorem dX12_init_53 : decode cX12_init 53 = .ok (.putfield 30, 3) := by decide +kernel
theorem dX12_init_56 : decode cX12_init 56 = .ok (.aload_n 0, 1) := by decide +kernel
theorem dX12_init_57 : decode cX12_init 57 = .ok (.bipush 16, 2) := by decide +kernel
theorem dX12_init_59 : decode cX12_init 59 = .ok (.newarray .int, 2) := by decide +kernel
theorem dX12_init_61 : decode cX12_init 61 = .ok (.putfield 33, 3) := by decide +kernel
theorem dX12_init_64 : decode cX12_init 64 = .ok (.aload_n 0, 1) := by decide +kernel
theorem dX12_init_65 : decode cX12_init 65 = .ok (.bipush 48, 2) := by decide +kernel
theorem dX12_init_67 : decode cX12_init 67 = .ok (.newarray .int, 2) := by decide +kernel
theorem dX12_init_69 : decode cX12_init 69 = .ok (.putfield 36, 3) := by decide +kernel
theorem dX12_init_72 : decode cX12_init 72 = .ok (.aload_n 0, 1) := by decide +kernel
theorem dX12_init_73 : decode cX12_init 73 = .ok (.bipush 10, 2) := by decide +kernel
theorem dX12_init_75 : decode cX12_init 75 = .ok (.newarray .int, 2) := by decide +kernel
theorem dX12_init_77 : decode cX12_init 77 = .ok (.putfield 39, 3) := by decide +kernel
theorem dX12_init_80 : decode cX12_init 80 = .ok (.aload_n 0, 1) := by decide +kernel
theorem dX12_init_81 : decode cX12_init 81 = .ok (.bipush 10, 2) := by decide +kernel
theorem dX12_init_83 : decode cX12_init 83 = .ok (.newarray .int, 2) := by decide +kernel
theorem dX12_init_85 : decode cX12_init 85 = .ok (.putfield 42, 3) := by decide +kernel
theorem dX12_init_88 : decode cX12_init 88 = .ok (.aload_n 0, 1) := by decide +kernel
theorem dX12_init_89 : decode cX12_init 89 = .ok (.bipush 10, 2) := by decide +kernel
theorem dX12_init_91 : decode cX12_init 91 = .ok (.newarray .int, 2) := by decide +kernel
theorem dX12_init_93 : decode cX12_init 93 = .ok (.putfield 45, 3) := by decide +kernel
theorem dX12_init_96 : decode cX12_init 96 = .ok (.aload_n 0, 1) := by decide +kernel
theorem dX12_init_97 : decode cX12_init 97 = .ok (.bipush 10, 2) := by decide +kernel
theorem dX12_init_99 : decode cX12_init 99 = .ok (.newarray .int, 2) := by decide +kernel
theorem dX12_init_101 : decode cX12_init 101 = .ok (.putfield 48, 3) := by decide +kernel
theorem dX12_init_104 : decode cX12_init 104 = .ok (.aload_n 0, 1) := by decide +kernel
theorem dX12_init_105 : decode cX12_init 105 = .ok (.bipush 80, 2) := by decide +kernel
theorem dX12_init_107 : decode cX12_init 107 = .ok (.newarray .int, 2) := by decide +kernel
theorem dX12_init_109 : decode cX12_init 109 = .ok (.putfield 51, 3) := by decide +kernel
theorem dX12_init_112 : decode cX12_init 112 = .ok (.aload_n 0, 1) := by decide +kernel
theorem dX12_init_113 : decode cX12_init 113 = .ok (.bipush 80, 2) := by decide +kernel
theorem dX12_init_115 : decode cX12_init 115 = .ok (.newarray .int, 2) := by decide +kernel
theorem dX12_init_117 : decode cX12_init 117 = .ok (.putfield 54, 3) := by decide +kernel
theorem dX12_init_120 : decode cX12_init 120 = .ok (.aload_n 0, 1) := by decide +kernel
theorem dX12_init_121 : decode cX12_init 121 = .ok (.bipush 80, 2) := by decide +kernel
theorem dX12_init_123 : decode cX12_init 123 = .ok (.newarray .int, 2) := by decide +kernel
theorem dX12_init_125 : decode cX12_init 125 = .ok (.putfield 57, 3) := by decide +kernel
theorem dX12_init_128 : decode cX12_init 128 = .ok (.aload_n 0, 1) := by decide +kernel
theorem dX12_init_129 : decode cX12_init 129 = .ok (.sipush 320, 3) := by decide +kernel
theorem dX12_init_132 : decode cX12_init 132 = .ok (.newarray .boolean, 2) := by decide +kernel
theorem dX12_init_134 : decode cX12_init 134 = .ok (.putfield 60, 3) := by decide +kernel
theorem dX12_init_137 : decode cX12_init 137 = .ok (.aload_n 0, 1) := by decide +kernel
theorem dX12_init_138 : decode cX12_init 138 = .ok (.sipush 320, 3) := by decide +kernel
theorem dX12_init_141 : decode cX12_init 141 = .ok (.newarray .int, 2) := by decide +kernel
theorem dX12_init_143 : decode cX12_init 143 = .ok (.putfield 64, 3) := by decide +kernel
theorem dX12_init_146 : decode cX12_init 146 = .ok (.aload_n 0, 1) := by decide +kernel
theorem dX12_init_147 : decode cX12_init 147 = .ok (.sipush 320, 3) := by decide +kernel
theorem dX12_init_150 : decode cX12_init 150 = .ok (.newarray .int, 2) := by decide +kernel
theorem dX12_init_152 : decode cX12_init 152 = .ok (.putfield 67, 3) := by decide +kernel
theorem dX12_init_155 : decode cX12_init 155 = .ok (.aload_n 0, 1) := by decide +kernel
theorem dX12_init_156 : decode cX12_init 156 = .ok (.sipush 1000, 3) := by decide +kernel
theorem dX12_init_159 : decode cX12_init 159 = .ok (.newarray .int, 2) := by decide +kernel
theorem dX12_init_161 : decode cX12_init 161 = .ok (.putfield 70, 3) := by decide +kernel
theorem dX12_init_164 : decode cX12_init 164 = .ok (.aload_n 0, 1) := by decide +kernel
theorem dX12_init_165 : decode cX12_init 165 = .ok (.sipush 1000, 3) := by decide +kernel
theorem dX12_init_168 : decode cX12_init 168 = .ok (.newarray .int, 2) := by decide +kernel
theorem dX12_init_170 : decode cX12_init 170 = .ok (.putfield 73, 3) := by decide +kernel
theorem dX12_init_173 : decode cX12_init 173 = .ok (.aload_n 0, 1) := by decide +kernel
theorem dX12_init_174 : decode cX12_init 174 = .ok (.bipush 120, 2) := by decide +kernel
theorem dX12_init_176 : decode cX12_init 176 = .ok (.newarray .int, 2) := by decide +kernel
theorem dX12_init_178 : decode cX12_init 178 = .ok (.putfield 76, 3) := by decide +kernel
theorem dX12_init_181 : decode cX12_init 181 = .ok (.aload_n 0, 1) := by decide +kernel
theorem dX12_init_182 : decode cX12_init 182 = .ok (.bipush 120, 2) := by decide +kernel
theorem dX12_init_184 : decode cX12_init 184 = .ok (.newarray .boolean, 2) := by decide +kernel
theorem dX12_init_186 : decode cX12_init 186 = .ok (.putfield 79, 3) := by decide +kernel
theorem dX12_init_189 : decode cX12_init 189 = .ok (.aload_n 0, 1) := by decide +kernel
theorem dX12_init_190 : decode cX12_init 190 = .ok (.bipush 16, 2) := by decide +kernel
theorem dX12_init_192 : decode cX12_init 192 = .ok (.newarray .int, 2) := by decide +kernel
theorem dX12_init_194 : decode cX12_init 194 = .ok (.putfield 82, 3) := by decide +kernel
theorem dX12_init_197 : decode cX12_init 197 = .ok (.aload_n 0, 1) := by decide +kernel
theorem dX12_init_198 : decode cX12_init 198 = .ok (.iconst 4, 1) := by decide +kernel
theorem dX12_init_199 : decode cX12_init 199 = .ok (.newarray .int, 2) := by decide +kernel
theorem dX12_init_201 : decode cX12_init 201 = .ok (.putfield 85, 3) := by decide +kernel
theorem dX12_init_204 : decode cX12_init 204 = .ok (.aload_n 0, 1) := by decide +kernel
theorem dX12_init_205 : decode cX12_init 205 = .ok (.bipush 16, 2) := by decide +kernel
theorem dX12_init_207 : decode cX12_init 207 = .ok (.newarray .int, 2) := by decide +kernel
theorem dX12_init_209 : decode cX12_init 209 = .ok (.putfield 88, 3) := by decide +kernel
theorem dX12_init_212 : decode cX12_init 212 = .ok (.aload_n 0, 1) := by decide +kernel
theorem dX12_init_213 : decode cX12_init 213 = .ok (.bipush 40, 2) := by decide +kernel
theorem dX12_init_215 : decode cX12_init 215 = .ok (.newarray .int, 2) := by decide +kernel
theorem dX12_init_217 : decode cX12_init 217 = .ok (.putfield 91, 3) := by decide +kernel
theorem dX12_init_220 : decode cX12_init 220 = .ok (.aload_n 0, 1) := by decide +kernel
theorem dX12_init_221 : decode cX12_init 221 = .ok (.bipush 40, 2) := by decide +kernel
theorem dX12_init_223 : decode cX12_init 223 = .ok (.newarray .int, 2) := by decide +kernel
theorem dX12_init_225 : decode cX12_init 225 = .ok (.putfield 94, 3) := by decide +kernel
theorem dX12_init_228 : decode cX12_init 228 = .ok (.aload_n 0, 1) := by decide +kernel
theorem dX12_init_229 : decode cX12_init 229 = .ok (.bipush 40, 2) := by decide +kernel
theorem dX12_init_231 : decode cX12_init 231 = .ok (.newarray .int, 2) := by decide +kernel
theorem dX12_init_233 : decode cX12_init 233 = .ok (.putfield 97, 3) := by decide +kernel
theorem dX12_init_236 : decode cX12_init 236 = .ok (.aload_n 0, 1) := by decide +kernel
theorem dX12_init_237 : decode cX12_init 237 = .ok (.bipush 40, 2) := by decide +kernel
theorem dX12_init_239 : decode cX12_init 239 = .ok (.newarray .int, 2) := by decide +kernel
theorem dX12_init_241 : decode cX12_init 241 = .ok (.putfield 100, 3) := by decide +kernel
theorem dX12_init_244 : decode cX12_init 244 = .ok (.aload_n 0, 1) := by decide +kernel
theorem dX12_init_245 : decode cX12_init 245 = .ok (.bipush 40, 2) := by decide +kernel
theorem dX12_init_247 : decode cX12_init 247 = .ok (.newarray .int, 2) := by decide +kernel
theorem dX12_init_249 : decode cX12_init 249 = .ok (.putfield 103, 3) := by decide +kernel
theorem dX12_init_252 : decode cX12_init 252 = .ok (.aload_n 0, 1) := by decide +kernel
theorem dX12_init_253 : decode cX12_init 253 = .ok (.bipush 40, 2) := by decide +kernel
theorem dX12_init_255 : decode cX12_init 255 = .ok (.newarray .int, 2) := by decide +kernel
theorem dX12_init_257 : decode cX12_init 257 = .ok (.putfield 106, 3) := by decide +kernel
theorem dX12_init_260 : decode cX12_init 260 = .ok (.aload_n 0, 1) := by decide +kernel
theorem dX12_init_261 : decode cX12_init 261 = .ok (.bipush 40, 2) := by decide +kernel
theorem dX12_init_263 : decode cX12_init 263 = .ok (.newarray .boolean, 2) := by decide +kernel
theorem dX12_init_265 : decode cX12_init 265 = .ok (.putfield 109, 3) := by decide +kernel
theorem dX12_init_268 : decode cX12_init 268 = .ok (.aload_n 0, 1) := by decide +kernel
theorem dX12_init_269 : decode cX12_init 269 = .ok (.bipush 40, 2) := by decide +kernel
theorem dX12_init_271 : decode cX12_init 271 = .ok (.newarray .int, 2) := by decide +kernel
theorem dX12_init_273 : decode cX12_init 273 = .ok (.putfield 112, 3) := by decide +kernel
theorem dX12_init_276 : decode cX12_init 276 = .ok (.aload_n 0, 1) := by decide +kernel
theorem dX12_init_277 : decode cX12_init 277 = .ok (.bipush 40, 2) := by decide +kernel
theorem dX12_init_279 : decode cX12_init 279 = .ok (.newarray .int, 2) := by decide +kernel
theorem dX12_init_281 : decode cX12_init 281 = .ok (.putfield 115, 3) := by decide +kernel
theorem dX12_init_284 : decode cX12_init 284 = .ok (.aload_n 0, 1) := by decide +kernel
theorem dX12_init_285 : decode cX12_init 285 = .ok (.bipush 40, 2) := by decide +kernel
theorem dX12_init_287 : decode cX12_init 287 = .ok (.newarray .int, 2) := by decide +kernel
theorem dX12_init_289 : decode cX12_init 289 = .ok (.putfield 118, 3) := by decide +kernel
theorem dX12_init_292 : decode cX12_init 292 = .ok (.aload_n 0, 1) := by decide +kernel
theorem dX12_init_293 : decode cX12_init 293 = .ok (.bipush 20, 2) := by decide +kernel
theorem dX12_init_295 : decode cX12_init 295 = .ok (.newarray .int, 2) := by decide +kernel
theorem dX12_init_297 : decode cX12_init 297 = .ok (.putfield 121, 3) := by decide +kernel
theorem dX12_init_300 : decode cX12_init 300 = .ok (.aload_n 0, 1) := by decide +kernel
theorem dX12_init_301 : decode cX12_init 301 = .ok (.bipush 20, 2) := by decide +kernel
theorem dX12_init_303 : decode cX12_init 303 = .ok (.newarray .int, 2) := by decide +kernel
theorem dX12_init_305 : decode cX12_init 305 = .ok (.putfield 124, 3) := by decide +kernel
theorem dX12_init_308 : decode cX12_init 308 = .ok (.aload_n 0, 1) := by decide +kernel
theorem dX12_init_309 : decode cX12_init 309 = .ok (.bipush 20, 2) := by decide +kernel
theorem dX12_init_311 : decode cX12_init 311 = .ok (.newarray .int, 2) := by decide +kernel
theorem dX12_init_313 : decode cX12_init 313 = .ok (.putfield 127, 3) := by decide +kernel
theorem dX12_init_316 : decode cX12_init 316 = .ok (.aload_n 0, 1) := by decide +kernel
theorem dX12_init_317 : decode cX12_init 317 = .ok (.bipush 20, 2) := by decide +kernel
theorem dX12_init_319 : decode cX12_init 319 = .ok (.newarray .int, 2) := by decide +kernel
theorem dX12_init_321 : decode cX12_init 321 = .ok (.putfield 130, 3) := by decide +kernel
theorem dX12_init_324 : decode cX12_init 324 = .ok (.aload_n 0, 1) := by decide +kernel
theorem dX12_init_325 : decode cX12_init 325 = .ok (.bipush 20, 2) := by decide +kernel
theorem dX12_init_327 : decode cX12_init 327 = .ok (.newarray .int, 2) := by decide +kernel
theorem dX12_init_329 : decode cX12_init 329 = .ok (.putfield 133, 3) := by decide +kernel
theorem dX12_init_332 : decode cX12_init 332 = .ok (.aload_n 0, 1) := by decide +kernel
theorem dX12_init_333 : decode cX12_init 333 = .ok (.sipush 200, 3) := by decide +kernel
theorem dX12_init_336 : decode cX12_init 336 = .ok (.newarray .int, 2) := by decide +kernel
theorem dX12_init_338 : decode cX12_init 338 = .ok (.putfield 136, 3) := by decide +kernel
theorem dX12_init_341 : decode cX12_init 341 = .ok (.aload_n 0, 1) := by decide +kernel
theorem dX12_init_342 : decode cX12_init 342 = .ok (.sipush 200, 3) := by decide +kernel
theorem dX12_init_345 : decode cX12_init 345 = .ok (.newarray .int, 2) := by decide +kernel
theorem dX12_init_347 : decode cX12_init 347 = .ok (.putfield 139, 3) := by decide +kernel
theorem dX12_init_350 : decode cX12_init 350 = .ok (.aload_n 0, 1) := by decide +kernel
theorem dX12_init_351 : decode cX12_init 351 = .ok (.bipush 120, 2) := by decide +kernel
theorem dX12_init_353 : decode cX12_init 353 = .ok (.newarray .long, 2) := by decide +kernel
theorem dX12_init_355 : decode cX12_init 355 = .ok (.putfield 142, 3) := by decide +kernel
theorem dX12_init_358 : decode cX12_init 358 = .ok (.aload_n 0, 1) := by decide +kernel
theorem dX12_init_359 : decode cX12_init 359 = .ok (.bipush 100, 2) := by decide +kernel
theorem dX12_init_361 : decode cX12_init 361 = .ok (.newarray .int, 2) := by decide +kernel
theorem dX12_init_363 : decode cX12_init 363 = .ok (.putfield 146, 3) := by decide +kernel
theorem dX12_init_366 : decode cX12_init 366 = .ok (.aload_n 0, 1) := by decide +kernel
theorem dX12_init_367 : decode cX12_init 367 = .ok (.bipush 100, 2) := by decide +kernel
theorem dX12_init_369 : decode cX12_init 369 = .ok (.newarray .int, 2) := by decide +kernel
theorem dX12_init_371 : decode cX12_init 371 = .ok (.putfield 149, 3) := by decide +kernel
theorem dX12_init_374 : decode cX12_init 374 = .ok (.return_, 1) := by decide +kernel
theorem dX12_lies_0 : decode cX12_lies 0 = .ok (.lload_n 0, 1) := by decide +kernel
theorem dX12_lies_1 : decode cX12_lies 1 = .ok (.lload_n 2, 1) := by decide +kernel
theorem dX12_lies_2 : decode cX12_lies 2 = .ok (.lcmp, 1) := by decide +kernel
theorem dX12_lies_3 : decode cX12_lies 3 = .ok (.ifCond .lt 14, 3) := by decide +kernel
theorem dX12_lies_6 : decode cX12_lies 6 = .ok (.lload_n 0, 1) := by decide +kernel
theorem dX12_lies_7 : decode cX12_lies 7 = .ok (.lload 4, 2) := by decide +kernel
theorem dX12_lies_9 : decode cX12_lies 9 = .ok (.lcmp, 1) := by decide +kernel
theorem dX12_lies_10 : decode cX12_lies 10 = .ok (.ifCond .gt 7, 3) := by decide +kernel
theorem dX12_lies_13 : decode cX12_lies 13 = .ok (.iconst 1, 1) := by decide +kernel
theorem dX12_lies_14 : decode cX12_lies 14 = .ok (.goto 4, 3) := by decide +kernel
theorem dX12_lies_17 : decode cX12_lies 17 = .ok (.iconst 0, 1) := by decide +kernel
theorem dX12_lies_18 : decode cX12_lies 18 = .ok (.ireturn, 1) := by decide +kernel
theorem dX12_has_0 : decode cX12_has 0 = .ok (.iload_n 0, 1) := by decide +kernel
theorem dX12_has_1 : decode cX12_has 1 = .ok (.iload_n 1, 1) := by decide +kernel
theorem dX12_has_2 : decode cX12_has 2 = .ok (.ishr, 1) := by decide +kernel
theorem dX12_has_3 : decode cX12_has 3 = .ok (.iconst 1, 1) := by decide +kernel
theorem dX12_has_4 : decode cX12_has 4 = .ok (.iand, 1) := by decide +kernel
theorem dX12_has_5 : decode cX12_has 5 = .ok (.iconst 1, 1) := by decide +kernel
theorem dX12_has_6 : decode cX12_has 6 = .ok (.if_icmp .ne 7, 3) := by decide +kernel
theorem dX12_has_9 : decode cX12_has 9 = .ok (.iconst 1, 1) := by decide +kernel
theorem dX12_has_10 : decode cX12_has 10 = .ok (.goto 4, 3) := by decide +kernel
theorem dX12_has_13 : decode cX12_has 13 = .ok (.iconst 0, 1) := by decide +kernel
theorem dX12_has_14 : decode cX12_has 14 = .ok (.ireturn, 1) := by decide +kernel
theorem dX12_isYear_0 : decode cX12_isYear 0 = .ok (.iload_n 0, 1) := by decide +kernel
theorem dX12_isYear_1 : decode cX12_isYear 1 = .ok (.i2l, 1) := by decide +kernel
theorem dX12_isYear_2 : decode cX12_isYear 2 = .ok (.ldc2_w 152, 3) := by decide +kernel
theorem dX12_isYear_5 : decode cX12_isYear 5 = .ok (.ldc2_w 154, 3) := by decide +kernel
theorem dX12_isYear_8 : decode cX12_isYear 8 = .ok (.invokestatic 156, 3) := by decide +kernel
theorem dX12_isYear_11 : decode cX12_isYear 11 = .ok (.ireturn, 1) := by decide +kernel
theorem dX12_now_0 : decode cX12_now 0 = .ok (.iload_n 1, 1) := by decide +kernel
theorem dX12_now_1 : decode cX12_now 1 = .ok (.i2l, 1) := by decide +kernel
theorem dX12_now_2 : decode cX12_now 2 = .ok (.aload_n 0, 1) := by decide +kernel
theorem dX12_now_3 : decode cX12_now 3 = .ok (.getfield 13, 3) := by decide +kernel
theorem dX12_now_6 : decode cX12_now 6 = .ok (.i2l, 1) := by decide +kernel
theorem dX12_now_7 : decode cX12_now 7 = .ok (.ldc2_w 154, 3) := by decide +kernel
theorem dX12_now_10 : decode cX12_now 10 = .ok (.invokestatic 156, 3) := by decide +kernel
theorem dX12_now_13 : decode cX12_now 13 = .ok (.ifCond .ne 5, 3) := by decide +kernel
theorem dX12_now_16 : decode cX12_now 16 = .ok (.iconst 0, 1) := by decide +kernel
theorem dX12_now_17 : decode cX12_now 17 = .ok (.ireturn, 1) := by decide +kernel
theorem dX12_now_18 : decode cX12_now 18 = .ok (.aload_n 0, 1) := by decide +kernel
theorem dX12_now_19 : decode cX12_now 19 = .ok (.iload_n 1, 1) := by decide +kernel
theorem dX12_now_20 : decode cX12_now 20 = .ok (.putfield 13, 3) := by decide +kernel
theorem dX12_now_23 : decode cX12_now 23 = .ok (.iconst 1, 1) := by decide +kernel
theorem dX12_now_24 : decode cX12_now 24 = .ok (.ireturn, 1) := by decide +kernel
theorem dX12_isPerson_0 : decode cX12_isPerson 0 = .ok (.iload_n 1, 1) := by decide +kernel
theorem dX12_isPerson_1 : decode cX12_isPerson 1 = .ok (.i2l, 1) := by decide +kernel
theorem dX12_isPerson_2 : decode cX12_isPerson 2 = .ok (.lconst 0, 1) := by decide +kernel
theorem dX12_isPerson_3 : decode cX12_isPerson 3 = .ok (.aload_n 0, 1) := by decide +kernel
theorem dX12_isPerson_4 : decode cX12_isPerson 4 = .ok (.getfield 160, 3) := by decide +kernel
theorem dX12_isPerson_7 : decode cX12_isPerson 7 = .ok (.iconst 1, 1) := by decide +kernel
theorem dX12_isPerson_8 : decode cX12_isPerson 8 = .ok (.isub, 1) := by decide +kernel
theorem dX12_isPerson_9 : decode cX12_isPerson 9 = .ok (.i2l, 1) := by decide +kernel
theorem dX12_isPerson_10 : decode cX12_isPerson 10 = .ok (.invokestatic 156, 3) := by decide +kernel
theorem dX12_isPerson_13 : decode cX12_isPerson 13 = .ok (.ireturn, 1) := by decide +kernel
theorem dX12_person_0 : decode cX12_person 0 = .ok (.aload_n 0, 1) := by decide +kernel
theorem dX12_person_1 : decode cX12_person 1 = .ok (.getfield 160, 3) := by decide +kernel
theorem dX12_person_4 : decode cX12_person 4 = .ok (.bipush 16, 2) := by decide +kernel
theorem dX12_person_6 : decode cX12_person 6 = .ok (.if_icmp .eq 42, 3) := by decide +kernel
theorem dX12_person_9 : decode cX12_person 9 = .ok (.iload_n 1, 1) := by decide +kernel
theorem dX12_person_10 : decode cX12_person 10 = .ok (.i2l, 1) := by decide +kernel
theorem dX12_person_11 : decode cX12_person 11 = .ok (.ldc2_w 163, 3) := by decide +kernel
theorem dX12_person_14 : decode cX12_person 14 = .ok (.aload_n 0, 1) := by decide +kernel
theorem dX12_person_15 : decode cX12_person 15 = .ok (.getfield 13, 3) := by decide +kernel
theorem dX12_person_18 : decode cX12_person 18 = .ok (.i2l, 1) := by decide +kernel
theorem dX12_person_19 : decode cX12_person 19 = .ok (.invokestatic 156, 3) := by decide +kernel
theorem dX12_person_22 : decode cX12_person 22 = .ok (.ifCond .eq 26, 3) := by decide +kernel
theorem dX12_person_25 : decode cX12_person 25 = .ok (.iload_n 2, 1) := by decide +kernel
theorem dX12_person_26 : decode cX12_person 26 = .ok (.iconst (-1), 1) := by decide +kernel
theorem dX12_person_27 : decode cX12_person 27 = .ok (.if_icmp .eq 23, 3) := by decide +kernel
theorem dX12_person_30 : decode cX12_person 30 = .ok (.aload_n 0, 1) := by decide +kernel
theorem dX12_person_31 : decode cX12_person 31 = .ok (.iload_n 2, 1) := by decide +kernel
theorem dX12_person_32 : decode cX12_person 32 = .ok (.invokevirtual 165, 3) := by decide +kernel
theorem dX12_person_35 : decode cX12_person 35 = .ok (.ifCond .eq 13, 3) := by decide +kernel
theorem dX12_person_38 : decode cX12_person 38 = .ok (.iload_n 1, 1) := by decide +kernel
theorem dX12_person_39 : decode cX12_person 39 = .ok (.aload_n 0, 1) := by decide +kernel
theorem dX12_person_40 : decode cX12_person 40 = .ok (.getfield 20, 3) := by decide +kernel
theorem dX12_person_43 : decode cX12_person 43 = .ok (.iload_n 2, 1) := by decide +kernel
theorem dX12_person_44 : decode cX12_person 44 = .ok (.iaload, 1) := by decide +kernel
theorem dX12_person_45 : decode cX12_person 45 = .ok (.if_icmp .ge 5, 3) := by decide +kernel
theorem dX12_person_48 : decode cX12_person 48 = .ok (.iconst (-1), 1) := by decide +kernel
theorem dX12_person_49 : decode cX12_person 49 = .ok (.ireturn, 1) := by decide +kernel
theorem dX12_person_50 : decode cX12_person 50 = .ok (.aload_n 0, 1) := by decide +kernel
theorem dX12_person_51 : decode cX12_person 51 = .ok (.getfield 20, 3) := by decide +kernel
theorem dX12_person_54 : decode cX12_person 54 = .ok (.aload_n 0, 1) := by decide +kernel
theorem dX12_person_55 : decode cX12_person 55 = .ok (.getfield 160, 3) := by decide +kernel
theorem dX12_person_58 : decode cX12_person 58 = .ok (.iload_n 1, 1) := by decide +kernel
theorem dX12_person_59 : decode cX12_person 59 = .ok (.iastore, 1) := by decide +kernel
theorem dX12_person_60 : decode cX12_person 60 = .ok (.aload_n 0, 1) := by decide +kernel
theorem dX12_person_61 : decode cX12_person 61 = .ok (.getfield 24, 3) := by decide +kernel
theorem dX12_person_64 : decode cX12_person 64 = .ok (.aload_n 0, 1) := by decide +kernel
theorem dX12_person_65 : decode cX12_person 65 = .ok (.getfield 160, 3) := by decide +kernel
theorem dX12_person_68 : decode cX12_person 68 = .ok (.iload_n 2, 1) := by decide +kernel
theorem dX12_person_69 : decode cX12_person 69 = .ok (.iastore, 1) := by decide +kernel
theorem dX12_person_70 : decode cX12_person 70 = .ok (.aload_n 0, 1) := by decide +kernel
theorem dX12_person_71 : decode cX12_person 71 = .ok (.getfield 27, 3) := by decide +kernel
theorem dX12_person_74 : decode cX12_person 74 = .ok (.aload_n 0, 1) := by decide +kernel
theorem dX12_person_75 : decode cX12_person 75 = .ok (.getfield 160, 3) := by decide +kernel
theorem dX12_person_78 : decode cX12_person 78 = .ok (.aload_n 0, 1) := by decide +kernel
theorem dX12_person_79 : decode cX12_person 79 = .ok (.getfield 13, 3) := by decide +kernel
theorem dX12_person_82 : decode cX12_person 82 = .ok (.iastore, 1) := by decide +kernel
theorem dX12_person_83 : decode cX12_person 83 = .ok (.aload_n 0, 1) := by decide +kernel
theorem dX12_person_84 : decode cX12_person 84 = .ok (.getfield 30, 3) := by decide +kernel
theorem dX12_person_87 : decode cX12_person 87 = .ok (.aload_n 0, 1) := by decide +kernel
theorem dX12_person_88 : decode cX12_person 88 = .ok (.getfield 160, 3) := by decide +kernel
theorem dX12_person_91 : decode cX12_person 91 = .ok (.iconst (-1), 1) := by decide +kernel
theorem dX12_person_92 : decode cX12_person 92 = .ok (.iastore, 1) := by decide +kernel
theorem dX12_person_93 : decode cX12_person 93 = .ok (.aload_n 0, 1) := by decide +kernel
theorem dX12_person_94 : decode cX12_person 94 = .ok (.dup, 1) := by decide +kernel
theorem dX12_person_95 : decode cX12_person 95 = .ok (.getfield 160, 3) := by decide +kernel
theorem dX12_person_98 : decode cX12_person 98 = .ok (.iconst 1, 1) := by decide +kernel
theorem dX12_person_99 : decode cX12_person 99 = .ok (.iadd, 1) := by decide +kernel
theorem dX12_person_100 : decode cX12_person 100 = .ok (.putfield 160, 3) := by decide +kernel
theorem dX12_person_103 : decode cX12_person 103 = .ok (.aload_n 0, 1) := by decide +kernel
theorem dX12_person_104 : decode cX12_person 104 = .ok (.getfield 160, 3) := by decide +kernel
theorem dX12_person_107 : decode cX12_person 107 = .ok (.iconst 1, 1) := by decide +kernel
theorem dX12_person_108 : decode cX12_person 108 = .ok (.isub, 1) := by decide +kernel
theorem dX12_person_109 : decode cX12_person 109 = .ok (.ireturn, 1) := by decide +kernel
theorem dX12_dies_0 : decode cX12_dies 0 = .ok (.aload_n 0, 1) := by decide +kernel
theorem dX12_dies_1 : decode cX12_dies 1 = .ok (.iload_n 1, 1) := by decide +kernel
theorem dX12_dies_2 : decode cX12_dies 2 = .ok (.invokevirtual 165, 3) := by decide +kernel
theorem dX12_dies_5 : decode cX12_dies 5 = .ok (.ifCond .eq 33, 3) := by decide +kernel
theorem dX12_dies_8 : decode cX12_dies 8 = .ok (.aload_n 0, 1) := by decide +kernel
theorem dX12_dies_9 : decode cX12_dies 9 = .ok (.getfield 30, 3) := by decide +kernel
theorem dX12_dies_12 : decode cX12_dies 12 = .ok (.iload_n 1, 1) := by decide +kernel
theorem dX12_dies_13 : decode cX12_dies 13 = .ok (.iaload, 1) := by decide +kernel
theorem dX12_dies_14 : decode cX12_dies 14 = .ok (.iconst (-1), 1) := by decide +kernel
theorem dX12_dies_15 : decode cX12_dies 15 = .ok (.if_icmp .ne 23, 3) := by decide +kernel
theorem dX12_dies_18 : decode cX12_dies 18 = .ok (.iload_n 2, 1) := by decide +kernel
theorem dX12_dies_19 : decode cX12_dies 19 = .ok (.i2l, 1) := by decide +kernel
theorem dX12_dies_20 : decode cX12_dies 20 = .ok (.aload_n 0, 1) := by decide +kernel
theorem dX12_dies_21 : decode cX12_dies 21 = .ok (.getfield 20, 3) := by decide +kernel
theorem dX12_dies_24 : decode cX12_dies 24 = .ok (.iload_n 1, 1) := by decide +kernel
theorem dX12_dies_25 : decode cX12_dies 25 = .ok (.iaload, 1) := by decide +kernel
theorem dX12_dies_26 : decode cX12_dies 26 = .ok (.i2l, 1) := by decide +kernel
theorem dX12_dies_27 : decode cX12_dies 27 = .ok (.aload_n 0, 1) := by decide +kernel
theorem dX12_dies_28 : decode cX12_dies 28 = .ok (.getfield 13, 3) := by decide +kernel
theorem dX12_dies_31 : decode cX12_dies 31 = .ok (.i2l, 1) := by decide +kernel
theorem dX12_dies_32 : decode cX12_dies 32 = .ok (.invokestatic 156, 3) := by decide +kernel
theorem dX12_dies_35 : decode cX12_dies 35 = .ok (.ifCond .ne 5, 3) := by decide +kernel
theorem dX12_dies_38 : decode cX12_dies 38 = .ok (.iconst 0, 1) := by decide +kernel
theorem dX12_dies_39 : decode cX12_dies 39 = .ok (.ireturn, 1) := by decide +kernel
theorem dX12_dies_40 : decode cX12_dies 40 = .ok (.aload_n 0, 1) := by decide +kernel
theorem dX12_dies_41 : decode cX12_dies 41 = .ok (.getfield 30, 3) := by decide +kernel
theorem dX12_dies_44 : decode cX12_dies 44 = .ok (.iload_n 1, 1) := by decide +kernel
theorem dX12_dies_45 : decode cX12_dies 45 = .ok (.iload_n 2, 1) := by decide +kernel
theorem dX12_dies_46 : decode cX12_dies 46 = .ok (.iastore, 1) := by decide +kernel
theorem dX12_dies_47 : decode cX12_dies 47 = .ok (.aload_n 0, 1) := by decide +kernel
theorem dX12_dies_48 : decode cX12_dies 48 = .ok (.getfield 33, 3) := by decide +kernel
theorem dX12_dies_51 : decode cX12_dies 51 = .ok (.iload_n 1, 1) := by decide +kernel
theorem dX12_dies_52 : decode cX12_dies 52 = .ok (.aload_n 0, 1) := by decide +kernel
theorem dX12_dies_53 : decode cX12_dies 53 = .ok (.getfield 13, 3) := by decide +kernel
theorem dX12_dies_56 : decode cX12_dies 56 = .ok (.iastore, 1) := by decide +kernel
theorem dX12_dies_57 : decode cX12_dies 57 = .ok (.iconst 1, 1) := by decide +kernel
theorem dX12_dies_58 : decode cX12_dies 58 = .ok (.ireturn, 1) := by decide +kernel
theorem dX12_isThere_0 : decode cX12_isThere 0 = .ok (.aload_n 0, 1) := by decide +kernel
theorem dX12_isThere_1 : decode cX12_isThere 1 = .ok (.iload_n 1, 1) := by decide +kernel
theorem dX12_isThere_2 : decode cX12_isThere 2 = .ok (.invokevirtual 165, 3) := by decide +kernel
theorem dX12_isThere_5 : decode cX12_isThere 5 = .ok (.ifCond .eq 17, 3) := by decide +kernel
theorem dX12_isThere_8 : decode cX12_isThere 8 = .ok (.aload_n 0, 1) := by decide +kernel
theorem dX12_isThere_9 : decode cX12_isThere 9 = .ok (.getfield 27, 3) := by decide +kernel
theorem dX12_isThere_12 : decode cX12_isThere 12 = .ok (.iload_n 1, 1) := by decide +kernel
theorem dX12_isThere_13 : decode cX12_isThere 13 = .ok (.iaload, 1) := by decide +kernel
theorem dX12_isThere_14 : decode cX12_isThere 14 = .ok (.iload_n 2, 1) := by decide +kernel
theorem dX12_isThere_15 : decode cX12_isThere 15 = .ok (.if_icmp .gt 7, 3) := by decide +kernel
theorem dX12_isThere_18 : decode cX12_isThere 18 = .ok (.iconst 1, 1) := by decide +kernel
theorem dX12_isThere_19 : decode cX12_isThere 19 = .ok (.goto 4, 3) := by decide +kernel
theorem dX12_isThere_22 : decode cX12_isThere 22 = .ok (.iconst 0, 1) := by decide +kernel
theorem dX12_isThere_23 : decode cX12_isThere 23 = .ok (.ireturn, 1) := by decide +kernel
theorem dX12_isDead_0 : decode cX12_isDead 0 = .ok (.aload_n 0, 1) := by decide +kernel
theorem dX12_isDead_1 : decode cX12_isDead 1 = .ok (.getfield 30, 3) := by decide +kernel
theorem dX12_isDead_4 : decode cX12_isDead 4 = .ok (.iload_n 1, 1) := by decide +kernel
theorem dX12_isDead_5 : decode cX12_isDead 5 = .ok (.iaload, 1) := by decide +kernel
theorem dX12_isDead_6 : decode cX12_isDead 6 = .ok (.iconst (-1), 1) := by decide +kernel
theorem dX12_isDead_7 : decode cX12_isDead 7 = .ok (.if_icmp .eq 17, 3) := by decide +kernel
theorem dX12_isDead_10 : decode cX12_isDead 10 = .ok (.aload_n 0, 1) := by decide +kernel
theorem dX12_isDead_11 : decode cX12_isDead 11 = .ok (.getfield 33, 3) := by decide +kernel
theorem dX12_isDead_14 : decode cX12_isDead 14 = .ok (.iload_n 1, 1) := by decide +kernel
theorem dX12_isDead_15 : decode cX12_isDead 15 = .ok (.iaload, 1) := by decide +kernel
theorem dX12_isDead_16 : decode cX12_isDead 16 = .ok (.iload_n 2, 1) := by decide +kernel
theorem dX12_isDead_17 : decode cX12_isDead 17 = .ok (.if_icmp .gt 7, 3) := by decide +kernel
theorem dX12_isDead_20 : decode cX12_isDead 20 = .ok (.iconst 1, 1) := by decide +kernel
theorem dX12_isDead_21 : decode cX12_isDead 21 = .ok (.goto 4, 3) := by decide +kernel
theorem dX12_isDead_24 : decode cX12_isDead 24 = .ok (.iconst 0, 1) := by decide +kernel
theorem dX12_isDead_25 : decode cX12_isDead 25 = .ok (.ireturn, 1) := by decide +kernel
theorem dX12_table_0 : decode cX12_table 0 = .ok (.iload_n 1, 1) := by decide +kernel
theorem dX12_table_1 : decode cX12_table 1 = .ok (.i2l, 1) := by decide +kernel
theorem dX12_table_2 : decode cX12_table 2 = .ok (.lconst 0, 1) := by decide +kernel
theorem dX12_table_3 : decode cX12_table 3 = .ok (.ldc2_w 169, 3) := by decide +kernel
theorem dX12_table_6 : decode cX12_table 6 = .ok (.invokestatic 156, 3) := by decide +kernel
theorem dX12_table_9 : decode cX12_table 9 = .ok (.ifCond .eq 27, 3) := by decide +kernel
theorem dX12_table_12 : decode cX12_table 12 = .ok (.iload_n 2, 1) := by decide +kernel
theorem dX12_table_13 : decode cX12_table 13 = .ok (.i2l, 1) := by decide +kernel
theorem dX12_table_14 : decode cX12_table 14 = .ok (.lconst 0, 1) := by decide +kernel
theorem dX12_table_15 : decode cX12_table 15 = .ok (.ldc2_w 171, 3) := by decide +kernel
theorem dX12_table_18 : decode cX12_table 18 = .ok (.invokestatic 156, 3) := by decide +kernel
theorem dX12_table_21 : decode cX12_table 21 = .ok (.ifCond .eq 15, 3) := by decide +kernel
theorem dX12_table_24 : decode cX12_table 24 = .ok (.iload_n 3, 1) := by decide +kernel
theorem dX12_table_25 : decode cX12_table 25 = .ok (.i2l, 1) := by decide +kernel
theorem dX12_table_26 : decode cX12_table 26 = .ok (.lconst 0, 1) := by decide +kernel
theorem dX12_table_27 : decode cX12_table 27 = .ok (.ldc2_w 173, 3) := by decide +kernel
theorem dX12_table_30 : decode cX12_table 30 = .ok (.invokestatic 156, 3) := by decide +kernel
theorem dX12_table_33 : decode cX12_table 33 = .ok (.ifCond .ne 5, 3) := by decide +kernel
theorem dX12_table_36 : decode cX12_table 36 = .ok (.iconst 0, 1) := by decide +kernel
theorem dX12_table_37 : decode cX12_table 37 = .ok (.ireturn, 1) := by decide +kernel
theorem dX12_table_38 : decode cX12_table 38 = .ok (.bipush 12, 2) := by decide +kernel
theorem dX12_table_40 : decode cX12_table 40 = .ok (.iload_n 1, 1) := by decide +kernel
theorem dX12_table_41 : decode cX12_table 41 = .ok (.imul, 1) := by decide +kernel
theorem dX12_table_42 : decode cX12_table 42 = .ok (.iload_n 2, 1) := by decide +kernel
theorem dX12_table_43 : decode cX12_table 43 = .ok (.iadd, 1) := by decide +kernel
theorem dX12_table_44 : decode cX12_table 44 = .ok (.istore 4, 2) := by decide +kernel
theorem dX12_table_46 : decode cX12_table 46 = .ok (.iload_n 2, 1) := by decide +kernel
theorem dX12_table_47 : decode cX12_table 47 = .ok (.ifCond .le 16, 3) := by decide +kernel
theorem dX12_table_50 : decode cX12_table 50 = .ok (.iload_n 3, 1) := by decide +kernel
theorem dX12_table_51 : decode cX12_table 51 = .ok (.aload_n 0, 1) := by decide +kernel
theorem dX12_table_52 : decode cX12_table 52 = .ok (.getfield 36, 3) := by decide +kernel
theorem dX12_table_55 : decode cX12_table 55 = .ok (.iload 4, 2) := by decide +kernel
theorem dX12_table_57 : decode cX12_table 57 = .ok (.iconst 1, 1) := by decide +kernel
theorem dX12_table_58 : decode cX12_table 58 = .ok (.isub, 1) := by decide +kernel
theorem dX12_table_59 : decode cX12_table 59 = .ok (.iaload, 1) := by decide +kernel
theorem dX12_table_60 : decode cX12_table 60 = .ok (.if_icmp .gt 16, 3) := by decide +kernel
theorem dX12_table_63 : decode cX12_table 63 = .ok (.iload_n 3, 1) := by decide +kernel
theorem dX12_table_64 : decode cX12_table 64 = .ok (.aload_n 0, 1) := by decide +kernel
theorem dX12_table_65 : decode cX12_table 65 = .ok (.getfield 36, 3) := by decide +kernel
theorem dX12_table_68 : decode cX12_table 68 = .ok (.iload 4, 2) := by decide +kernel
theorem dX12_table_70 : decode cX12_table 70 = .ok (.iconst 1, 1) := by decide +kernel
theorem dX12_table_71 : decode cX12_table 71 = .ok (.iadd, 1) := by decide +kernel
theorem dX12_table_72 : decode cX12_table 72 = .ok (.iaload, 1) := by decide +kernel
theorem dX12_table_73 : decode cX12_table 73 = .ok (.if_icmp .ge 5, 3) := by decide +kernel
theorem dX12_table_76 : decode cX12_table 76 = .ok (.iconst 0, 1) := by decide +kernel
theorem dX12_table_77 : decode cX12_table 77 = .ok (.ireturn, 1) := by decide +kernel
theorem dX12_table_78 : decode cX12_table 78 = .ok (.aload_n 0, 1) := by decide +kernel
theorem dX12_table_79 : decode cX12_table 79 = .ok (.getfield 36, 3) := by decide +kernel
theorem dX12_table_82 : decode cX12_table 82 = .ok (.iload 4, 2) := by decide +kernel
theorem dX12_table_84 : decode cX12_table 84 = .ok (.iload_n 3, 1) := by decide +kernel
theorem dX12_table_85 : decode cX12_table 85 = .ok (.iastore, 1) := by decide +kernel
theorem dX12_table_86 : decode cX12_table 86 = .ok (.iconst 1, 1) := by decide +kernel
theorem dX12_table_87 : decode cX12_table 87 = .ok (.ireturn, 1) := by decide +kernel
theorem dX12_livesAt_0 : decode cX12_livesAt 0 = .ok (.iload_n 2, 1) := by decide +kernel
theorem dX12_livesAt_1 : decode cX12_livesAt 1 = .ok (.bipush 110, 2) := by decide +kernel
theorem dX12_livesAt_3 : decode cX12_livesAt 3 = .ok (.if_icmp .lt 5, 3) := by decide +kernel
theorem dX12_livesAt_6 : decode cX12_livesAt 6 = .ok (.iconst 0, 1) := by decide +kernel
theorem dX12_livesAt_7 : decode cX12_livesAt 7 = .ok (.ireturn, 1) := by decide +kernel
theorem dX12_livesAt_8 : decode cX12_livesAt 8 = .ok (.bipush 12, 2) := by decide +kernel
theorem dX12_livesAt_10 : decode cX12_livesAt 10 = .ok (.iload_n 1, 1) := by decide +kernel
theorem dX12_livesAt_11 : decode cX12_livesAt 11 = .ok (.imul, 1) := by decide +kernel
theorem dX12_livesAt_12 : decode cX12_livesAt 12 = .ok (.iload_n 2, 1) := by decide +kernel
theorem dX12_livesAt_13 : decode cX12_livesAt 13 = .ok (.bipush 10, 2) := by decide +kernel
theorem dX12_livesAt_15 : decode cX12_livesAt 15 = .ok (.idiv, 1) := by decide +kernel
theorem dX12_livesAt_16 : decode cX12_livesAt 16 = .ok (.iadd, 1) := by decide +kernel
theorem dX12_livesAt_17 : decode cX12_livesAt 17 = .ok (.istore_n 3, 1) := by decide +kernel
theorem dX12_livesAt_18 : decode cX12_livesAt 18 = .ok (.aload_n 0, 1) := by decide +kernel
theorem dX12_livesAt_19 : decode cX12_livesAt 19 = .ok (.getfield 36, 3) := by decide +kernel
theorem dX12_livesAt_22 : decode cX12_livesAt 22 = .ok (.iload_n 3, 1) := by decide +kernel
theorem dX12_livesAt_23 : decode cX12_livesAt 23 = .ok (.iaload, 1) := by decide +kernel
theorem dX12_livesAt_24 : decode cX12_livesAt 24 = .ok (.aload_n 0, 1) := by decide +kernel
theorem dX12_livesAt_25 : decode cX12_livesAt 25 = .ok (.getfield 36, 3) := by decide +kernel
theorem dX12_livesAt_28 : decode cX12_livesAt 28 = .ok (.iload_n 3, 1) := by decide +kernel
theorem dX12_livesAt_29 : decode cX12_livesAt 29 = .ok (.iaload, 1) := by decide +kernel
theorem dX12_livesAt_30 : decode cX12_livesAt 30 = .ok (.aload_n 0, 1) := by decide +kernel
theorem dX12_livesAt_31 : decode cX12_livesAt 31 = .ok (.getfield 36, 3) := by decide +kernel
theorem dX12_livesAt_34 : decode cX12_livesAt 34 = .ok (.iload_n 3, 1) := by decide +kernel
theorem dX12_livesAt_35 : decode cX12_livesAt 35 = .ok (.iconst 1, 1) := by decide +kernel
theorem dX12_livesAt_36 : decode cX12_livesAt 36 = .ok (.iadd, 1) := by decide +kernel
theorem dX12_livesAt_37 : decode cX12_livesAt 37 = .ok (.iaload, 1) := by decide +kernel
theorem dX12_livesAt_38 : decode cX12_livesAt 38 = .ok (.isub, 1) := by decide +kernel
theorem dX12_livesAt_39 : decode cX12_livesAt 39 = .ok (.iload_n 2, 1) := by decide +kernel
theorem dX12_livesAt_40 : decode cX12_livesAt 40 = .ok (.bipush 10, 2) := by decide +kernel
theorem dX12_livesAt_42 : decode cX12_livesAt 42 = .ok (.irem, 1) := by decide +kernel
theorem dX12_livesAt_43 : decode cX12_livesAt 43 = .ok (.imul, 1) := by decide +kernel
theorem dX12_livesAt_44 : decode cX12_livesAt 44 = .ok (.bipush 10, 2) := by decide +kernel
theorem dX12_livesAt_46 : decode cX12_livesAt 46 = .ok (.idiv, 1) := by decide +kernel
theorem dX12_livesAt_47 : decode cX12_livesAt 47 = .ok (.isub, 1) := by decide +kernel
theorem dX12_livesAt_48 : decode cX12_livesAt 48 = .ok (.ireturn, 1) := by decide +kernel
theorem dX12_lives_0 : decode cX12_lives 0 = .ok (.iload_n 1, 1) := by decide +kernel
theorem dX12_lives_1 : decode cX12_lives 1 = .ok (.i2l, 1) := by decide +kernel
theorem dX12_lives_2 : decode cX12_lives 2 = .ok (.lconst 0, 1) := by decide +kernel
theorem dX12_lives_3 : decode cX12_lives 3 = .ok (.ldc2_w 169, 3) := by decide +kernel
theorem dX12_lives_6 : decode cX12_lives 6 = .ok (.invokestatic 156, 3) := by decide +kernel
theorem dX12_lives_9 : decode cX12_lives 9 = .ok (.ifCond .eq 24, 3) := by decide +kernel
theorem dX12_lives_12 : decode cX12_lives 12 = .ok (.iload_n 2, 1) := by decide +kernel
theorem dX12_lives_13 : decode cX12_lives 13 = .ok (.i2l, 1) := by decide +kernel
theorem dX12_lives_14 : decode cX12_lives 14 = .ok (.lconst 0, 1) := by decide +kernel
theorem dX12_lives_15 : decode cX12_lives 15 = .ok (.ldc2_w 175, 3) := by decide +kernel
theorem dX12_lives_18 : decode cX12_lives 18 = .ok (.invokestatic 156, 3) := by decide +kernel
theorem dX12_lives_21 : decode cX12_lives 21 = .ok (.ifCond .eq 12, 3) := by decide +kernel
theorem dX12_lives_24 : decode cX12_lives 24 = .ok (.aload_n 0, 1) := by decide +kernel
theorem dX12_lives_25 : decode cX12_lives 25 = .ok (.iload_n 1, 1) := by decide +kernel
theorem dX12_lives_26 : decode cX12_lives 26 = .ok (.iload_n 2, 1) := by decide +kernel
theorem dX12_lives_27 : decode cX12_lives 27 = .ok (.invokevirtual 177, 3) := by decide +kernel
theorem dX12_lives_30 : decode cX12_lives 30 = .ok (.goto 4, 3) := by decide +kernel
theorem dX12_lives_33 : decode cX12_lives 33 = .ok (.iconst (-1), 1) := by decide +kernel
theorem dX12_lives_34 : decode cX12_lives 34 = .ok (.ireturn, 1) := by decide +kernel
theorem dX12_number_0 : decode cX12_number 0 = .ok (.iload_n 1, 1) := by decide +kernel
theorem dX12_number_1 : decode cX12_number 1 = .ok (.i2l, 1) := by decide +kernel
theorem dX12_number_2 : decode cX12_number 2 = .ok (.lconst 0, 1) := by decide +kernel
theorem dX12_number_3 : decode cX12_number 3 = .ok (.lconst 1, 1) := by decide +kernel
theorem dX12_number_4 : decode cX12_number 4 = .ok (.invokestatic 156, 3) := by decide +kernel
theorem dX12_number_7 : decode cX12_number 7 = .ok (.ifCond .eq 25, 3) := by decide +kernel
theorem dX12_number_10 : decode cX12_number 10 = .ok (.iload_n 2, 1) := by decide +kernel
theorem dX12_number_11 : decode cX12_number 11 = .ok (.i2l, 1) := by decide +kernel
theorem dX12_number_12 : decode cX12_number 12 = .ok (.lconst 0, 1) := by decide +kernel
theorem dX12_number_13 : decode cX12_number 13 = .ok (.iload_n 1, 1) := by decide +kernel
theorem dX12_number_14 : decode cX12_number 14 = .ok (.ifCond .ne 9, 3) := by decide +kernel
theorem dX12_number_17 : decode cX12_number 17 = .ok (.ldc2_w 181, 3) := by decide +kernel
theorem dX12_number_20 : decode cX12_number 20 = .ok (.goto 6, 3) := by decide +kernel
theorem dX12_number_23 : decode cX12_number 23 = .ok (.ldc2_w 183, 3) := by decide +kernel
theorem dX12_number_26 : decode cX12_number 26 = .ok (.invokestatic 156, 3) := by decide +kernel
theorem dX12_number_29 : decode cX12_number 29 = .ok (.ifCond .ne 5, 3) := by decide +kernel
theorem dX12_number_32 : decode cX12_number 32 = .ok (.iconst 0, 1) := by decide +kernel
theorem dX12_number_33 : decode cX12_number 33 = .ok (.ireturn, 1) := by decide +kernel
theorem dX12_number_34 : decode cX12_number 34 = .ok (.iload_n 1, 1) := by decide +kernel
theorem dX12_number_35 : decode cX12_number 35 = .ok (.ifCond .ne 11, 3) := by decide +kernel
theorem dX12_number_38 : decode cX12_number 38 = .ok (.aload_n 0, 1) := by decide +kernel
theorem dX12_number_39 : decode cX12_number 39 = .ok (.iload_n 2, 1) := by decide +kernel
theorem dX12_number_40 : decode cX12_number 40 = .ok (.putfield 17, 3) := by decide +kernel
theorem dX12_number_43 : decode cX12_number 43 = .ok (.goto 8, 3) := by decide +kernel
theorem dX12_number_46 : decode cX12_number 46 = .ok (.aload_n 0, 1) := by decide +kernel
theorem dX12_number_47 : decode cX12_number 47 = .ok (.iload_n 2, 1) := by decide +kernel
theorem dX12_number_48 : decode cX12_number 48 = .ok (.putfield 185, 3) := by decide +kernel
theorem dX12_number_51 : decode cX12_number 51 = .ok (.iconst 1, 1) := by decide +kernel
theorem dX12_number_52 : decode cX12_number 52 = .ok (.ireturn, 1) := by decide +kernel
theorem dX12_discountOf_0 : decode cX12_discountOf 0 = .ok (.ldc 188, 2) := by decide +kernel
theorem dX12_discountOf_2 : decode cX12_discountOf 2 = .ok (.istore_n 2, 1) := by decide +kernel
theorem dX12_discountOf_3 : decode cX12_discountOf 3 = .ok (.iconst 0, 1) := by decide +kernel
theorem dX12_discountOf_4 : decode cX12_discountOf 4 = .ok (.istore_n 3, 1) := by decide +kernel
theorem dX12_discountOf_5 : decode cX12_discountOf 5 = .ok (.iload_n 3, 1) := by decide +kernel
theorem dX12_discountOf_6 : decode cX12_discountOf 6 = .ok (.iload_n 1, 1) := by decide +kernel
theorem dX12_discountOf_7 : decode cX12_discountOf 7 = .ok (.if_icmp .ge 22, 3) := by decide +kernel
theorem dX12_discountOf_10 : decode cX12_discountOf 10 = .ok (.bipush 100, 2) := by decide +kernel
theorem dX12_discountOf_12 : decode cX12_discountOf 12 = .ok (.iload_n 2, 1) := by decide +kernel
theorem dX12_discountOf_13 : decode cX12_discountOf 13 = .ok (.imul, 1) := by decide +kernel
theorem dX12_discountOf_14 : decode cX12_discountOf 14 = .ok (.bipush 100, 2) := by decide +kernel
theorem dX12_discountOf_16 : decode cX12_discountOf 16 = .ok (.aload_n 0, 1) := by decide +kernel
theorem dX12_discountOf_17 : decode cX12_discountOf 17 = .ok (.getfield 17, 3) := by decide +kernel
theorem dX12_discountOf_20 : decode cX12_discountOf 20 = .ok (.iadd, 1) := by decide +kernel
theorem dX12_discountOf_21 : decode cX12_discountOf 21 = .ok (.idiv, 1) := by decide +kernel
theorem dX12_discountOf_22 : decode cX12_discountOf 22 = .ok (.istore_n 2, 1) := by decide +kernel
theorem dX12_discountOf_23 : decode cX12_discountOf 23 = .ok (.iinc 3 1, 3) := by decide +kernel
theorem dX12_discountOf_26 : decode cX12_discountOf 26 = .ok (.goto (-21), 3) := by decide +kernel
theorem dX12_discountOf_29 : decode cX12_discountOf 29 = .ok (.iload_n 2, 1) := by decide +kernel
theorem dX12_discountOf_30 : decode cX12_discountOf 30 = .ok (.ireturn, 1) := by decide +kernel
theorem dX12_discount_0 : decode cX12_discount 0 = .ok (.iload_n 1, 1) := by decide +kernel
theorem dX12_discount_1 : decode cX12_discount 1 = .ok (.i2l, 1) := by decide +kernel
theorem dX12_discount_2 : decode cX12_discount 2 = .ok (.lconst 0, 1) := by decide +kernel
theorem dX12_discount_3 : decode cX12_discount 3 = .ok (.ldc2_w 175, 3) := by decide +kernel
theorem dX12_discount_6 : decode cX12_discount 6 = .ok (.invokestatic 156, 3) := by decide +kernel
theorem dX12_discount_9 : decode cX12_discount 9 = .ok (.ifCond .eq 11, 3) := by decide +kernel
theorem dX12_discount_12 : decode cX12_discount 12 = .ok (.aload_n 0, 1) := by decide +kernel
theorem dX12_discount_13 : decode cX12_discount 13 = .ok (.iload_n 1, 1) := by decide +kernel
theorem dX12_discount_14 : decode cX12_discount 14 = .ok (.invokevirtual 189, 3) := by decide +kernel
theorem dX12_discount_17 : decode cX12_discount 17 = .ok (.goto 4, 3) := by decide +kernel
theorem dX12_discount_20 : decode cX12_discount 20 = .ok (.iconst (-1), 1) := by decide +kernel
theorem dX12_discount_21 : decode cX12_discount 21 = .ok (.ireturn, 1) := by decide +kernel
theorem dX12_push_0 : decode cX12_push 0 = .ok (.bipush 24, 2) := by decide +kernel
theorem dX12_push_2 : decode cX12_push 2 = .ok (.istore_n 2, 1) := by decide +kernel
theorem dX12_push_3 : decode cX12_push 3 = .ok (.iload_n 2, 1) := by decide +kernel
theorem dX12_push_4 : decode cX12_push 4 = .ok (.ifCond .lt 32, 3) := by decide +kernel
theorem dX12_push_7 : decode cX12_push 7 = .ok (.aload_n 0, 1) := by decide +kernel
theorem dX12_push_8 : decode cX12_push 8 = .ok (.getfield 7, 3) := by decide +kernel
theorem dX12_push_11 : decode cX12_push 11 = .ok (.aload_n 0, 1) := by decide +kernel
theorem dX12_push_12 : decode cX12_push 12 = .ok (.getfield 193, 3) := by decide +kernel
theorem dX12_push_15 : decode cX12_push 15 = .ok (.iload_n 1, 1) := by decide +kernel
theorem dX12_push_16 : decode cX12_push 16 = .ok (.iload_n 2, 1) := by decide +kernel
theorem dX12_push_17 : decode cX12_push 17 = .ok (.ishr, 1) := by decide +kernel
theorem dX12_push_18 : decode cX12_push 18 = .ok (.i2b, 1) := by decide +kernel
theorem dX12_push_19 : decode cX12_push 19 = .ok (.bastore, 1) := by decide +kernel
theorem dX12_push_20 : decode cX12_push 20 = .ok (.aload_n 0, 1) := by decide +kernel
theorem dX12_push_21 : decode cX12_push 21 = .ok (.dup, 1) := by decide +kernel
theorem dX12_push_22 : decode cX12_push 22 = .ok (.getfield 193, 3) := by decide +kernel
theorem dX12_push_25 : decode cX12_push 25 = .ok (.iconst 1, 1) := by decide +kernel
theorem dX12_push_26 : decode cX12_push 26 = .ok (.iadd, 1) := by decide +kernel
theorem dX12_push_27 : decode cX12_push 27 = .ok (.putfield 193, 3) := by decide +kernel
theorem dX12_push_30 : decode cX12_push 30 = .ok (.iinc 2 (-8), 3) := by decide +kernel
theorem dX12_push_33 : decode cX12_push 33 = .ok (.goto (-30), 3) := by decide +kernel
theorem dX12_push_36 : decode cX12_push 36 = .ok (.return_, 1) := by decide +kernel
theorem dX12_feed_0 : decode cX12_feed 0 = .ok (.aload_n 0, 1) := by decide +kernel
theorem dX12_feed_1 : decode cX12_feed 1 = .ok (.getfield 193, 3) := by decide +kernel
theorem dX12_feed_4 : decode cX12_feed 4 = .ok (.bipush 20, 2) := by decide +kernel
theorem dX12_feed_6 : decode cX12_feed 6 = .ok (.iadd, 1) := by decide +kernel
theorem dX12_feed_7 : decode cX12_feed 7 = .ok (.bipush 100, 2) := by decide +kernel
theorem dX12_feed_9 : decode cX12_feed 9 = .ok (.if_icmp .le 5, 3) := by decide +kernel
theorem dX12_feed_12 : decode cX12_feed 12 = .ok (.iconst (-1), 1) := by decide +kernel
theorem dX12_feed_13 : decode cX12_feed 13 = .ok (.ireturn, 1) := by decide +kernel
theorem dX12_feed_14 : decode cX12_feed 14 = .ok (.aload_n 0, 1) := by decide +kernel
theorem dX12_feed_15 : decode cX12_feed 15 = .ok (.iload_n 1, 1) := by decide +kernel
theorem dX12_feed_16 : decode cX12_feed 16 = .ok (.invokevirtual 196, 3) := by decide +kernel
theorem dX12_feed_19 : decode cX12_feed 19 = .ok (.aload_n 0, 1) := by decide +kernel
theorem dX12_feed_20 : decode cX12_feed 20 = .ok (.iload_n 2, 1) := by decide +kernel
theorem dX12_feed_21 : decode cX12_feed 21 = .ok (.invokevirtual 196, 3) := by decide +kernel
theorem dX12_feed_24 : decode cX12_feed 24 = .ok (.aload_n 0, 1) := by decide +kernel
theorem dX12_feed_25 : decode cX12_feed 25 = .ok (.iload_n 3, 1) := by decide +kernel
theorem dX12_feed_26 : decode cX12_feed 26 = .ok (.invokevirtual 196, 3) := by decide +kernel
theorem dX12_feed_29 : decode cX12_feed 29 = .ok (.aload_n 0, 1) := by decide +kernel
theorem dX12_feed_30 : decode cX12_feed 30 = .ok (.iload 4, 2) := by decide +kernel
theorem dX12_feed_32 : decode cX12_feed 32 = .ok (.invokevirtual 196, 3) := by decide +kernel
theorem dX12_feed_35 : decode cX12_feed 35 = .ok (.aload_n 0, 1) := by decide +kernel
theorem dX12_feed_36 : decode cX12_feed 36 = .ok (.iload 5, 2) := by decide +kernel
theorem dX12_feed_38 : decode cX12_feed 38 = .ok (.invokevirtual 196, 3) := by decide +kernel
theorem dX12_feed_41 : decode cX12_feed 41 = .ok (.aload_n 0, 1) := by decide +kernel
theorem dX12_feed_42 : decode cX12_feed 42 = .ok (.getfield 193, 3) := by decide +kernel
theorem dX12_feed_45 : decode cX12_feed 45 = .ok (.ireturn, 1) := by decide +kernel
theorem dX12_here_0 : decode cX12_here 0 = .ok (.aload_n 0, 1) := by decide +kernel
theorem dX12_here_1 : decode cX12_here 1 = .ok (.getfield 200, 3) := by decide +kernel
theorem dX12_here_4 : decode cX12_here 4 = .ok (.aload_n 0, 1) := by decide +kernel
theorem dX12_here_5 : decode cX12_here 5 = .ok (.getfield 203, 3) := by decide +kernel
theorem dX12_here_8 : decode cX12_here 8 = .ok (.if_icmp .ge 19, 3) := by decide +kernel
theorem dX12_here_11 : decode cX12_here 11 = .ok (.aload_n 0, 1) := by decide +kernel
theorem dX12_here_12 : decode cX12_here 12 = .ok (.getfield 7, 3) := by decide +kernel
theorem dX12_here_15 : decode cX12_here 15 = .ok (.aload_n 0, 1) := by decide +kernel
theorem dX12_here_16 : decode cX12_here 16 = .ok (.getfield 200, 3) := by decide +kernel
theorem dX12_here_19 : decode cX12_here 19 = .ok (.baload, 1) := by decide +kernel
theorem dX12_here_20 : decode cX12_here 20 = .ok (.sipush 255, 3) := by decide +kernel
theorem dX12_here_23 : decode cX12_here 23 = .ok (.iand, 1) := by decide +kernel
theorem dX12_here_24 : decode cX12_here 24 = .ok (.goto 4, 3) := by decide +kernel
theorem dX12_here_27 : decode cX12_here 27 = .ok (.iconst 0, 1) := by decide +kernel
theorem dX12_here_28 : decode cX12_here 28 = .ok (.ireturn, 1) := by decide +kernel
theorem dX12_wrongs_0 : decode cX12_wrongs 0 = .ok (.aload_n 0, 1) := by decide +kernel
theorem dX12_wrongs_1 : decode cX12_wrongs 1 = .ok (.aload_n 0, 1) := by decide +kernel
theorem dX12_wrongs_2 : decode cX12_wrongs 2 = .ok (.getfield 206, 3) := by decide +kernel
theorem dX12_wrongs_5 : decode cX12_wrongs 5 = .ok (.ifCond .ge 10, 3) := by decide +kernel
theorem dX12_wrongs_8 : decode cX12_wrongs 8 = .ok (.aload_n 0, 1) := by decide +kernel
theorem dX12_wrongs_9 : decode cX12_wrongs 9 = .ok (.getfield 206, 3) := by decide +kernel
theorem dX12_wrongs_12 : decode cX12_wrongs 12 = .ok (.goto 10, 3) := by decide +kernel
theorem dX12_wrongs_15 : decode cX12_wrongs 15 = .ok (.sipush (-1000), 3) := by decide +kernel
theorem dX12_wrongs_18 : decode cX12_wrongs 18 = .ok (.iload_n 1, 1) := by decide +kernel
theorem dX12_wrongs_19 : decode cX12_wrongs 19 = .ok (.imul, 1) := by decide +kernel
theorem dX12_wrongs_20 : decode cX12_wrongs 20 = .ok (.iload_n 2, 1) := by decide +kernel
theorem dX12_wrongs_21 : decode cX12_wrongs 21 = .ok (.isub, 1) := by decide +kernel
theorem dX12_wrongs_22 : decode cX12_wrongs 22 = .ok (.putfield 206, 3) := by decide +kernel
theorem dX12_wrongs_25 : decode cX12_wrongs 25 = .ok (.return_, 1) := by decide +kernel
theorem dX12_isGood_0 : decode cX12_isGood 0 = .ok (.aload_n 0, 1) := by decide +kernel
theorem dX12_isGood_1 : decode cX12_isGood 1 = .ok (.getfield 206, 3) := by decide +kernel
theorem dX12_isGood_4 : decode cX12_isGood 4 = .ok (.ifCond .ne 7, 3) := by decide +kernel
theorem dX12_isGood_7 : decode cX12_isGood 7 = .ok (.iconst 1, 1) := by decide +kernel
theorem dX12_isGood_8 : decode cX12_isGood 8 = .ok (.goto 4, 3) := by decide +kernel
theorem dX12_isGood_11 : decode cX12_isGood 11 = .ok (.iconst 0, 1) := by decide +kernel
theorem dX12_isGood_12 : decode cX12_isGood 12 = .ok (.ireturn, 1) := by decide +kernel
theorem dX12_isLetter_0 : decode cX12_isLetter 0 = .ok (.iload_n 0, 1) := by decide +kernel
theorem dX12_isLetter_1 : decode cX12_isLetter 1 = .ok (.i2l, 1) := by decide +kernel
theorem dX12_isLetter_2 : decode cX12_isLetter 2 = .ok (.ldc2_w 209, 3) := by decide +kernel
theorem dX12_isLetter_5 : decode cX12_isLetter 5 = .ok (.ldc2_w 211, 3) := by decide +kernel
theorem dX12_isLetter_8 : decode cX12_isLetter 8 = .ok (.invokestatic 156, 3) := by decide +kernel
theorem dX12_isLetter_11 : decode cX12_isLetter 11 = .ok (.ireturn, 1) := by decide +kernel
theorem dX12_seesDigit_0 : decode cX12_seesDigit 0 = .ok (.aload_n 0, 1) := by decide +kernel
theorem dX12_seesDigit_1 : decode cX12_seesDigit 1 = .ok (.invokevirtual 213, 3) := by decide +kernel
theorem dX12_seesDigit_4 : decode cX12_seesDigit 4 = .ok (.i2l, 1) := by decide +kernel
theorem dX12_seesDigit_5 : decode cX12_seesDigit 5 = .ok (.ldc2_w 217, 3) := by decide +kernel
theorem dX12_seesDigit_8 : decode cX12_seesDigit 8 = .ok (.ldc2_w 219, 3) := by decide +kernel
theorem dX12_seesDigit_11 : decode cX12_seesDigit 11 = .ok (.invokestatic 156, 3) := by decide +kernel
theorem dX12_seesDigit_14 : decode cX12_seesDigit 14 = .ok (.ireturn, 1) := by decide +kernel
theorem dX12_emit_0 : decode cX12_emit 0 = .ok (.aload_n 0, 1) := by decide +kernel
theorem dX12_emit_1 : decode cX12_emit 1 = .ok (.invokevirtual 221, 3) := by decide +kernel
theorem dX12_emit_4 : decode cX12_emit 4 = .ok (.ifCond .ne 4, 3) := by decide +kernel
theorem dX12_emit_7 : decode cX12_emit 7 = .ok (.return_, 1) := by decide +kernel
theorem dX12_emit_8 : decode cX12_emit 8 = .ok (.aload_n 0, 1) := by decide +kernel
theorem dX12_emit_9 : decode cX12_emit 9 = .ok (.getfield 70, 3) := by decide +kernel
theorem dX12_emit_12 : decode cX12_emit 12 = .ok (.bipush 100, 2) := by decide +kernel
theorem dX12_emit_14 : decode cX12_emit 14 = .ok (.aload_n 0, 1) := by decide +kernel
theorem dX12_emit_15 : decode cX12_emit 15 = .ok (.getfield 225, 3) := by decide +kernel
theorem dX12_emit_18 : decode cX12_emit 18 = .ok (.imul, 1) := by decide +kernel
theorem dX12_emit_19 : decode cX12_emit 19 = .ok (.aload_n 0, 1) := by decide +kernel
theorem dX12_emit_20 : decode cX12_emit 20 = .ok (.getfield 228, 3) := by decide +kernel
theorem dX12_emit_23 : decode cX12_emit 23 = .ok (.iadd, 1) := by decide +kernel
theorem dX12_emit_24 : decode cX12_emit 24 = .ok (.iload_n 1, 1) := by decide +kernel
theorem dX12_emit_25 : decode cX12_emit 25 = .ok (.iastore, 1) := by decide +kernel
theorem dX12_emit_26 : decode cX12_emit 26 = .ok (.aload_n 0, 1) := by decide +kernel
theorem dX12_emit_27 : decode cX12_emit 27 = .ok (.getfield 73, 3) := by decide +kernel
theorem dX12_emit_30 : decode cX12_emit 30 = .ok (.bipush 100, 2) := by decide +kernel
theorem dX12_emit_32 : decode cX12_emit 32 = .ok (.aload_n 0, 1) := by decide +kernel
theorem dX12_emit_33 : decode cX12_emit 33 = .ok (.getfield 225, 3) := by decide +kernel
theorem dX12_emit_36 : decode cX12_emit 36 = .ok (.imul, 1) := by decide +kernel
theorem dX12_emit_37 : decode cX12_emit 37 = .ok (.aload_n 0, 1) := by decide +kernel
theorem dX12_emit_38 : decode cX12_emit 38 = .ok (.getfield 228, 3) := by decide +kernel
theorem dX12_emit_41 : decode cX12_emit 41 = .ok (.iadd, 1) := by decide +kernel
theorem dX12_emit_42 : decode cX12_emit 42 = .ok (.iload_n 2, 1) := by decide +kernel
theorem dX12_emit_43 : decode cX12_emit 43 = .ok (.iastore, 1) := by decide +kernel
theorem dX12_emit_44 : decode cX12_emit 44 = .ok (.aload_n 0, 1) := by decide +kernel
theorem dX12_emit_45 : decode cX12_emit 45 = .ok (.dup, 1) := by decide +kernel
theorem dX12_emit_46 : decode cX12_emit 46 = .ok (.getfield 228, 3) := by decide +kernel
theorem dX12_emit_49 : decode cX12_emit 49 = .ok (.iconst 1, 1) := by decide +kernel
theorem dX12_emit_50 : decode cX12_emit 50 = .ok (.iadd, 1) := by decide +kernel
theorem dX12_emit_51 : decode cX12_emit 51 = .ok (.putfield 228, 3) := by decide +kernel
theorem dX12_emit_54 : decode cX12_emit 54 = .ok (.return_, 1) := by decide +kernel
theorem dX12_top_0 : decode cX12_top 0 = .ok (.aload_n 0, 1) := by decide +kernel
theorem dX12_top_1 : decode cX12_top 1 = .ok (.getfield 231, 3) := by decide +kernel
theorem dX12_top_4 : decode cX12_top 4 = .ok (.ifCond .le 17, 3) := by decide +kernel
theorem dX12_top_7 : decode cX12_top 7 = .ok (.aload_n 0, 1) := by decide +kernel
theorem dX12_top_8 : decode cX12_top 8 = .ok (.getfield 76, 3) := by decide +kernel
theorem dX12_top_11 : decode cX12_top 11 = .ok (.aload_n 0, 1) := by decide +kernel
theorem dX12_top_12 : decode cX12_top 12 = .ok (.getfield 231, 3) := by decide +kernel
theorem dX12_top_15 : decode cX12_top 15 = .ok (.iconst 1, 1) := by decide +kernel
theorem dX12_top_16 : decode cX12_top 16 = .ok (.isub, 1) := by decide +kernel
theorem dX12_top_17 : decode cX12_top 17 = .ok (.iaload, 1) := by decide +kernel
theorem dX12_top_18 : decode cX12_top 18 = .ok (.goto 4, 3) := by decide +kernel
theorem dX12_top_21 : decode cX12_top 21 = .ok (.iconst 0, 1) := by decide +kernel
theorem dX12_top_22 : decode cX12_top 22 = .ok (.ireturn, 1) := by decide +kernel
theorem dX12_puts_0 : decode cX12_puts 0 = .ok (.aload_n 0, 1) := by decide +kernel
theorem dX12_puts_1 : decode cX12_puts 1 = .ok (.getfield 76, 3) := by decide +kernel
theorem dX12_puts_4 : decode cX12_puts 4 = .ok (.aload_n 0, 1) := by decide +kernel
theorem dX12_puts_5 : decode cX12_puts 5 = .ok (.getfield 231, 3) := by decide +kernel
theorem dX12_puts_8 : decode cX12_puts 8 = .ok (.iload_n 1, 1) := by decide +kernel
theorem dX12_puts_9 : decode cX12_puts 9 = .ok (.iastore, 1) := by decide +kernel
theorem dX12_puts_10 : decode cX12_puts 10 = .ok (.aload_n 0, 1) := by decide +kernel
theorem dX12_puts_11 : decode cX12_puts 11 = .ok (.dup, 1) := by decide +kernel
theorem dX12_puts_12 : decode cX12_puts 12 = .ok (.getfield 231, 3) := by decide +kernel
theorem dX12_puts_15 : decode cX12_puts 15 = .ok (.iconst 1, 1) := by decide +kernel
theorem dX12_puts_16 : decode cX12_puts 16 = .ok (.iadd, 1) := by decide +kernel
theorem dX12_puts_17 : decode cX12_puts 17 = .ok (.putfield 231, 3) := by decide +kernel
theorem dX12_puts_20 : decode cX12_puts 20 = .ok (.aload_n 0, 1) := by decide +kernel
theorem dX12_puts_21 : decode cX12_puts 21 = .ok (.dup, 1) := by decide +kernel
theorem dX12_puts_22 : decode cX12_puts 22 = .ok (.getfield 200, 3) := by decide +kernel
theorem dX12_puts_25 : decode cX12_puts 25 = .ok (.iconst 1, 1) := by decide +kernel
theorem dX12_puts_26 : decode cX12_puts 26 = .ok (.iadd, 1) := by decide +kernel
theorem dX12_puts_27 : decode cX12_puts 27 = .ok (.putfield 200, 3) := by decide +kernel
theorem dX12_puts_30 : decode cX12_puts 30 = .ok (.return_, 1) := by decide +kernel
theorem dX12_opens_0 : decode cX12_opens 0 = .ok (.aload_n 0, 1) := by decide +kernel
theorem dX12_opens_1 : decode cX12_opens 1 = .ok (.getfield 234, 3) := by decide +kernel
theorem dX12_opens_4 : decode cX12_opens 4 = .ok (.bipush 6, 2) := by decide +kernel
theorem dX12_opens_6 : decode cX12_opens 6 = .ok (.if_icmp .ne 12, 3) := by decide +kernel
theorem dX12_opens_9 : decode cX12_opens 9 = .ok (.aload_n 0, 1) := by decide +kernel
theorem dX12_opens_10 : decode cX12_opens 10 = .ok (.iconst 5, 1) := by decide +kernel
theorem dX12_opens_11 : decode cX12_opens 11 = .ok (.aload_n 0, 1) := by decide +kernel
theorem dX12_opens_12 : decode cX12_opens 12 = .ok (.getfield 200, 3) := by decide +kernel
theorem dX12_opens_15 : decode cX12_opens 15 = .ok (.invokevirtual 237, 3) := by decide +kernel
theorem dX12_opens_18 : decode cX12_opens 18 = .ok (.aload_n 0, 1) := by decide +kernel
theorem dX12_opens_19 : decode cX12_opens 19 = .ok (.dup, 1) := by decide +kernel
theorem dX12_opens_20 : decode cX12_opens 20 = .ok (.getfield 234, 3) := by decide +kernel
theorem dX12_opens_23 : decode cX12_opens 23 = .ok (.iconst 1, 1) := by decide +kernel
theorem dX12_opens_24 : decode cX12_opens 24 = .ok (.iadd, 1) := by decide +kernel
theorem dX12_opens_25 : decode cX12_opens 25 = .ok (.putfield 234, 3) := by decide +kernel
theorem dX12_opens_28 : decode cX12_opens 28 = .ok (.aload_n 0, 1) := by decide +kernel
theorem dX12_opens_29 : decode cX12_opens 29 = .ok (.aload_n 0, 1) := by decide +kernel
theorem dX12_opens_30 : decode cX12_opens 30 = .ok (.invokevirtual 213, 3) := by decide +kernel
theorem dX12_opens_33 : decode cX12_opens 33 = .ok (.invokevirtual 241, 3) := by decide +kernel
theorem dX12_opens_36 : decode cX12_opens 36 = .ok (.return_, 1) := by decide +kernel
theorem dX12_who_0 : decode cX12_who 0 = .ok (.aload_n 0, 1) := by decide +kernel
theorem dX12_who_1 : decode cX12_who 1 = .ok (.invokevirtual 213, 3) := by decide +kernel
theorem dX12_who_4 : decode cX12_who 4 = .ok (.bipush 97, 2) := by decide +kernel
theorem dX12_who_6 : decode cX12_who 6 = .ok (.isub, 1) := by decide +kernel
theorem dX12_who_7 : decode cX12_who 7 = .ok (.istore_n 1, 1) := by decide +kernel
theorem dX12_who_8 : decode cX12_who 8 = .ok (.iload_n 1, 1) := by decide +kernel
theorem dX12_who_9 : decode cX12_who 9 = .ok (.aload_n 0, 1) := by decide +kernel
theorem dX12_who_10 : decode cX12_who 10 = .ok (.getfield 244, 3) := by decide +kernel
theorem dX12_who_13 : decode cX12_who 13 = .ok (.if_icmp .ne 12, 3) := by decide +kernel
theorem dX12_who_16 : decode cX12_who 16 = .ok (.aload_n 0, 1) := by decide +kernel
theorem dX12_who_17 : decode cX12_who 17 = .ok (.iconst 2, 1) := by decide +kernel
theorem dX12_who_18 : decode cX12_who 18 = .ok (.aload_n 0, 1) := by decide +kernel
theorem dX12_who_19 : decode cX12_who 19 = .ok (.getfield 200, 3) := by decide +kernel
theorem dX12_who_22 : decode cX12_who 22 = .ok (.invokevirtual 237, 3) := by decide +kernel
theorem dX12_who_25 : decode cX12_who 25 = .ok (.aload_n 0, 1) := by decide +kernel
theorem dX12_who_26 : decode cX12_who 26 = .ok (.dup, 1) := by decide +kernel
theorem dX12_who_27 : decode cX12_who 27 = .ok (.getfield 200, 3) := by decide +kernel
theorem dX12_who_30 : decode cX12_who 30 = .ok (.iconst 1, 1) := by decide +kernel
theorem dX12_who_31 : decode cX12_who 31 = .ok (.iadd, 1) := by decide +kernel
theorem dX12_who_32 : decode cX12_who 32 = .ok (.putfield 200, 3) := by decide +kernel
theorem dX12_who_35 : decode cX12_who 35 = .ok (.iload_n 1, 1) := by decide +kernel
theorem dX12_who_36 : decode cX12_who 36 = .ok (.ireturn, 1) := by decide +kernel
theorem dX12_whose_0 : decode cX12_whose 0 = .ok (.aload_n 0, 1) := by decide +kernel
theorem dX12_whose_1 : decode cX12_whose 1 = .ok (.dup, 1) := by decide +kernel
theorem dX12_whose_2 : decode cX12_whose 2 = .ok (.getfield 200, 3) := by decide +kernel
theorem dX12_whose_5 : decode cX12_whose 5 = .ok (.iconst 1, 1) := by decide +kernel
theorem dX12_whose_6 : decode cX12_whose 6 = .ok (.iadd, 1) := by decide +kernel
theorem dX12_whose_7 : decode cX12_whose 7 = .ok (.putfield 200, 3) := by decide +kernel
theorem dX12_whose_10 : decode cX12_whose 10 = .ok (.aload_n 0, 1) := by decide +kernel
theorem dX12_whose_11 : decode cX12_whose 11 = .ok (.invokevirtual 213, 3) := by decide +kernel
theorem dX12_whose_14 : decode cX12_whose 14 = .ok (.invokestatic 247, 3) := by decide +kernel
theorem dX12_whose_17 : decode cX12_whose 17 = .ok (.ifCond .ne 12, 3) := by decide +kernel
theorem dX12_whose_20 : decode cX12_whose 20 = .ok (.aload_n 0, 1) := by decide +kernel
theorem dX12_whose_21 : decode cX12_whose 21 = .ok (.iconst 1, 1) := by decide +kernel
theorem dX12_whose_22 : decode cX12_whose 22 = .ok (.aload_n 0, 1) := by decide +kernel
theorem dX12_whose_23 : decode cX12_whose 23 = .ok (.getfield 200, 3) := by decide +kernel
theorem dX12_whose_26 : decode cX12_whose 26 = .ok (.invokevirtual 237, 3) := by decide +kernel
theorem dX12_whose_29 : decode cX12_whose 29 = .ok (.aload_n 0, 1) := by decide +kernel
theorem dX12_whose_30 : decode cX12_whose 30 = .ok (.dup, 1) := by decide +kernel
theorem dX12_whose_31 : decode cX12_whose 31 = .ok (.getfield 200, 3) := by decide +kernel
theorem dX12_whose_34 : decode cX12_whose 34 = .ok (.iconst 1, 1) := by decide +kernel
theorem dX12_whose_35 : decode cX12_whose 35 = .ok (.iadd, 1) := by decide +kernel
theorem dX12_whose_36 : decode cX12_whose 36 = .ok (.putfield 200, 3) := by decide +kernel
theorem dX12_whose_39 : decode cX12_whose 39 = .ok (.aload_n 0, 1) := by decide +kernel
theorem dX12_whose_40 : decode cX12_whose 40 = .ok (.aload_n 0, 1) := by decide +kernel
theorem dX12_whose_41 : decode cX12_whose 41 = .ok (.getfield 200, 3) := by decide +kernel
theorem dX12_whose_44 : decode cX12_whose 44 = .ok (.iconst 1, 1) := by decide +kernel
theorem dX12_whose_45 : decode cX12_whose 45 = .ok (.isub, 1) := by decide +kernel
theorem dX12_whose_46 : decode cX12_whose 46 = .ok (.invokevirtual 250, 3) := by decide +kernel
theorem dX12_whose_49 : decode cX12_whose 49 = .ok (.ireturn, 1) := by decide +kernel
theorem dX12_signAt_0 : decode cX12_signAt 0 = .ok (.iload_n 1, 1) := by decide +kernel
theorem dX12_signAt_1 : decode cX12_signAt 1 = .ok (.aload_n 0, 1) := by decide +kernel
theorem dX12_signAt_2 : decode cX12_signAt 2 = .ok (.getfield 203, 3) := by decide +kernel
theorem dX12_signAt_5 : decode cX12_signAt 5 = .ok (.if_icmp .ge 16, 3) := by decide +kernel
theorem dX12_signAt_8 : decode cX12_signAt 8 = .ok (.aload_n 0, 1) := by decide +kernel
theorem dX12_signAt_9 : decode cX12_signAt 9 = .ok (.getfield 7, 3) := by decide +kernel
theorem dX12_signAt_12 : decode cX12_signAt 12 = .ok (.iload_n 1, 1) := by decide +kernel
theorem dX12_signAt_13 : decode cX12_signAt 13 = .ok (.baload, 1) := by decide +kernel
theorem dX12_signAt_14 : decode cX12_signAt 14 = .ok (.sipush 255, 3) := by decide +kernel
theorem dX12_signAt_17 : decode cX12_signAt 17 = .ok (.iand, 1) := by decide +kernel
theorem dX12_signAt_18 : decode cX12_signAt 18 = .ok (.goto 4, 3) := by decide +kernel
theorem dX12_signAt_21 : decode cX12_signAt 21 = .ok (.iconst 0, 1) := by decide +kernel
theorem dX12_signAt_22 : decode cX12_signAt 22 = .ok (.bipush 97, 2) := by decide +kernel
theorem dX12_signAt_24 : decode cX12_signAt 24 = .ok (.isub, 1) := by decide +kernel
theorem dX12_signAt_25 : decode cX12_signAt 25 = .ok (.ireturn, 1) := by decide +kernel
theorem dX12_counts_0 : decode cX12_counts 0 = .ok (.aload_n 0, 1) := by decide +kernel
theorem dX12_counts_1 : decode cX12_counts 1 = .ok (.dup, 1) := by decide +kernel
theorem dX12_counts_2 : decode cX12_counts 2 = .ok (.getfield 200, 3) := by decide +kernel
theorem dX12_counts_5 : decode cX12_counts 5 = .ok (.iconst 1, 1) := by decide +kernel
theorem dX12_counts_6 : decode cX12_counts 6 = .ok (.iadd, 1) := by decide +kernel
theorem dX12_counts_7 : decode cX12_counts 7 = .ok (.putfield 200, 3) := by decide +kernel
theorem dX12_counts_10 : decode cX12_counts 10 = .ok (.aload_n 0, 1) := by decide +kernel
theorem dX12_counts_11 : decode cX12_counts 11 = .ok (.invokevirtual 213, 3) := by decide +kernel
theorem dX12_counts_14 : decode cX12_counts 14 = .ok (.istore_n 1, 1) := by decide +kernel
theorem dX12_counts_15 : decode cX12_counts 15 = .ok (.iload_n 1, 1) := by decide +kernel
theorem dX12_counts_16 : decode cX12_counts 16 = .ok (.bipush 60, 2) := by decide +kernel
theorem dX12_counts_18 : decode cX12_counts 18 = .ok (.if_icmp .eq 24, 3) := by decide +kernel
theorem dX12_counts_21 : decode cX12_counts 21 = .ok (.iload_n 1, 1) := by decide +kernel
theorem dX12_counts_22 : decode cX12_counts 22 = .ok (.bipush 62, 2) := by decide +kernel
theorem dX12_counts_24 : decode cX12_counts 24 = .ok (.if_icmp .eq 18, 3) := by decide +kernel
theorem dX12_counts_27 : decode cX12_counts 27 = .ok (.iload_n 1, 1) := by decide +kernel
theorem dX12_counts_28 : decode cX12_counts 28 = .ok (.bipush 61, 2) := by decide +kernel
theorem dX12_counts_30 : decode cX12_counts 30 = .ok (.if_icmp .eq 12, 3) := by decide +kernel
theorem dX12_counts_33 : decode cX12_counts 33 = .ok (.aload_n 0, 1) := by decide +kernel
theorem dX12_counts_34 : decode cX12_counts 34 = .ok (.iconst 1, 1) := by decide +kernel
theorem dX12_counts_35 : decode cX12_counts 35 = .ok (.aload_n 0, 1) := by decide +kernel
theorem dX12_counts_36 : decode cX12_counts 36 = .ok (.getfield 200, 3) := by decide +kernel
theorem dX12_counts_39 : decode cX12_counts 39 = .ok (.invokevirtual 237, 3) := by decide +kernel
theorem dX12_counts_42 : decode cX12_counts 42 = .ok (.aload_n 0, 1) := by decide +kernel
theorem dX12_counts_43 : decode cX12_counts 43 = .ok (.dup, 1) := by decide +kernel
theorem dX12_counts_44 : decode cX12_counts 44 = .ok (.getfield 200, 3) := by decide +kernel
theorem dX12_counts_47 : decode cX12_counts 47 = .ok (.iconst 1, 1) := by decide +kernel
theorem dX12_counts_48 : decode cX12_counts 48 = .ok (.iadd, 1) := by decide +kernel
theorem dX12_counts_49 : decode cX12_counts 49 = .ok (.putfield 200, 3) := by decide +kernel
theorem dX12_counts_52 : decode cX12_counts 52 = .ok (.iconst 0, 1) := by decide +kernel
theorem dX12_counts_53 : decode cX12_counts 53 = .ok (.istore_n 2, 1) := by decide +kernel
theorem dX12_counts_54 : decode cX12_counts 54 = .ok (.aload_n 0, 1) := by decide +kernel
theorem dX12_counts_55 : decode cX12_counts 55 = .ok (.invokevirtual 253, 3) := by decide +kernel
theorem dX12_counts_58 : decode cX12_counts 58 = .ok (.ifCond .ne 12, 3) := by decide +kernel
theorem dX12_counts_61 : decode cX12_counts 61 = .ok (.aload_n 0, 1) := by decide +kernel
theorem dX12_counts_62 : decode cX12_counts 62 = .ok (.iconst 1, 1) := by decide +kernel
theorem dX12_counts_63 : decode cX12_counts 63 = .ok (.aload_n 0, 1) := by decide +kernel
theorem dX12_counts_64 : decode cX12_counts 64 = .ok (.getfield 200, 3) := by decide +kernel
theorem dX12_counts_67 : decode cX12_counts 67 = .ok (.invokevirtual 237, 3) := by decide +kernel
theorem dX12_counts_70 : decode cX12_counts 70 = .ok (.iconst 0, 1) := by decide +kernel
theorem dX12_counts_71 : decode cX12_counts 71 = .ok (.istore_n 3, 1) := by decide +kernel
theorem dX12_counts_72 : decode cX12_counts 72 = .ok (.iload_n 3, 1) := by decide +kernel
theorem dX12_counts_73 : decode cX12_counts 73 = .ok (.iconst 2, 1) := by decide +kernel
theorem dX12_counts_74 : decode cX12_counts 74 = .ok (.if_icmp .ge 46, 3) := by decide +kernel
theorem dX12_counts_77 : decode cX12_counts 77 = .ok (.aload_n 0, 1) := by decide +kernel
theorem dX12_counts_78 : decode cX12_counts 78 = .ok (.invokevirtual 221, 3) := by decide +kernel
theorem dX12_counts_81 : decode cX12_counts 81 = .ok (.ifCond .eq 39, 3) := by decide +kernel
theorem dX12_counts_84 : decode cX12_counts 84 = .ok (.aload_n 0, 1) := by decide +kernel
theorem dX12_counts_85 : decode cX12_counts 85 = .ok (.invokevirtual 253, 3) := by decide +kernel
theorem dX12_counts_88 : decode cX12_counts 88 = .ok (.ifCond .eq 32, 3) := by decide +kernel
theorem dX12_counts_91 : decode cX12_counts 91 = .ok (.bipush 10, 2) := by decide +kernel
theorem dX12_counts_93 : decode cX12_counts 93 = .ok (.iload_n 2, 1) := by decide +kernel
theorem dX12_counts_94 : decode cX12_counts 94 = .ok (.imul, 1) := by decide +kernel
theorem dX12_counts_95 : decode cX12_counts 95 = .ok (.aload_n 0, 1) := by decide +kernel
theorem dX12_counts_96 : decode cX12_counts 96 = .ok (.invokevirtual 213, 3) := by decide +kernel
theorem dX12_counts_99 : decode cX12_counts 99 = .ok (.iadd, 1) := by decide +kernel
theorem dX12_counts_100 : decode cX12_counts 100 = .ok (.bipush 48, 2) := by decide +kernel
theorem dX12_counts_102 : decode cX12_counts 102 = .ok (.isub, 1) := by decide +kernel
theorem dX12_counts_103 : decode cX12_counts 103 = .ok (.istore_n 2, 1) := by decide +kernel
theorem dX12_counts_104 : decode cX12_counts 104 = .ok (.aload_n 0, 1) := by decide +kernel
theorem dX12_counts_105 : decode cX12_counts 105 = .ok (.dup, 1) := by decide +kernel
theorem dX12_counts_106 : decode cX12_counts 106 = .ok (.getfield 200, 3) := by decide +kernel
theorem dX12_counts_109 : decode cX12_counts 109 = .ok (.iconst 1, 1) := by decide +kernel
theorem dX12_counts_110 : decode cX12_counts 110 = .ok (.iadd, 1) := by decide +kernel
theorem dX12_counts_111 : decode cX12_counts 111 = .ok (.putfield 200, 3) := by decide +kernel
theorem dX12_counts_114 : decode cX12_counts 114 = .ok (.iinc 3 1, 3) := by decide +kernel
theorem dX12_counts_117 : decode cX12_counts 117 = .ok (.goto (-45), 3) := by decide +kernel
theorem dX12_counts_120 : decode cX12_counts 120 = .ok (.aload_n 0, 1) := by decide +kernel
theorem dX12_counts_121 : decode cX12_counts 121 = .ok (.iload_n 1, 1) := by decide +kernel
theorem dX12_counts_122 : decode cX12_counts 122 = .ok (.bipush 60, 2) := by decide +kernel
theorem dX12_counts_124 : decode cX12_counts 124 = .ok (.if_icmp .ne 7, 3) := by decide +kernel
theorem dX12_counts_127 : decode cX12_counts 127 = .ok (.iconst 3, 1) := by decide +kernel
theorem dX12_counts_128 : decode cX12_counts 128 = .ok (.goto 14, 3) := by decide +kernel
theorem dX12_counts_131 : decode cX12_counts 131 = .ok (.iload_n 1, 1) := by decide +kernel
theorem dX12_counts_132 : decode cX12_counts 132 = .ok (.bipush 62, 2) := by decide +kernel
theorem dX12_counts_134 : decode cX12_counts 134 = .ok (.if_icmp .ne 7, 3) := by decide +kernel
theorem dX12_counts_137 : decode cX12_counts 137 = .ok (.iconst 4, 1) := by decide +kernel
theorem dX12_counts_138 : decode cX12_counts 138 = .ok (.goto 4, 3) := by decide +kernel
theorem dX12_counts_141 : decode cX12_counts 141 = .ok (.iconst 5, 1) := by decide +kernel
theorem dX12_counts_142 : decode cX12_counts 142 = .ok (.iload_n 2, 1) := by decide +kernel
theorem dX12_counts_143 : decode cX12_counts 143 = .ok (.invokevirtual 256, 3) := by decide +kernel
theorem dX12_counts_146 : decode cX12_counts 146 = .ok (.return_, 1) := by decide +kernel
theorem dX12_atom_0 : decode cX12_atom 0 = .ok (.aload_n 0, 1) := by decide +kernel
theorem dX12_atom_1 : decode cX12_atom 1 = .ok (.invokevirtual 213, 3) := by decide +kernel
theorem dX12_atom_4 : decode cX12_atom 4 = .ok (.bipush 42, 2) := by decide +kernel
theorem dX12_atom_6 : decode cX12_atom 6 = .ok (.if_icmp .ne 17, 3) := by decide +kernel
theorem dX12_atom_9 : decode cX12_atom 9 = .ok (.aload_n 0, 1) := by decide +kernel
theorem dX12_atom_10 : decode cX12_atom 10 = .ok (.invokevirtual 259, 3) := by decide +kernel
theorem dX12_atom_13 : decode cX12_atom 13 = .ok (.istore_n 1, 1) := by decide +kernel
theorem dX12_atom_14 : decode cX12_atom 14 = .ok (.aload_n 0, 1) := by decide +kernel
theorem dX12_atom_15 : decode cX12_atom 15 = .ok (.iconst 2, 1) := by decide +kernel
theorem dX12_atom_16 : decode cX12_atom 16 = .ok (.iload_n 1, 1) := by decide +kernel
theorem dX12_atom_17 : decode cX12_atom 17 = .ok (.invokevirtual 256, 3) := by decide +kernel
theorem dX12_atom_20 : decode cX12_atom 20 = .ok (.goto 52, 3) := by decide +kernel
theorem dX12_atom_23 : decode cX12_atom 23 = .ok (.aload_n 0, 1) := by decide +kernel
theorem dX12_atom_24 : decode cX12_atom 24 = .ok (.invokevirtual 213, 3) := by decide +kernel
theorem dX12_atom_27 : decode cX12_atom 27 = .ok (.bipush 35, 2) := by decide +kernel
theorem dX12_atom_29 : decode cX12_atom 29 = .ok (.if_icmp .ne 10, 3) := by decide +kernel
theorem dX12_atom_32 : decode cX12_atom 32 = .ok (.aload_n 0, 1) := by decide +kernel
theorem dX12_atom_33 : decode cX12_atom 33 = .ok (.invokevirtual 262, 3) := by decide +kernel
theorem dX12_atom_36 : decode cX12_atom 36 = .ok (.goto 36, 3) := by decide +kernel
theorem dX12_atom_39 : decode cX12_atom 39 = .ok (.aload_n 0, 1) := by decide +kernel
theorem dX12_atom_40 : decode cX12_atom 40 = .ok (.invokevirtual 213, 3) := by decide +kernel
theorem dX12_atom_43 : decode cX12_atom 43 = .ok (.invokestatic 247, 3) := by decide +kernel
theorem dX12_atom_46 : decode cX12_atom 46 = .ok (.ifCond .eq 17, 3) := by decide +kernel
theorem dX12_atom_49 : decode cX12_atom 49 = .ok (.aload_n 0, 1) := by decide +kernel
theorem dX12_atom_50 : decode cX12_atom 50 = .ok (.invokevirtual 265, 3) := by decide +kernel
theorem dX12_atom_53 : decode cX12_atom 53 = .ok (.istore_n 1, 1) := by decide +kernel
theorem dX12_atom_54 : decode cX12_atom 54 = .ok (.aload_n 0, 1) := by decide +kernel
theorem dX12_atom_55 : decode cX12_atom 55 = .ok (.iconst 1, 1) := by decide +kernel
theorem dX12_atom_56 : decode cX12_atom 56 = .ok (.iload_n 1, 1) := by decide +kernel
theorem dX12_atom_57 : decode cX12_atom 57 = .ok (.invokevirtual 256, 3) := by decide +kernel
theorem dX12_atom_60 : decode cX12_atom 60 = .ok (.goto 12, 3) := by decide +kernel
theorem dX12_atom_63 : decode cX12_atom 63 = .ok (.aload_n 0, 1) := by decide +kernel
theorem dX12_atom_64 : decode cX12_atom 64 = .ok (.iconst 1, 1) := by decide +kernel
theorem dX12_atom_65 : decode cX12_atom 65 = .ok (.aload_n 0, 1) := by decide +kernel
theorem dX12_atom_66 : decode cX12_atom 66 = .ok (.getfield 200, 3) := by decide +kernel
theorem dX12_atom_69 : decode cX12_atom 69 = .ok (.invokevirtual 237, 3) := by decide +kernel
theorem dX12_atom_72 : decode cX12_atom 72 = .ok (.return_, 1) := by decide +kernel
theorem dX12_ends_0 : decode cX12_ends 0 = .ok (.aload_n 0, 1) := by decide +kernel
theorem dX12_ends_1 : decode cX12_ends 1 = .ok (.invokevirtual 268, 3) := by decide +kernel
theorem dX12_ends_4 : decode cX12_ends 4 = .ok (.bipush 33, 2) := by decide +kernel
theorem dX12_ends_6 : decode cX12_ends 6 = .ok (.if_icmp .ne 33, 3) := by decide +kernel
theorem dX12_ends_9 : decode cX12_ends 9 = .ok (.aload_n 0, 1) := by decide +kernel
theorem dX12_ends_10 : decode cX12_ends 10 = .ok (.bipush 6, 2) := by decide +kernel
theorem dX12_ends_12 : decode cX12_ends 12 = .ok (.iconst 0, 1) := by decide +kernel
theorem dX12_ends_13 : decode cX12_ends 13 = .ok (.invokevirtual 256, 3) := by decide +kernel
theorem dX12_ends_16 : decode cX12_ends 16 = .ok (.aload_n 0, 1) := by decide +kernel
theorem dX12_ends_17 : decode cX12_ends 17 = .ok (.dup, 1) := by decide +kernel
theorem dX12_ends_18 : decode cX12_ends 18 = .ok (.getfield 231, 3) := by decide +kernel
theorem dX12_ends_21 : decode cX12_ends 21 = .ok (.iconst 1, 1) := by decide +kernel
theorem dX12_ends_22 : decode cX12_ends 22 = .ok (.isub, 1) := by decide +kernel
theorem dX12_ends_23 : decode cX12_ends 23 = .ok (.putfield 231, 3) := by decide +kernel
theorem dX12_ends_26 : decode cX12_ends 26 = .ok (.aload_n 0, 1) := by decide +kernel
theorem dX12_ends_27 : decode cX12_ends 27 = .ok (.dup, 1) := by decide +kernel
theorem dX12_ends_28 : decode cX12_ends 28 = .ok (.getfield 234, 3) := by decide +kernel
theorem dX12_ends_31 : decode cX12_ends 31 = .ok (.iconst 1, 1) := by decide +kernel
theorem dX12_ends_32 : decode cX12_ends 32 = .ok (.isub, 1) := by decide +kernel
theorem dX12_ends_33 : decode cX12_ends 33 = .ok (.putfield 234, 3) := by decide +kernel
theorem dX12_ends_36 : decode cX12_ends 36 = .ok (.goto (-36), 3) := by decide +kernel
theorem dX12_ends_39 : decode cX12_ends 39 = .ok (.return_, 1) := by decide +kernel
theorem dX12_joins_0 : decode cX12_joins 0 = .ok (.aload_n 0, 1) := by decide +kernel
theorem dX12_joins_1 : decode cX12_joins 1 = .ok (.invokevirtual 268, 3) := by decide +kernel
theorem dX12_joins_4 : decode cX12_joins 4 = .ok (.bipush 38, 2) := by decide +kernel
theorem dX12_joins_6 : decode cX12_joins 6 = .ok (.if_icmp .eq 16, 3) := by decide +kernel
theorem dX12_joins_9 : decode cX12_joins 9 = .ok (.iload_n 1, 1) := by decide +kernel
theorem dX12_joins_10 : decode cX12_joins 10 = .ok (.ifCond .eq 34, 3) := by decide +kernel
theorem dX12_joins_13 : decode cX12_joins 13 = .ok (.aload_n 0, 1) := by decide +kernel
theorem dX12_joins_14 : decode cX12_joins 14 = .ok (.invokevirtual 268, 3) := by decide +kernel
theorem dX12_joins_17 : decode cX12_joins 17 = .ok (.bipush 124, 2) := by decide +kernel
theorem dX12_joins_19 : decode cX12_joins 19 = .ok (.if_icmp .ne 25, 3) := by decide +kernel
theorem dX12_joins_22 : decode cX12_joins 22 = .ok (.aload_n 0, 1) := by decide +kernel
theorem dX12_joins_23 : decode cX12_joins 23 = .ok (.aload_n 0, 1) := by decide +kernel
theorem dX12_joins_24 : decode cX12_joins 24 = .ok (.invokevirtual 268, 3) := by decide +kernel
theorem dX12_joins_27 : decode cX12_joins 27 = .ok (.iconst 0, 1) := by decide +kernel
theorem dX12_joins_28 : decode cX12_joins 28 = .ok (.invokevirtual 256, 3) := by decide +kernel
theorem dX12_joins_31 : decode cX12_joins 31 = .ok (.aload_n 0, 1) := by decide +kernel
theorem dX12_joins_32 : decode cX12_joins 32 = .ok (.dup, 1) := by decide +kernel
theorem dX12_joins_33 : decode cX12_joins 33 = .ok (.getfield 231, 3) := by decide +kernel
theorem dX12_joins_36 : decode cX12_joins 36 = .ok (.iconst 1, 1) := by decide +kernel
theorem dX12_joins_37 : decode cX12_joins 37 = .ok (.isub, 1) := by decide +kernel
theorem dX12_joins_38 : decode cX12_joins 38 = .ok (.putfield 231, 3) := by decide +kernel
theorem dX12_joins_41 : decode cX12_joins 41 = .ok (.goto (-41), 3) := by decide +kernel
theorem dX12_joins_44 : decode cX12_joins 44 = .ok (.return_, 1) := by decide +kernel
theorem dX12_condition_0 : decode cX12_condition 0 = .ok (.aload_n 0, 1) := by decide +kernel
theorem dX12_condition_1 : decode cX12_condition 1 = .ok (.iconst 0, 1) := by decide +kernel
theorem dX12_condition_2 : decode cX12_condition 2 = .ok (.putfield 231, 3) := by decide +kernel
theorem dX12_condition_5 : decode cX12_condition 5 = .ok (.aload_n 0, 1) := by decide +kernel
theorem dX12_condition_6 : decode cX12_condition 6 = .ok (.iconst 0, 1) := by decide +kernel
theorem dX12_condition_7 : decode cX12_condition 7 = .ok (.putfield 234, 3) := by decide +kernel
theorem dX12_condition_10 : decode cX12_condition 10 = .ok (.aload_n 0, 1) := by decide +kernel
theorem dX12_condition_11 : decode cX12_condition 11 = .ok (.invokevirtual 271, 3) := by decide +kernel
theorem dX12_condition_14 : decode cX12_condition 14 = .ok (.iconst 1, 1) := by decide +kernel
theorem dX12_condition_15 : decode cX12_condition 15 = .ok (.istore_n 1, 1) := by decide +kernel
theorem dX12_condition_16 : decode cX12_condition 16 = .ok (.aload_n 0, 1) := by decide +kernel
theorem dX12_condition_17 : decode cX12_condition 17 = .ok (.invokevirtual 221, 3) := by decide +kernel
theorem dX12_condition_20 : decode cX12_condition 20 = .ok (.ifCond .eq 159, 3) := by decide +kernel
theorem dX12_condition_23 : decode cX12_condition 23 = .ok (.aload_n 0, 1) := by decide +kernel
theorem dX12_condition_24 : decode cX12_condition 24 = .ok (.getfield 231, 3) := by decide +kernel
theorem dX12_condition_27 : decode cX12_condition 27 = .ok (.ifCond .le 152, 3) := by decide +kernel
theorem dX12_condition_30 : decode cX12_condition 30 = .ok (.aload_n 0, 1) := by decide +kernel
theorem dX12_condition_31 : decode cX12_condition 31 = .ok (.invokevirtual 213, 3) := by decide +kernel
theorem dX12_condition_34 : decode cX12_condition 34 = .ok (.istore_n 2, 1) := by decide +kernel
theorem dX12_condition_35 : decode cX12_condition 35 = .ok (.iload_n 1, 1) := by decide +kernel
theorem dX12_condition_36 : decode cX12_condition 36 = .ok (.ifCond .eq 22, 3) := by decide +kernel
theorem dX12_condition_39 : decode cX12_condition 39 = .ok (.iload_n 2, 1) := by decide +kernel
theorem dX12_condition_40 : decode cX12_condition 40 = .ok (.bipush 33, 2) := by decide +kernel
theorem dX12_condition_42 : decode cX12_condition 42 = .ok (.if_icmp .eq 9, 3) := by decide +kernel
theorem dX12_condition_45 : decode cX12_condition 45 = .ok (.iload_n 2, 1) := by decide +kernel
theorem dX12_condition_46 : decode cX12_condition 46 = .ok (.bipush 40, 2) := by decide +kernel
theorem dX12_condition_48 : decode cX12_condition 48 = .ok (.if_icmp .ne 10, 3) := by decide +kernel
theorem dX12_condition_51 : decode cX12_condition 51 = .ok (.aload_n 0, 1) := by decide +kernel
theorem dX12_condition_52 : decode cX12_condition 52 = .ok (.invokevirtual 271, 3) := by decide +kernel
theorem dX12_condition_55 : decode cX12_condition 55 = .ok (.goto 121, 3) := by decide +kernel
theorem dX12_condition_58 : decode cX12_condition 58 = .ok (.iload_n 1, 1) := by decide +kernel
theorem dX12_condition_59 : decode cX12_condition 59 = .ok (.ifCond .eq 16, 3) := by decide +kernel
theorem dX12_condition_62 : decode cX12_condition 62 = .ok (.aload_n 0, 1) := by decide +kernel
theorem dX12_condition_63 : decode cX12_condition 63 = .ok (.invokevirtual 274, 3) := by decide +kernel
theorem dX12_condition_66 : decode cX12_condition 66 = .ok (.aload_n 0, 1) := by decide +kernel
theorem dX12_condition_67 : decode cX12_condition 67 = .ok (.invokevirtual 277, 3) := by decide +kernel
theorem dX12_condition_70 : decode cX12_condition 70 = .ok (.iconst 0, 1) := by decide +kernel
theorem dX12_condition_71 : decode cX12_condition 71 = .ok (.istore_n 1, 1) := by decide +kernel
theorem dX12_condition_72 : decode cX12_condition 72 = .ok (.goto 104, 3) := by decide +kernel
theorem dX12_condition_75 : decode cX12_condition 75 = .ok (.iload_n 2, 1) := by decide +kernel
theorem dX12_condition_76 : decode cX12_condition 76 = .ok (.bipush 38, 2) := by decide +kernel
theorem dX12_condition_78 : decode cX12_condition 78 = .ok (.if_icmp .eq 9, 3) := by decide +kernel
theorem dX12_condition_81 : decode cX12_condition 81 = .ok (.iload_n 2, 1) := by decide +kernel
theorem dX12_condition_82 : decode cX12_condition 82 = .ok (.bipush 124, 2) := by decide +kernel
theorem dX12_condition_84 : decode cX12_condition 84 = .ok (.if_icmp .ne 28, 3) := by decide +kernel
theorem dX12_condition_87 : decode cX12_condition 87 = .ok (.aload_n 0, 1) := by decide +kernel
theorem dX12_condition_88 : decode cX12_condition 88 = .ok (.iload_n 2, 1) := by decide +kernel
theorem dX12_condition_89 : decode cX12_condition 89 = .ok (.bipush 124, 2) := by decide +kernel
theorem dX12_condition_91 : decode cX12_condition 91 = .ok (.if_icmp .ne 7, 3) := by decide +kernel
theorem dX12_condition_94 : decode cX12_condition 94 = .ok (.iconst 1, 1) := by decide +kernel
theorem dX12_condition_95 : decode cX12_condition 95 = .ok (.goto 4, 3) := by decide +kernel
theorem dX12_condition_98 : decode cX12_condition 98 = .ok (.iconst 0, 1) := by decide +kernel
theorem dX12_condition_99 : decode cX12_condition 99 = .ok (.invokevirtual 280, 3) := by decide +kernel
theorem dX12_condition_102 : decode cX12_condition 102 = .ok (.aload_n 0, 1) := by decide +kernel
theorem dX12_condition_103 : decode cX12_condition 103 = .ok (.iload_n 2, 1) := by decide +kernel
theorem dX12_condition_104 : decode cX12_condition 104 = .ok (.invokevirtual 241, 3) := by decide +kernel
theorem dX12_condition_107 : decode cX12_condition 107 = .ok (.iconst 1, 1) := by decide +kernel
theorem dX12_condition_108 : decode cX12_condition 108 = .ok (.istore_n 1, 1) := by decide +kernel
theorem dX12_condition_109 : decode cX12_condition 109 = .ok (.goto 67, 3) := by decide +kernel
theorem dX12_condition_112 : decode cX12_condition 112 = .ok (.iload_n 2, 1) := by decide +kernel
theorem dX12_condition_113 : decode cX12_condition 113 = .ok (.bipush 41, 2) := by decide +kernel
theorem dX12_condition_115 : decode cX12_condition 115 = .ok (.if_icmp .ne 52, 3) := by decide +kernel
theorem dX12_condition_118 : decode cX12_condition 118 = .ok (.aload_n 0, 1) := by decide +kernel
theorem dX12_condition_119 : decode cX12_condition 119 = .ok (.iconst 1, 1) := by decide +kernel
theorem dX12_condition_120 : decode cX12_condition 120 = .ok (.invokevirtual 280, 3) := by decide +kernel
theorem dX12_condition_123 : decode cX12_condition 123 = .ok (.aload_n 0, 1) := by decide +kernel
theorem dX12_condition_124 : decode cX12_condition 124 = .ok (.dup, 1) := by decide +kernel
theorem dX12_condition_125 : decode cX12_condition 125 = .ok (.getfield 231, 3) := by decide +kernel
theorem dX12_condition_128 : decode cX12_condition 128 = .ok (.iconst 1, 1) := by decide +kernel
theorem dX12_condition_129 : decode cX12_condition 129 = .ok (.isub, 1) := by decide +kernel
theorem dX12_condition_130 : decode cX12_condition 130 = .ok (.putfield 231, 3) := by decide +kernel
theorem dX12_condition_133 : decode cX12_condition 133 = .ok (.aload_n 0, 1) := by decide +kernel
theorem dX12_condition_134 : decode cX12_condition 134 = .ok (.dup, 1) := by decide +kernel
theorem dX12_condition_135 : decode cX12_condition 135 = .ok (.getfield 234, 3) := by decide +kernel
theorem dX12_condition_138 : decode cX12_condition 138 = .ok (.iconst 1, 1) := by decide +kernel
theorem dX12_condition_139 : decode cX12_condition 139 = .ok (.isub, 1) := by decide +kernel
theorem dX12_condition_140 : decode cX12_condition 140 = .ok (.putfield 234, 3) := by decide +kernel
theorem dX12_condition_143 : decode cX12_condition 143 = .ok (.aload_n 0, 1) := by decide +kernel
theorem dX12_condition_144 : decode cX12_condition 144 = .ok (.dup, 1) := by decide +kernel
theorem dX12_condition_145 : decode cX12_condition 145 = .ok (.getfield 200, 3) := by decide +kernel
theorem dX12_condition_148 : decode cX12_condition 148 = .ok (.iconst 1, 1) := by decide +kernel
theorem dX12_condition_149 : decode cX12_condition 149 = .ok (.iadd, 1) := by decide +kernel
theorem dX12_condition_150 : decode cX12_condition 150 = .ok (.putfield 200, 3) := by decide +kernel
theorem dX12_condition_153 : decode cX12_condition 153 = .ok (.aload_n 0, 1) := by decide +kernel
theorem dX12_condition_154 : decode cX12_condition 154 = .ok (.getfield 231, 3) := by decide +kernel
theorem dX12_condition_157 : decode cX12_condition 157 = .ok (.ifCond .le 19, 3) := by decide +kernel
theorem dX12_condition_160 : decode cX12_condition 160 = .ok (.aload_n 0, 1) := by decide +kernel
theorem dX12_condition_161 : decode cX12_condition 161 = .ok (.invokevirtual 277, 3) := by decide +kernel
theorem dX12_condition_164 : decode cX12_condition 164 = .ok (.goto 12, 3) := by decide +kernel
theorem dX12_condition_167 : decode cX12_condition 167 = .ok (.aload_n 0, 1) := by decide +kernel
theorem dX12_condition_168 : decode cX12_condition 168 = .ok (.iconst 1, 1) := by decide +kernel
theorem dX12_condition_169 : decode cX12_condition 169 = .ok (.aload_n 0, 1) := by decide +kernel
theorem dX12_condition_170 : decode cX12_condition 170 = .ok (.getfield 200, 3) := by decide +kernel
theorem dX12_condition_173 : decode cX12_condition 173 = .ok (.invokevirtual 237, 3) := by decide +kernel
theorem dX12_condition_176 : decode cX12_condition 176 = .ok (.goto (-160), 3) := by decide +kernel
theorem dX12_condition_179 : decode cX12_condition 179 = .ok (.return_, 1) := by decide +kernel
theorem dX12_taker_0 : decode cX12_taker 0 = .ok (.aload_n 0, 1) := by decide +kernel
theorem dX12_taker_1 : decode cX12_taker 1 = .ok (.invokevirtual 213, 3) := by decide +kernel
theorem dX12_taker_4 : decode cX12_taker 4 = .ok (.bipush 42, 2) := by decide +kernel
theorem dX12_taker_6 : decode cX12_taker 6 = .ok (.if_icmp .eq 25, 3) := by decide +kernel
theorem dX12_taker_9 : decode cX12_taker 9 = .ok (.aload_n 0, 1) := by decide +kernel
theorem dX12_taker_10 : decode cX12_taker 10 = .ok (.invokevirtual 213, 3) := by decide +kernel
theorem dX12_taker_13 : decode cX12_taker 13 = .ok (.invokestatic 247, 3) := by decide +kernel
theorem dX12_taker_16 : decode cX12_taker 16 = .ok (.ifCond .ne 15, 3) := by decide +kernel
theorem dX12_taker_19 : decode cX12_taker 19 = .ok (.aload_n 0, 1) := by decide +kernel
theorem dX12_taker_20 : decode cX12_taker 20 = .ok (.iconst 1, 1) := by decide +kernel
theorem dX12_taker_21 : decode cX12_taker 21 = .ok (.aload_n 0, 1) := by decide +kernel
theorem dX12_taker_22 : decode cX12_taker 22 = .ok (.getfield 200, 3) := by decide +kernel
theorem dX12_taker_25 : decode cX12_taker 25 = .ok (.invokevirtual 237, 3) := by decide +kernel
theorem dX12_taker_28 : decode cX12_taker 28 = .ok (.goto 51, 3) := by decide +kernel
theorem dX12_taker_31 : decode cX12_taker 31 = .ok (.iload_n 2, 1) := by decide +kernel
theorem dX12_taker_32 : decode cX12_taker 32 = .ok (.ifCond .eq 24, 3) := by decide +kernel
theorem dX12_taker_35 : decode cX12_taker 35 = .ok (.aload_n 0, 1) := by decide +kernel
theorem dX12_taker_36 : decode cX12_taker 36 = .ok (.getfield 284, 3) := by decide +kernel
theorem dX12_taker_39 : decode cX12_taker 39 = .ok (.bipush 8, 2) := by decide +kernel
theorem dX12_taker_41 : decode cX12_taker 41 = .ok (.if_icmp .ne 15, 3) := by decide +kernel
theorem dX12_taker_44 : decode cX12_taker 44 = .ok (.aload_n 0, 1) := by decide +kernel
theorem dX12_taker_45 : decode cX12_taker 45 = .ok (.iconst 3, 1) := by decide +kernel
theorem dX12_taker_46 : decode cX12_taker 46 = .ok (.aload_n 0, 1) := by decide +kernel
theorem dX12_taker_47 : decode cX12_taker 47 = .ok (.getfield 200, 3) := by decide +kernel
theorem dX12_taker_50 : decode cX12_taker 50 = .ok (.invokevirtual 237, 3) := by decide +kernel
theorem dX12_taker_53 : decode cX12_taker 53 = .ok (.goto 26, 3) := by decide +kernel
theorem dX12_taker_56 : decode cX12_taker 56 = .ok (.iload_n 2, 1) := by decide +kernel
theorem dX12_taker_57 : decode cX12_taker 57 = .ok (.ifCond .ne 22, 3) := by decide +kernel
theorem dX12_taker_60 : decode cX12_taker 60 = .ok (.aload_n 0, 1) := by decide +kernel
theorem dX12_taker_61 : decode cX12_taker 61 = .ok (.getfield 51, 3) := by decide +kernel
theorem dX12_taker_64 : decode cX12_taker 64 = .ok (.iload_n 1, 1) := by decide +kernel
theorem dX12_taker_65 : decode cX12_taker 65 = .ok (.iaload, 1) := by decide +kernel
theorem dX12_taker_66 : decode cX12_taker 66 = .ok (.iconst 4, 1) := by decide +kernel
theorem dX12_taker_67 : decode cX12_taker 67 = .ok (.if_icmp .ne 12, 3) := by decide +kernel
theorem dX12_taker_70 : decode cX12_taker 70 = .ok (.aload_n 0, 1) := by decide +kernel
theorem dX12_taker_71 : decode cX12_taker 71 = .ok (.iconst 4, 1) := by decide +kernel
theorem dX12_taker_72 : decode cX12_taker 72 = .ok (.aload_n 0, 1) := by decide +kernel
theorem dX12_taker_73 : decode cX12_taker 73 = .ok (.getfield 200, 3) := by decide +kernel
theorem dX12_taker_76 : decode cX12_taker 76 = .ok (.invokevirtual 237, 3) := by decide +kernel
theorem dX12_taker_79 : decode cX12_taker 79 = .ok (.aload_n 0, 1) := by decide +kernel
theorem dX12_taker_80 : decode cX12_taker 80 = .ok (.invokevirtual 221, 3) := by decide +kernel
theorem dX12_taker_83 : decode cX12_taker 83 = .ok (.ifCond .ne 4, 3) := by decide +kernel
theorem dX12_taker_86 : decode cX12_taker 86 = .ok (.return_, 1) := by decide +kernel
theorem dX12_taker_87 : decode cX12_taker 87 = .ok (.iconst 4, 1) := by decide +kernel
theorem dX12_taker_88 : decode cX12_taker 88 = .ok (.iload_n 1, 1) := by decide +kernel
theorem dX12_taker_89 : decode cX12_taker 89 = .ok (.imul, 1) := by decide +kernel
theorem dX12_taker_90 : decode cX12_taker 90 = .ok (.iload_n 2, 1) := by decide +kernel
theorem dX12_taker_91 : decode cX12_taker 91 = .ok (.ifCond .eq 7, 3) := by decide +kernel
theorem dX12_taker_94 : decode cX12_taker 94 = .ok (.iconst 0, 1) := by decide +kernel
theorem dX12_taker_95 : decode cX12_taker 95 = .ok (.goto 9, 3) := by decide +kernel
theorem dX12_taker_98 : decode cX12_taker 98 = .ok (.aload_n 0, 1) := by decide +kernel
theorem dX12_taker_99 : decode cX12_taker 99 = .ok (.getfield 51, 3) := by decide +kernel
theorem dX12_taker_102 : decode cX12_taker 102 = .ok (.iload_n 1, 1) := by decide +kernel
theorem dX12_taker_103 : decode cX12_taker 103 = .ok (.iaload, 1) := by decide +kernel
theorem dX12_taker_104 : decode cX12_taker 104 = .ok (.iadd, 1) := by decide +kernel
theorem dX12_taker_105 : decode cX12_taker 105 = .ok (.istore_n 3, 1) := by decide +kernel
theorem dX12_taker_106 : decode cX12_taker 106 = .ok (.aload_n 0, 1) := by decide +kernel
theorem dX12_taker_107 : decode cX12_taker 107 = .ok (.invokevirtual 213, 3) := by decide +kernel
theorem dX12_taker_110 : decode cX12_taker 110 = .ok (.bipush 42, 2) := by decide +kernel
theorem dX12_taker_112 : decode cX12_taker 112 = .ok (.if_icmp .ne 7, 3) := by decide +kernel
theorem dX12_taker_115 : decode cX12_taker 115 = .ok (.iconst 1, 1) := by decide +kernel
theorem dX12_taker_116 : decode cX12_taker 116 = .ok (.goto 4, 3) := by decide +kernel
theorem dX12_taker_119 : decode cX12_taker 119 = .ok (.iconst 0, 1) := by decide +kernel
theorem dX12_taker_120 : decode cX12_taker 120 = .ok (.istore 4, 2) := by decide +kernel
theorem dX12_taker_122 : decode cX12_taker 122 = .ok (.iload 4, 2) := by decide +kernel
theorem dX12_taker_124 : decode cX12_taker 124 = .ok (.ifCond .eq 10, 3) := by decide +kernel
theorem dX12_taker_127 : decode cX12_taker 127 = .ok (.aload_n 0, 1) := by decide +kernel
theorem dX12_taker_128 : decode cX12_taker 128 = .ok (.invokevirtual 259, 3) := by decide +kernel
theorem dX12_taker_131 : decode cX12_taker 131 = .ok (.goto 7, 3) := by decide +kernel
theorem dX12_taker_134 : decode cX12_taker 134 = .ok (.aload_n 0, 1) := by decide +kernel
theorem dX12_taker_135 : decode cX12_taker 135 = .ok (.invokevirtual 265, 3) := by decide +kernel
theorem dX12_taker_138 : decode cX12_taker 138 = .ok (.istore 5, 2) := by decide +kernel
theorem dX12_taker_140 : decode cX12_taker 140 = .ok (.iconst 1, 1) := by decide +kernel
theorem dX12_taker_141 : decode cX12_taker 141 = .ok (.istore 6, 2) := by decide +kernel
theorem dX12_taker_143 : decode cX12_taker 143 = .ok (.aload_n 0, 1) := by decide +kernel
theorem dX12_taker_144 : decode cX12_taker 144 = .ok (.invokevirtual 221, 3) := by decide +kernel
theorem dX12_taker_147 : decode cX12_taker 147 = .ok (.ifCond .eq 67, 3) := by decide +kernel
theorem dX12_taker_150 : decode cX12_taker 150 = .ok (.aload_n 0, 1) := by decide +kernel
theorem dX12_taker_151 : decode cX12_taker 151 = .ok (.invokevirtual 213, 3) := by decide +kernel
theorem dX12_taker_154 : decode cX12_taker 154 = .ok (.bipush 47, 2) := by decide +kernel
theorem dX12_taker_156 : decode cX12_taker 156 = .ok (.if_icmp .ne 58, 3) := by decide +kernel
theorem dX12_taker_159 : decode cX12_taker 159 = .ok (.aload_n 0, 1) := by decide +kernel
theorem dX12_taker_160 : decode cX12_taker 160 = .ok (.dup, 1) := by decide +kernel
theorem dX12_taker_161 : decode cX12_taker 161 = .ok (.getfield 200, 3) := by decide +kernel
theorem dX12_taker_164 : decode cX12_taker 164 = .ok (.iconst 1, 1) := by decide +kernel
theorem dX12_taker_165 : decode cX12_taker 165 = .ok (.iadd, 1) := by decide +kernel
theorem dX12_taker_166 : decode cX12_taker 166 = .ok (.putfield 200, 3) := by decide +kernel
theorem dX12_taker_169 : decode cX12_taker 169 = .ok (.aload_n 0, 1) := by decide +kernel
theorem dX12_taker_170 : decode cX12_taker 170 = .ok (.invokevirtual 213, 3) := by decide +kernel
theorem dX12_taker_173 : decode cX12_taker 173 = .ok (.i2l, 1) := by decide +kernel
theorem dX12_taker_174 : decode cX12_taker 174 = .ok (.ldc2_w 183, 3) := by decide +kernel
theorem dX12_taker_177 : decode cX12_taker 177 = .ok (.ldc2_w 219, 3) := by decide +kernel
theorem dX12_taker_180 : decode cX12_taker 180 = .ok (.invokestatic 156, 3) := by decide +kernel
theorem dX12_taker_183 : decode cX12_taker 183 = .ok (.ifCond .ne 12, 3) := by decide +kernel
theorem dX12_taker_186 : decode cX12_taker 186 = .ok (.aload_n 0, 1) := by decide +kernel
theorem dX12_taker_187 : decode cX12_taker 187 = .ok (.iconst 1, 1) := by decide +kernel
theorem dX12_taker_188 : decode cX12_taker 188 = .ok (.aload_n 0, 1) := by decide +kernel
theorem dX12_taker_189 : decode cX12_taker 189 = .ok (.getfield 200, 3) := by decide +kernel
theorem dX12_taker_192 : decode cX12_taker 192 = .ok (.invokevirtual 237, 3) := by decide +kernel
theorem dX12_taker_195 : decode cX12_taker 195 = .ok (.aload_n 0, 1) := by decide +kernel
theorem dX12_taker_196 : decode cX12_taker 196 = .ok (.invokevirtual 213, 3) := by decide +kernel
theorem dX12_taker_199 : decode cX12_taker 199 = .ok (.bipush 48, 2) := by decide +kernel
theorem dX12_taker_201 : decode cX12_taker 201 = .ok (.isub, 1) := by decide +kernel
theorem dX12_taker_202 : decode cX12_taker 202 = .ok (.istore 6, 2) := by decide +kernel
theorem dX12_taker_204 : decode cX12_taker 204 = .ok (.aload_n 0, 1) := by decide +kernel
theorem dX12_taker_205 : decode cX12_taker 205 = .ok (.dup, 1) := by decide +kernel
theorem dX12_taker_206 : decode cX12_taker 206 = .ok (.getfield 200, 3) := by decide +kernel
theorem dX12_taker_209 : decode cX12_taker 209 = .ok (.iconst 1, 1) := by decide +kernel
theorem dX12_taker_210 : decode cX12_taker 210 = .ok (.iadd, 1) := by decide +kernel
theorem dX12_taker_211 : decode cX12_taker 211 = .ok (.putfield 200, 3) := by decide +kernel
theorem dX12_taker_214 : decode cX12_taker 214 = .ok (.aload_n 0, 1) := by decide +kernel
theorem dX12_taker_215 : decode cX12_taker 215 = .ok (.invokevirtual 221, 3) := by decide +kernel
theorem dX12_taker_218 : decode cX12_taker 218 = .ok (.ifCond .ne 4, 3) := by decide +kernel
theorem dX12_taker_221 : decode cX12_taker 221 = .ok (.return_, 1) := by decide +kernel
theorem dX12_taker_222 : decode cX12_taker 222 = .ok (.aload_n 0, 1) := by decide +kernel
theorem dX12_taker_223 : decode cX12_taker 223 = .ok (.getfield 60, 3) := by decide +kernel
theorem dX12_taker_226 : decode cX12_taker 226 = .ok (.iload_n 3, 1) := by decide +kernel
theorem dX12_taker_227 : decode cX12_taker 227 = .ok (.iload 4, 2) := by decide +kernel
theorem dX12_taker_229 : decode cX12_taker 229 = .ok (.bastore, 1) := by decide +kernel
theorem dX12_taker_230 : decode cX12_taker 230 = .ok (.aload_n 0, 1) := by decide +kernel
theorem dX12_taker_231 : decode cX12_taker 231 = .ok (.getfield 64, 3) := by decide +kernel
theorem dX12_taker_234 : decode cX12_taker 234 = .ok (.iload_n 3, 1) := by decide +kernel
theorem dX12_taker_235 : decode cX12_taker 235 = .ok (.iload 5, 2) := by decide +kernel
theorem dX12_taker_237 : decode cX12_taker 237 = .ok (.iastore, 1) := by decide +kernel
theorem dX12_taker_238 : decode cX12_taker 238 = .ok (.aload_n 0, 1) := by decide +kernel
theorem dX12_taker_239 : decode cX12_taker 239 = .ok (.getfield 67, 3) := by decide +kernel
theorem dX12_taker_242 : decode cX12_taker 242 = .ok (.iload_n 3, 1) := by decide +kernel
theorem dX12_taker_243 : decode cX12_taker 243 = .ok (.iload 6, 2) := by decide +kernel
theorem dX12_taker_245 : decode cX12_taker 245 = .ok (.iastore, 1) := by decide +kernel
theorem dX12_taker_246 : decode cX12_taker 246 = .ok (.aload_n 0, 1) := by decide +kernel
theorem dX12_taker_247 : decode cX12_taker 247 = .ok (.getfield 51, 3) := by decide +kernel
theorem dX12_taker_250 : decode cX12_taker 250 = .ok (.iload_n 1, 1) := by decide +kernel
theorem dX12_taker_251 : decode cX12_taker 251 = .ok (.iload_n 2, 1) := by decide +kernel
theorem dX12_taker_252 : decode cX12_taker 252 = .ok (.ifCond .eq 7, 3) := by decide +kernel
theorem dX12_taker_255 : decode cX12_taker 255 = .ok (.iconst 1, 1) := by decide +kernel
theorem dX12_taker_256 : decode cX12_taker 256 = .ok (.goto 11, 3) := by decide +kernel
theorem dX12_taker_259 : decode cX12_taker 259 = .ok (.aload_n 0, 1) := by decide +kernel
theorem dX12_taker_260 : decode cX12_taker 260 = .ok (.getfield 51, 3) := by decide +kernel
theorem dX12_taker_263 : decode cX12_taker 263 = .ok (.iload_n 1, 1) := by decide +kernel
theorem dX12_taker_264 : decode cX12_taker 264 = .ok (.iaload, 1) := by decide +kernel
theorem dX12_taker_265 : decode cX12_taker 265 = .ok (.iconst 1, 1) := by decide +kernel
theorem dX12_taker_266 : decode cX12_taker 266 = .ok (.iadd, 1) := by decide +kernel
theorem dX12_taker_267 : decode cX12_taker 267 = .ok (.iastore, 1) := by decide +kernel
theorem dX12_taker_268 : decode cX12_taker 268 = .ok (.return_, 1) := by decide +kernel
theorem dX12_clause_0 : decode cX12_clause 0 = .ok (.bipush 8, 2) := by decide +kernel
theorem dX12_clause_2 : decode cX12_clause 2 = .ok (.aload_n 0, 1) := by decide +kernel
theorem dX12_clause_3 : decode cX12_clause 3 = .ok (.getfield 225, 3) := by decide +kernel
theorem dX12_clause_6 : decode cX12_clause 6 = .ok (.imul, 1) := by decide +kernel
theorem dX12_clause_7 : decode cX12_clause 7 = .ok (.aload_n 0, 1) := by decide +kernel
theorem dX12_clause_8 : decode cX12_clause 8 = .ok (.getfield 284, 3) := by decide +kernel
theorem dX12_clause_11 : decode cX12_clause 11 = .ok (.iadd, 1) := by decide +kernel
theorem dX12_clause_12 : decode cX12_clause 12 = .ok (.istore_n 1, 1) := by decide +kernel
theorem dX12_clause_13 : decode cX12_clause 13 = .ok (.aload_n 0, 1) := by decide +kernel
theorem dX12_clause_14 : decode cX12_clause 14 = .ok (.iload_n 1, 1) := by decide +kernel
theorem dX12_clause_15 : decode cX12_clause 15 = .ok (.iconst 1, 1) := by decide +kernel
theorem dX12_clause_16 : decode cX12_clause 16 = .ok (.invokevirtual 287, 3) := by decide +kernel
theorem dX12_clause_19 : decode cX12_clause 19 = .ok (.aload_n 0, 1) := by decide +kernel
theorem dX12_clause_20 : decode cX12_clause 20 = .ok (.invokevirtual 221, 3) := by decide +kernel
theorem dX12_clause_23 : decode cX12_clause 23 = .ok (.ifCond .eq 31, 3) := by decide +kernel
theorem dX12_clause_26 : decode cX12_clause 26 = .ok (.aload_n 0, 1) := by decide +kernel
theorem dX12_clause_27 : decode cX12_clause 27 = .ok (.invokevirtual 213, 3) := by decide +kernel
theorem dX12_clause_30 : decode cX12_clause 30 = .ok (.bipush 44, 2) := by decide +kernel
theorem dX12_clause_32 : decode cX12_clause 32 = .ok (.if_icmp .ne 22, 3) := by decide +kernel
theorem dX12_clause_35 : decode cX12_clause 35 = .ok (.aload_n 0, 1) := by decide +kernel
theorem dX12_clause_36 : decode cX12_clause 36 = .ok (.dup, 1) := by decide +kernel
theorem dX12_clause_37 : decode cX12_clause 37 = .ok (.getfield 200, 3) := by decide +kernel
theorem dX12_clause_40 : decode cX12_clause 40 = .ok (.iconst 1, 1) := by decide +kernel
theorem dX12_clause_41 : decode cX12_clause 41 = .ok (.iadd, 1) := by decide +kernel
theorem dX12_clause_42 : decode cX12_clause 42 = .ok (.putfield 200, 3) := by decide +kernel
theorem dX12_clause_45 : decode cX12_clause 45 = .ok (.aload_n 0, 1) := by decide +kernel
theorem dX12_clause_46 : decode cX12_clause 46 = .ok (.iload_n 1, 1) := by decide +kernel
theorem dX12_clause_47 : decode cX12_clause 47 = .ok (.iconst 0, 1) := by decide +kernel
theorem dX12_clause_48 : decode cX12_clause 48 = .ok (.invokevirtual 287, 3) := by decide +kernel
theorem dX12_clause_51 : decode cX12_clause 51 = .ok (.goto (-32), 3) := by decide +kernel
theorem dX12_clause_54 : decode cX12_clause 54 = .ok (.aload_n 0, 1) := by decide +kernel
theorem dX12_clause_55 : decode cX12_clause 55 = .ok (.invokevirtual 221, 3) := by decide +kernel
theorem dX12_clause_58 : decode cX12_clause 58 = .ok (.ifCond .ne 4, 3) := by decide +kernel
theorem dX12_clause_61 : decode cX12_clause 61 = .ok (.return_, 1) := by decide +kernel
theorem dX12_clause_62 : decode cX12_clause 62 = .ok (.aload_n 0, 1) := by decide +kernel
theorem dX12_clause_63 : decode cX12_clause 63 = .ok (.getfield 54, 3) := by decide +kernel
theorem dX12_clause_66 : decode cX12_clause 66 = .ok (.iload_n 1, 1) := by decide +kernel
theorem dX12_clause_67 : decode cX12_clause 67 = .ok (.aload_n 0, 1) := by decide +kernel
theorem dX12_clause_68 : decode cX12_clause 68 = .ok (.getfield 228, 3) := by decide +kernel
theorem dX12_clause_71 : decode cX12_clause 71 = .ok (.iastore, 1) := by decide +kernel
theorem dX12_clause_72 : decode cX12_clause 72 = .ok (.aload_n 0, 1) := by decide +kernel
theorem dX12_clause_73 : decode cX12_clause 73 = .ok (.invokevirtual 213, 3) := by decide +kernel
theorem dX12_clause_76 : decode cX12_clause 76 = .ok (.bipush 40, 2) := by decide +kernel
theorem dX12_clause_78 : decode cX12_clause 78 = .ok (.if_icmp .ne 7, 3) := by decide +kernel
theorem dX12_clause_81 : decode cX12_clause 81 = .ok (.aload_n 0, 1) := by decide +kernel
theorem dX12_clause_82 : decode cX12_clause 82 = .ok (.invokevirtual 291, 3) := by decide +kernel
theorem dX12_clause_85 : decode cX12_clause 85 = .ok (.aload_n 0, 1) := by decide +kernel
theorem dX12_clause_86 : decode cX12_clause 86 = .ok (.getfield 57, 3) := by decide +kernel
theorem dX12_clause_89 : decode cX12_clause 89 = .ok (.iload_n 1, 1) := by decide +kernel
theorem dX12_clause_90 : decode cX12_clause 90 = .ok (.aload_n 0, 1) := by decide +kernel
theorem dX12_clause_91 : decode cX12_clause 91 = .ok (.getfield 228, 3) := by decide +kernel
theorem dX12_clause_94 : decode cX12_clause 94 = .ok (.iastore, 1) := by decide +kernel
theorem dX12_clause_95 : decode cX12_clause 95 = .ok (.aload_n 0, 1) := by decide +kernel
theorem dX12_clause_96 : decode cX12_clause 96 = .ok (.dup, 1) := by decide +kernel
theorem dX12_clause_97 : decode cX12_clause 97 = .ok (.getfield 284, 3) := by decide +kernel
theorem dX12_clause_100 : decode cX12_clause 100 = .ok (.iconst 1, 1) := by decide +kernel
theorem dX12_clause_101 : decode cX12_clause 101 = .ok (.iadd, 1) := by decide +kernel
theorem dX12_clause_102 : decode cX12_clause 102 = .ok (.putfield 284, 3) := by decide +kernel
theorem dX12_clause_105 : decode cX12_clause 105 = .ok (.return_, 1) := by decide +kernel
theorem dX12_settle_0 : decode cX12_settle 0 = .ok (.aload_n 0, 1) := by decide +kernel
theorem dX12_settle_1 : decode cX12_settle 1 = .ok (.getfield 225, 3) := by decide +kernel
theorem dX12_settle_4 : decode cX12_settle 4 = .ok (.bipush 10, 2) := by decide +kernel
theorem dX12_settle_6 : decode cX12_settle 6 = .ok (.if_icmp .eq 57, 3) := by decide +kernel
theorem dX12_settle_9 : decode cX12_settle 9 = .ok (.iload_n 1, 1) := by decide +kernel
theorem dX12_settle_10 : decode cX12_settle 10 = .ok (.i2l, 1) := by decide +kernel
theorem dX12_settle_11 : decode cX12_settle 11 = .ok (.lconst 1, 1) := by decide +kernel
theorem dX12_settle_12 : decode cX12_settle 12 = .ok (.ldc2_w 294, 3) := by decide +kernel
theorem dX12_settle_15 : decode cX12_settle 15 = .ok (.invokestatic 156, 3) := by decide +kernel
theorem dX12_settle_18 : decode cX12_settle 18 = .ok (.ifCond .eq 45, 3) := by decide +kernel
theorem dX12_settle_21 : decode cX12_settle 21 = .ok (.aload_n 0, 1) := by decide +kernel
theorem dX12_settle_22 : decode cX12_settle 22 = .ok (.iload_n 2, 1) := by decide +kernel
theorem dX12_settle_23 : decode cX12_settle 23 = .ok (.invokevirtual 165, 3) := by decide +kernel
theorem dX12_settle_26 : decode cX12_settle 26 = .ok (.ifCond .eq 37, 3) := by decide +kernel
theorem dX12_settle_29 : decode cX12_settle 29 = .ok (.iload_n 3, 1) := by decide +kernel
theorem dX12_settle_30 : decode cX12_settle 30 = .ok (.i2l, 1) := by decide +kernel
theorem dX12_settle_31 : decode cX12_settle 31 = .ok (.lconst 0, 1) := by decide +kernel
theorem dX12_settle_32 : decode cX12_settle 32 = .ok (.ldc2_w 169, 3) := by decide +kernel
theorem dX12_settle_35 : decode cX12_settle 35 = .ok (.invokestatic 156, 3) := by decide +kernel
theorem dX12_settle_38 : decode cX12_settle 38 = .ok (.ifCond .eq 25, 3) := by decide +kernel
theorem dX12_settle_41 : decode cX12_settle 41 = .ok (.iload 4, 2) := by decide +kernel
theorem dX12_settle_43 : decode cX12_settle 43 = .ok (.i2l, 1) := by decide +kernel
theorem dX12_settle_44 : decode cX12_settle 44 = .ok (.lconst 1, 1) := by decide +kernel
theorem dX12_settle_45 : decode cX12_settle 45 = .ok (.ldc2_w 296, 3) := by decide +kernel
theorem dX12_settle_48 : decode cX12_settle 48 = .ok (.invokestatic 156, 3) := by decide +kernel
theorem dX12_settle_51 : decode cX12_settle 51 = .ok (.ifCond .eq 12, 3) := by decide +kernel
theorem dX12_settle_54 : decode cX12_settle 54 = .ok (.iload 4, 2) := by decide +kernel
theorem dX12_settle_56 : decode cX12_settle 56 = .ok (.aload_n 0, 1) := by decide +kernel
theorem dX12_settle_57 : decode cX12_settle 57 = .ok (.getfield 193, 3) := by decide +kernel
theorem dX12_settle_60 : decode cX12_settle 60 = .ok (.if_icmp .le 5, 3) := by decide +kernel
theorem dX12_settle_63 : decode cX12_settle 63 = .ok (.iconst (-1), 1) := by decide +kernel
theorem dX12_settle_64 : decode cX12_settle 64 = .ok (.ireturn, 1) := by decide +kernel
theorem dX12_settle_65 : decode cX12_settle 65 = .ok (.aload_n 0, 1) := by decide +kernel
theorem dX12_settle_66 : decode cX12_settle 66 = .ok (.iconst 0, 1) := by decide +kernel
theorem dX12_settle_67 : decode cX12_settle 67 = .ok (.putfield 193, 3) := by decide +kernel
theorem dX12_settle_70 : decode cX12_settle 70 = .ok (.aload_n 0, 1) := by decide +kernel
theorem dX12_settle_71 : decode cX12_settle 71 = .ok (.iconst 0, 1) := by decide +kernel
theorem dX12_settle_72 : decode cX12_settle 72 = .ok (.putfield 200, 3) := by decide +kernel
theorem dX12_settle_75 : decode cX12_settle 75 = .ok (.aload_n 0, 1) := by decide +kernel
theorem dX12_settle_76 : decode cX12_settle 76 = .ok (.iload 4, 2) := by decide +kernel
theorem dX12_settle_78 : decode cX12_settle 78 = .ok (.putfield 203, 3) := by decide +kernel
theorem dX12_settle_81 : decode cX12_settle 81 = .ok (.aload_n 0, 1) := by decide +kernel
theorem dX12_settle_82 : decode cX12_settle 82 = .ok (.iconst 0, 1) := by decide +kernel
theorem dX12_settle_83 : decode cX12_settle 83 = .ok (.putfield 206, 3) := by decide +kernel
theorem dX12_settle_86 : decode cX12_settle 86 = .ok (.aload_n 0, 1) := by decide +kernel
theorem dX12_settle_87 : decode cX12_settle 87 = .ok (.iconst 0, 1) := by decide +kernel
theorem dX12_settle_88 : decode cX12_settle 88 = .ok (.putfield 284, 3) := by decide +kernel
theorem dX12_settle_91 : decode cX12_settle 91 = .ok (.aload_n 0, 1) := by decide +kernel
theorem dX12_settle_92 : decode cX12_settle 92 = .ok (.iconst 0, 1) := by decide +kernel
theorem dX12_settle_93 : decode cX12_settle 93 = .ok (.putfield 228, 3) := by decide +kernel
theorem dX12_settle_96 : decode cX12_settle 96 = .ok (.aload_n 0, 1) := by decide +kernel
theorem dX12_settle_97 : decode cX12_settle 97 = .ok (.iload_n 2, 1) := by decide +kernel
theorem dX12_settle_98 : decode cX12_settle 98 = .ok (.putfield 244, 3) := by decide +kernel
theorem dX12_settle_101 : decode cX12_settle 101 = .ok (.iconst 1, 1) := by decide +kernel
theorem dX12_settle_102 : decode cX12_settle 102 = .ok (.istore 5, 2) := by decide +kernel
theorem dX12_settle_104 : decode cX12_settle 104 = .ok (.iload 5, 2) := by decide +kernel
theorem dX12_settle_106 : decode cX12_settle 106 = .ok (.ifCond .eq 84, 3) := by decide +kernel
theorem dX12_settle_109 : decode cX12_settle 109 = .ok (.aload_n 0, 1) := by decide +kernel
theorem dX12_settle_110 : decode cX12_settle 110 = .ok (.invokevirtual 221, 3) := by decide +kernel
theorem dX12_settle_113 : decode cX12_settle 113 = .ok (.ifCond .eq 77, 3) := by decide +kernel
theorem dX12_settle_116 : decode cX12_settle 116 = .ok (.aload_n 0, 1) := by decide +kernel
theorem dX12_settle_117 : decode cX12_settle 117 = .ok (.invokevirtual 298, 3) := by decide +kernel
theorem dX12_settle_120 : decode cX12_settle 120 = .ok (.aload_n 0, 1) := by decide +kernel
theorem dX12_settle_121 : decode cX12_settle 121 = .ok (.invokevirtual 221, 3) := by decide +kernel
theorem dX12_settle_124 : decode cX12_settle 124 = .ok (.ifCond .eq 18, 3) := by decide +kernel
theorem dX12_settle_127 : decode cX12_settle 127 = .ok (.aload_n 0, 1) := by decide +kernel
theorem dX12_settle_128 : decode cX12_settle 128 = .ok (.getfield 200, 3) := by decide +kernel
theorem dX12_settle_131 : decode cX12_settle 131 = .ok (.aload_n 0, 1) := by decide +kernel
theorem dX12_settle_132 : decode cX12_settle 132 = .ok (.getfield 203, 3) := by decide +kernel
theorem dX12_settle_135 : decode cX12_settle 135 = .ok (.if_icmp .ge 7, 3) := by decide +kernel
theorem dX12_settle_138 : decode cX12_settle 138 = .ok (.iconst 1, 1) := by decide +kernel
theorem dX12_settle_139 : decode cX12_settle 139 = .ok (.goto 4, 3) := by decide +kernel
theorem dX12_settle_142 : decode cX12_settle 142 = .ok (.iconst 0, 1) := by decide +kernel
theorem dX12_settle_143 : decode cX12_settle 143 = .ok (.istore 5, 2) := by decide +kernel
theorem dX12_settle_145 : decode cX12_settle 145 = .ok (.iload 5, 2) := by decide +kernel
theorem dX12_settle_147 : decode cX12_settle 147 = .ok (.ifCond .eq 21, 3) := by decide +kernel
theorem dX12_settle_150 : decode cX12_settle 150 = .ok (.aload_n 0, 1) := by decide +kernel
theorem dX12_settle_151 : decode cX12_settle 151 = .ok (.invokevirtual 213, 3) := by decide +kernel
theorem dX12_settle_154 : decode cX12_settle 154 = .ok (.bipush 59, 2) := by decide +kernel
theorem dX12_settle_156 : decode cX12_settle 156 = .ok (.if_icmp .eq 12, 3) := by decide +kernel
theorem dX12_settle_159 : decode cX12_settle 159 = .ok (.aload_n 0, 1) := by decide +kernel
theorem dX12_settle_160 : decode cX12_settle 160 = .ok (.iconst 1, 1) := by decide +kernel
theorem dX12_settle_161 : decode cX12_settle 161 = .ok (.aload_n 0, 1) := by decide +kernel
theorem dX12_settle_162 : decode cX12_settle 162 = .ok (.getfield 200, 3) := by decide +kernel
theorem dX12_settle_165 : decode cX12_settle 165 = .ok (.invokevirtual 237, 3) := by decide +kernel
theorem dX12_settle_168 : decode cX12_settle 168 = .ok (.aload_n 0, 1) := by decide +kernel
theorem dX12_settle_169 : decode cX12_settle 169 = .ok (.dup, 1) := by decide +kernel
theorem dX12_settle_170 : decode cX12_settle 170 = .ok (.getfield 200, 3) := by decide +kernel
theorem dX12_settle_173 : decode cX12_settle 173 = .ok (.iload 5, 2) := by decide +kernel
theorem dX12_settle_175 : decode cX12_settle 175 = .ok (.ifCond .eq 7, 3) := by decide +kernel
theorem dX12_settle_178 : decode cX12_settle 178 = .ok (.iconst 1, 1) := by decide +kernel
theorem dX12_settle_179 : decode cX12_settle 179 = .ok (.goto 4, 3) := by decide +kernel
theorem dX12_settle_182 : decode cX12_settle 182 = .ok (.iconst 0, 1) := by decide +kernel
theorem dX12_settle_183 : decode cX12_settle 183 = .ok (.iadd, 1) := by decide +kernel
theorem dX12_settle_184 : decode cX12_settle 184 = .ok (.putfield 200, 3) := by decide +kernel
theorem dX12_settle_187 : decode cX12_settle 187 = .ok (.goto (-83), 3) := by decide +kernel
theorem dX12_settle_190 : decode cX12_settle 190 = .ok (.aload_n 0, 1) := by decide +kernel
theorem dX12_settle_191 : decode cX12_settle 191 = .ok (.getfield 206, 3) := by decide +kernel
theorem dX12_settle_194 : decode cX12_settle 194 = .ok (.ifCond .ge 8, 3) := by decide +kernel
theorem dX12_settle_197 : decode cX12_settle 197 = .ok (.aload_n 0, 1) := by decide +kernel
theorem dX12_settle_198 : decode cX12_settle 198 = .ok (.getfield 206, 3) := by decide +kernel
theorem dX12_settle_201 : decode cX12_settle 201 = .ok (.ireturn, 1) := by decide +kernel
theorem dX12_settle_202 : decode cX12_settle 202 = .ok (.aload_n 0, 1) := by decide +kernel
theorem dX12_settle_203 : decode cX12_settle 203 = .ok (.getfield 39, 3) := by decide +kernel
theorem dX12_settle_206 : decode cX12_settle 206 = .ok (.aload_n 0, 1) := by decide +kernel
theorem dX12_settle_207 : decode cX12_settle 207 = .ok (.getfield 225, 3) := by decide +kernel
theorem dX12_settle_210 : decode cX12_settle 210 = .ok (.iload_n 1, 1) := by decide +kernel
theorem dX12_settle_211 : decode cX12_settle 211 = .ok (.iastore, 1) := by decide +kernel
theorem dX12_settle_212 : decode cX12_settle 212 = .ok (.aload_n 0, 1) := by decide +kernel
theorem dX12_settle_213 : decode cX12_settle 213 = .ok (.getfield 42, 3) := by decide +kernel
theorem dX12_settle_216 : decode cX12_settle 216 = .ok (.aload_n 0, 1) := by decide +kernel
theorem dX12_settle_217 : decode cX12_settle 217 = .ok (.getfield 225, 3) := by decide +kernel
theorem dX12_settle_220 : decode cX12_settle 220 = .ok (.iload_n 2, 1) := by decide +kernel
theorem dX12_settle_221 : decode cX12_settle 221 = .ok (.iastore, 1) := by decide +kernel
theorem dX12_settle_222 : decode cX12_settle 222 = .ok (.aload_n 0, 1) := by decide +kernel
theorem dX12_settle_223 : decode cX12_settle 223 = .ok (.getfield 45, 3) := by decide +kernel
theorem dX12_settle_226 : decode cX12_settle 226 = .ok (.aload_n 0, 1) := by decide +kernel
theorem dX12_settle_227 : decode cX12_settle 227 = .ok (.getfield 225, 3) := by decide +kernel
theorem dX12_settle_230 : decode cX12_settle 230 = .ok (.iload_n 3, 1) := by decide +kernel
theorem dX12_settle_231 : decode cX12_settle 231 = .ok (.iastore, 1) := by decide +kernel
theorem dX12_settle_232 : decode cX12_settle 232 = .ok (.aload_n 0, 1) := by decide +kernel
theorem dX12_settle_233 : decode cX12_settle 233 = .ok (.getfield 48, 3) := by decide +kernel
theorem dX12_settle_236 : decode cX12_settle 236 = .ok (.aload_n 0, 1) := by decide +kernel
theorem dX12_settle_237 : decode cX12_settle 237 = .ok (.getfield 225, 3) := by decide +kernel
theorem dX12_settle_240 : decode cX12_settle 240 = .ok (.aload_n 0, 1) := by decide +kernel
theorem dX12_settle_241 : decode cX12_settle 241 = .ok (.getfield 284, 3) := by decide +kernel
theorem dX12_settle_244 : decode cX12_settle 244 = .ok (.iastore, 1) := by decide +kernel
theorem dX12_settle_245 : decode cX12_settle 245 = .ok (.aload_n 0, 1) := by decide +kernel
theorem dX12_settle_246 : decode cX12_settle 246 = .ok (.dup, 1) := by decide +kernel
theorem dX12_settle_247 : decode cX12_settle 247 = .ok (.getfield 225, 3) := by decide +kernel
theorem dX12_settle_250 : decode cX12_settle 250 = .ok (.iconst 1, 1) := by decide +kernel
theorem dX12_settle_251 : decode cX12_settle 251 = .ok (.iadd, 1) := by decide +kernel
theorem dX12_settle_252 : decode cX12_settle 252 = .ok (.putfield 225, 3) := by decide +kernel
theorem dX12_settle_255 : decode cX12_settle 255 = .ok (.aload_n 0, 1) := by decide +kernel
theorem dX12_settle_256 : decode cX12_settle 256 = .ok (.getfield 225, 3) := by decide +kernel
theorem dX12_settle_259 : decode cX12_settle 259 = .ok (.iconst 1, 1) := by decide +kernel
theorem dX12_settle_260 : decode cX12_settle 260 = .ok (.isub, 1) := by decide +kernel
theorem dX12_settle_261 : decode cX12_settle 261 = .ok (.ireturn, 1) := by decide +kernel
theorem dX12_isSettlement_0 : decode cX12_isSettlement 0 = .ok (.iload_n 1, 1) := by decide +kernel
theorem dX12_isSettlement_1 : decode cX12_isSettlement 1 = .ok (.i2l, 1) := by decide +kernel
theorem dX12_isSettlement_2 : decode cX12_isSettlement 2 = .ok (.lconst 0, 1) := by decide +kernel
theorem dX12_isSettlement_3 : decode cX12_isSettlement 3 = .ok (.aload_n 0, 1) := by decide +kernel
theorem dX12_isSettlement_4 : decode cX12_isSettlement 4 = .ok (.getfield 225, 3) := by decide +kernel
theorem dX12_isSettlement_7 : decode cX12_isSettlement 7 = .ok (.iconst 1, 1) := by decide +kernel
theorem dX12_isSettlement_8 : decode cX12_isSettlement 8 = .ok (.isub, 1) := by decide +kernel
theorem dX12_isSettlement_9 : decode cX12_isSettlement 9 = .ok (.i2l, 1) := by decide +kernel
theorem dX12_isSettlement_10 : decode cX12_isSettlement 10 = .ok (.invokestatic 156, 3) := by decide +kernel
theorem dX12_isSettlement_13 : decode cX12_isSettlement 13 = .ok (.ireturn, 1) := by decide +kernel
theorem dX12_childrenOf_0 : decode cX12_childrenOf 0 = .ok (.iconst 0, 1) := by decide +kernel
theorem dX12_childrenOf_1 : decode cX12_childrenOf 1 = .ok (.istore_n 3, 1) := by decide +kernel
theorem dX12_childrenOf_2 : decode cX12_childrenOf 2 = .ok (.iconst 0, 1) := by decide +kernel
theorem dX12_childrenOf_3 : decode cX12_childrenOf 3 = .ok (.istore 4, 2) := by decide +kernel
theorem dX12_childrenOf_5 : decode cX12_childrenOf 5 = .ok (.iload 4, 2) := by decide +kernel
theorem dX12_childrenOf_7 : decode cX12_childrenOf 7 = .ok (.aload_n 0, 1) := by decide +kernel
theorem dX12_childrenOf_8 : decode cX12_childrenOf 8 = .ok (.getfield 160, 3) := by decide +kernel
theorem dX12_childrenOf_11 : decode cX12_childrenOf 11 = .ok (.if_icmp .ge 41, 3) := by decide +kernel
theorem dX12_childrenOf_14 : decode cX12_childrenOf 14 = .ok (.iload_n 3, 1) := by decide +kernel
theorem dX12_childrenOf_15 : decode cX12_childrenOf 15 = .ok (.aload_n 0, 1) := by decide +kernel
theorem dX12_childrenOf_16 : decode cX12_childrenOf 16 = .ok (.getfield 24, 3) := by decide +kernel
theorem dX12_childrenOf_19 : decode cX12_childrenOf 19 = .ok (.iload 4, 2) := by decide +kernel
theorem dX12_childrenOf_21 : decode cX12_childrenOf 21 = .ok (.iaload, 1) := by decide +kernel
theorem dX12_childrenOf_22 : decode cX12_childrenOf 22 = .ok (.iload_n 1, 1) := by decide +kernel
theorem dX12_childrenOf_23 : decode cX12_childrenOf 23 = .ok (.if_icmp .ne 20, 3) := by decide +kernel
theorem dX12_childrenOf_26 : decode cX12_childrenOf 26 = .ok (.aload_n 0, 1) := by decide +kernel
theorem dX12_childrenOf_27 : decode cX12_childrenOf 27 = .ok (.iload 4, 2) := by decide +kernel
theorem dX12_childrenOf_29 : decode cX12_childrenOf 29 = .ok (.iload_n 2, 1) := by decide +kernel
theorem dX12_childrenOf_30 : decode cX12_childrenOf 30 = .ok (.invokevirtual 301, 3) := by decide +kernel
theorem dX12_childrenOf_33 : decode cX12_childrenOf 33 = .ok (.ifCond .eq 10, 3) := by decide +kernel
theorem dX12_childrenOf_36 : decode cX12_childrenOf 36 = .ok (.iconst 1, 1) := by decide +kernel
theorem dX12_childrenOf_37 : decode cX12_childrenOf 37 = .ok (.iload 4, 2) := by decide +kernel
theorem dX12_childrenOf_39 : decode cX12_childrenOf 39 = .ok (.ishl, 1) := by decide +kernel
theorem dX12_childrenOf_40 : decode cX12_childrenOf 40 = .ok (.goto 4, 3) := by decide +kernel
theorem dX12_childrenOf_43 : decode cX12_childrenOf 43 = .ok (.iconst 0, 1) := by decide +kernel
theorem dX12_childrenOf_44 : decode cX12_childrenOf 44 = .ok (.ior, 1) := by decide +kernel
theorem dX12_childrenOf_45 : decode cX12_childrenOf 45 = .ok (.istore_n 3, 1) := by decide +kernel
theorem dX12_childrenOf_46 : decode cX12_childrenOf 46 = .ok (.iinc 4 1, 3) := by decide +kernel
theorem dX12_childrenOf_49 : decode cX12_childrenOf 49 = .ok (.goto (-44), 3) := by decide +kernel
theorem dX12_childrenOf_52 : decode cX12_childrenOf 52 = .ok (.iload_n 3, 1) := by decide +kernel
theorem dX12_childrenOf_53 : decode cX12_childrenOf 53 = .ok (.ireturn, 1) := by decide +kernel
theorem dX12_namedSet_0 : decode cX12_namedSet 0 = .ok (.iconst 0, 1) := by decide +kernel
theorem dX12_namedSet_1 : decode cX12_namedSet 1 = .ok (.istore_n 3, 1) := by decide +kernel
theorem dX12_namedSet_2 : decode cX12_namedSet 2 = .ok (.bipush 8, 2) := by decide +kernel
theorem dX12_namedSet_4 : decode cX12_namedSet 4 = .ok (.iload_n 1, 1) := by decide +kernel
theorem dX12_namedSet_5 : decode cX12_namedSet 5 = .ok (.imul, 1) := by decide +kernel
theorem dX12_namedSet_6 : decode cX12_namedSet 6 = .ok (.istore 4, 2) := by decide +kernel
theorem dX12_namedSet_8 : decode cX12_namedSet 8 = .ok (.iload 4, 2) := by decide +kernel
theorem dX12_namedSet_10 : decode cX12_namedSet 10 = .ok (.bipush 8, 2) := by decide +kernel
theorem dX12_namedSet_12 : decode cX12_namedSet 12 = .ok (.iload_n 1, 1) := by decide +kernel
theorem dX12_namedSet_13 : decode cX12_namedSet 13 = .ok (.imul, 1) := by decide +kernel
theorem dX12_namedSet_14 : decode cX12_namedSet 14 = .ok (.aload_n 0, 1) := by decide +kernel
theorem dX12_namedSet_15 : decode cX12_namedSet 15 = .ok (.getfield 48, 3) := by decide +kernel
theorem dX12_namedSet_18 : decode cX12_namedSet 18 = .ok (.iload_n 1, 1) := by decide +kernel
theorem dX12_namedSet_19 : decode cX12_namedSet 19 = .ok (.iaload, 1) := by decide +kernel
theorem dX12_namedSet_20 : decode cX12_namedSet 20 = .ok (.iadd, 1) := by decide +kernel
theorem dX12_namedSet_21 : decode cX12_namedSet 21 = .ok (.if_icmp .ge 195, 3) := by decide +kernel
theorem dX12_namedSet_24 : decode cX12_namedSet 24 = .ok (.iconst 4, 1) := by decide +kernel
theorem dX12_namedSet_25 : decode cX12_namedSet 25 = .ok (.iload 4, 2) := by decide +kernel
theorem dX12_namedSet_27 : decode cX12_namedSet 27 = .ok (.imul, 1) := by decide +kernel
theorem dX12_namedSet_28 : decode cX12_namedSet 28 = .ok (.istore 5, 2) := by decide +kernel
theorem dX12_namedSet_30 : decode cX12_namedSet 30 = .ok (.iload 5, 2) := by decide +kernel
theorem dX12_namedSet_32 : decode cX12_namedSet 32 = .ok (.iconst 4, 1) := by decide +kernel
theorem dX12_namedSet_33 : decode cX12_namedSet 33 = .ok (.iload 4, 2) := by decide +kernel
theorem dX12_namedSet_35 : decode cX12_namedSet 35 = .ok (.imul, 1) := by decide +kernel
theorem dX12_namedSet_36 : decode cX12_namedSet 36 = .ok (.aload_n 0, 1) := by decide +kernel
theorem dX12_namedSet_37 : decode cX12_namedSet 37 = .ok (.getfield 51, 3) := by decide +kernel
theorem dX12_namedSet_40 : decode cX12_namedSet 40 = .ok (.iload 4, 2) := by decide +kernel
theorem dX12_namedSet_42 : decode cX12_namedSet 42 = .ok (.iaload, 1) := by decide +kernel
theorem dX12_namedSet_43 : decode cX12_namedSet 43 = .ok (.iadd, 1) := by decide +kernel
theorem dX12_namedSet_44 : decode cX12_namedSet 44 = .ok (.if_icmp .ge 65, 3) := by decide +kernel
theorem dX12_namedSet_47 : decode cX12_namedSet 47 = .ok (.iload_n 3, 1) := by decide +kernel
theorem dX12_namedSet_48 : decode cX12_namedSet 48 = .ok (.aload_n 0, 1) := by decide +kernel
theorem dX12_namedSet_49 : decode cX12_namedSet 49 = .ok (.getfield 60, 3) := by decide +kernel
theorem dX12_namedSet_52 : decode cX12_namedSet 52 = .ok (.iload 5, 2) := by decide +kernel
theorem dX12_namedSet_54 : decode cX12_namedSet 54 = .ok (.baload, 1) := by decide +kernel
theorem dX12_namedSet_55 : decode cX12_namedSet 55 = .ok (.ifCond .eq 18, 3) := by decide +kernel
theorem dX12_namedSet_58 : decode cX12_namedSet 58 = .ok (.aload_n 0, 1) := by decide +kernel
theorem dX12_namedSet_59 : decode cX12_namedSet 59 = .ok (.aload_n 0, 1) := by decide +kernel
theorem dX12_namedSet_60 : decode cX12_namedSet 60 = .ok (.getfield 64, 3) := by decide +kernel
theorem dX12_namedSet_63 : decode cX12_namedSet 63 = .ok (.iload 5, 2) := by decide +kernel
theorem dX12_namedSet_65 : decode cX12_namedSet 65 = .ok (.iaload, 1) := by decide +kernel
theorem dX12_namedSet_66 : decode cX12_namedSet 66 = .ok (.iload_n 2, 1) := by decide +kernel
theorem dX12_namedSet_67 : decode cX12_namedSet 67 = .ok (.invokevirtual 305, 3) := by decide +kernel
theorem dX12_namedSet_70 : decode cX12_namedSet 70 = .ok (.goto 31, 3) := by decide +kernel
theorem dX12_namedSet_73 : decode cX12_namedSet 73 = .ok (.aload_n 0, 1) := by decide +kernel
theorem dX12_namedSet_74 : decode cX12_namedSet 74 = .ok (.aload_n 0, 1) := by decide +kernel
theorem dX12_namedSet_75 : decode cX12_namedSet 75 = .ok (.getfield 64, 3) := by decide +kernel
theorem dX12_namedSet_78 : decode cX12_namedSet 78 = .ok (.iload 5, 2) := by decide +kernel
theorem dX12_namedSet_80 : decode cX12_namedSet 80 = .ok (.iaload, 1) := by decide +kernel
theorem dX12_namedSet_81 : decode cX12_namedSet 81 = .ok (.iload_n 2, 1) := by decide +kernel
theorem dX12_namedSet_82 : decode cX12_namedSet 82 = .ok (.invokevirtual 301, 3) := by decide +kernel
theorem dX12_namedSet_85 : decode cX12_namedSet 85 = .ok (.ifCond .eq 15, 3) := by decide +kernel
theorem dX12_namedSet_88 : decode cX12_namedSet 88 = .ok (.iconst 1, 1) := by decide +kernel
theorem dX12_namedSet_89 : decode cX12_namedSet 89 = .ok (.aload_n 0, 1) := by decide +kernel
theorem dX12_namedSet_90 : decode cX12_namedSet 90 = .ok (.getfield 64, 3) := by decide +kernel
theorem dX12_namedSet_93 : decode cX12_namedSet 93 = .ok (.iload 5, 2) := by decide +kernel
theorem dX12_namedSet_95 : decode cX12_namedSet 95 = .ok (.iaload, 1) := by decide +kernel
theorem dX12_namedSet_96 : decode cX12_namedSet 96 = .ok (.ishl, 1) := by decide +kernel
theorem dX12_namedSet_97 : decode cX12_namedSet 97 = .ok (.goto 4, 3) := by decide +kernel
theorem dX12_namedSet_100 : decode cX12_namedSet 100 = .ok (.iconst 0, 1) := by decide +kernel
theorem dX12_namedSet_101 : decode cX12_namedSet 101 = .ok (.ior, 1) := by decide +kernel
theorem dX12_namedSet_102 : decode cX12_namedSet 102 = .ok (.istore_n 3, 1) := by decide +kernel
theorem dX12_namedSet_103 : decode cX12_namedSet 103 = .ok (.iinc 5 1, 3) := by decide +kernel
theorem dX12_namedSet_106 : decode cX12_namedSet 106 = .ok (.goto (-76), 3) := by decide +kernel
theorem dX12_namedSet_109 : decode cX12_namedSet 109 = .ok (.bipush 100, 2) := by decide +kernel
theorem dX12_namedSet_111 : decode cX12_namedSet 111 = .ok (.iload_n 1, 1) := by decide +kernel
theorem dX12_namedSet_112 : decode cX12_namedSet 112 = .ok (.imul, 1) := by decide +kernel
theorem dX12_namedSet_113 : decode cX12_namedSet 113 = .ok (.aload_n 0, 1) := by decide +kernel
theorem dX12_namedSet_114 : decode cX12_namedSet 114 = .ok (.getfield 54, 3) := by decide +kernel
theorem dX12_namedSet_117 : decode cX12_namedSet 117 = .ok (.iload 4, 2) := by decide +kernel
theorem dX12_namedSet_119 : decode cX12_namedSet 119 = .ok (.iaload, 1) := by decide +kernel
theorem dX12_namedSet_120 : decode cX12_namedSet 120 = .ok (.iadd, 1) := by decide +kernel
theorem dX12_namedSet_121 : decode cX12_namedSet 121 = .ok (.istore 5, 2) := by decide +kernel
theorem dX12_namedSet_123 : decode cX12_namedSet 123 = .ok (.iload 5, 2) := by decide +kernel
theorem dX12_namedSet_125 : decode cX12_namedSet 125 = .ok (.bipush 100, 2) := by decide +kernel
theorem dX12_namedSet_127 : decode cX12_namedSet 127 = .ok (.iload_n 1, 1) := by decide +kernel
theorem dX12_namedSet_128 : decode cX12_namedSet 128 = .ok (.imul, 1) := by decide +kernel
theorem dX12_namedSet_129 : decode cX12_namedSet 129 = .ok (.aload_n 0, 1) := by decide +kernel
theorem dX12_namedSet_130 : decode cX12_namedSet 130 = .ok (.getfield 57, 3) := by decide +kernel
theorem dX12_namedSet_133 : decode cX12_namedSet 133 = .ok (.iload 4, 2) := by decide +kernel
theorem dX12_namedSet_135 : decode cX12_namedSet 135 = .ok (.iaload, 1) := by decide +kernel
theorem dX12_namedSet_136 : decode cX12_namedSet 136 = .ok (.iadd, 1) := by decide +kernel
theorem dX12_namedSet_137 : decode cX12_namedSet 137 = .ok (.if_icmp .ge 73, 3) := by decide +kernel
theorem dX12_namedSet_140 : decode cX12_namedSet 140 = .ok (.aload_n 0, 1) := by decide +kernel
theorem dX12_namedSet_141 : decode cX12_namedSet 141 = .ok (.getfield 70, 3) := by decide +kernel
theorem dX12_namedSet_144 : decode cX12_namedSet 144 = .ok (.iload 5, 2) := by decide +kernel
theorem dX12_namedSet_146 : decode cX12_namedSet 146 = .ok (.iaload, 1) := by decide +kernel
theorem dX12_namedSet_147 : decode cX12_namedSet 147 = .ok (.iconst 1, 1) := by decide +kernel
theorem dX12_namedSet_148 : decode cX12_namedSet 148 = .ok (.if_icmp .ne 30, 3) := by decide +kernel
theorem dX12_namedSet_151 : decode cX12_namedSet 151 = .ok (.aload_n 0, 1) := by decide +kernel
theorem dX12_namedSet_152 : decode cX12_namedSet 152 = .ok (.aload_n 0, 1) := by decide +kernel
theorem dX12_namedSet_153 : decode cX12_namedSet 153 = .ok (.getfield 73, 3) := by decide +kernel
theorem dX12_namedSet_156 : decode cX12_namedSet 156 = .ok (.iload 5, 2) := by decide +kernel
theorem dX12_namedSet_158 : decode cX12_namedSet 158 = .ok (.iaload, 1) := by decide +kernel
theorem dX12_namedSet_159 : decode cX12_namedSet 159 = .ok (.iload_n 2, 1) := by decide +kernel
theorem dX12_namedSet_160 : decode cX12_namedSet 160 = .ok (.invokevirtual 301, 3) := by decide +kernel
theorem dX12_namedSet_163 : decode cX12_namedSet 163 = .ok (.ifCond .eq 15, 3) := by decide +kernel
theorem dX12_namedSet_166 : decode cX12_namedSet 166 = .ok (.iload_n 3, 1) := by decide +kernel
theorem dX12_namedSet_167 : decode cX12_namedSet 167 = .ok (.iconst 1, 1) := by decide +kernel
theorem dX12_namedSet_168 : decode cX12_namedSet 168 = .ok (.aload_n 0, 1) := by decide +kernel
theorem dX12_namedSet_169 : decode cX12_namedSet 169 = .ok (.getfield 73, 3) := by decide +kernel
theorem dX12_namedSet_172 : decode cX12_namedSet 172 = .ok (.iload 5, 2) := by decide +kernel
theorem dX12_namedSet_174 : decode cX12_namedSet 174 = .ok (.iaload, 1) := by decide +kernel
theorem dX12_namedSet_175 : decode cX12_namedSet 175 = .ok (.ishl, 1) := by decide +kernel
theorem dX12_namedSet_176 : decode cX12_namedSet 176 = .ok (.ior, 1) := by decide +kernel
theorem dX12_namedSet_177 : decode cX12_namedSet 177 = .ok (.istore_n 3, 1) := by decide +kernel
theorem dX12_namedSet_178 : decode cX12_namedSet 178 = .ok (.aload_n 0, 1) := by decide +kernel
theorem dX12_namedSet_179 : decode cX12_namedSet 179 = .ok (.getfield 70, 3) := by decide +kernel
theorem dX12_namedSet_182 : decode cX12_namedSet 182 = .ok (.iload 5, 2) := by decide +kernel
theorem dX12_namedSet_184 : decode cX12_namedSet 184 = .ok (.iaload, 1) := by decide +kernel
theorem dX12_namedSet_185 : decode cX12_namedSet 185 = .ok (.iconst 2, 1) := by decide +kernel
theorem dX12_namedSet_186 : decode cX12_namedSet 186 = .ok (.if_icmp .ne 18, 3) := by decide +kernel
theorem dX12_namedSet_189 : decode cX12_namedSet 189 = .ok (.iload_n 3, 1) := by decide +kernel
theorem dX12_namedSet_190 : decode cX12_namedSet 190 = .ok (.aload_n 0, 1) := by decide +kernel
theorem dX12_namedSet_191 : decode cX12_namedSet 191 = .ok (.aload_n 0, 1) := by decide +kernel
theorem dX12_namedSet_192 : decode cX12_namedSet 192 = .ok (.getfield 73, 3) := by decide +kernel
theorem dX12_namedSet_195 : decode cX12_namedSet 195 = .ok (.iload 5, 2) := by decide +kernel
theorem dX12_namedSet_197 : decode cX12_namedSet 197 = .ok (.iaload, 1) := by decide +kernel
theorem dX12_namedSet_198 : decode cX12_namedSet 198 = .ok (.iload_n 2, 1) := by decide +kernel
theorem dX12_namedSet_199 : decode cX12_namedSet 199 = .ok (.invokevirtual 305, 3) := by decide +kernel
theorem dX12_namedSet_202 : decode cX12_namedSet 202 = .ok (.ior, 1) := by decide +kernel
theorem dX12_namedSet_203 : decode cX12_namedSet 203 = .ok (.istore_n 3, 1) := by decide +kernel
theorem dX12_namedSet_204 : decode cX12_namedSet 204 = .ok (.iinc 5 1, 3) := by decide +kernel
theorem dX12_namedSet_207 : decode cX12_namedSet 207 = .ok (.goto (-84), 3) := by decide +kernel
theorem dX12_namedSet_210 : decode cX12_namedSet 210 = .ok (.iinc 4 1, 3) := by decide +kernel
theorem dX12_namedSet_213 : decode cX12_namedSet 213 = .ok (.goto (-205), 3) := by decide +kernel
theorem dX12_namedSet_216 : decode cX12_namedSet 216 = .ok (.iload_n 3, 1) := by decide +kernel
theorem dX12_namedSet_217 : decode cX12_namedSet 217 = .ok (.iconst 1, 1) := by decide +kernel
theorem dX12_namedSet_218 : decode cX12_namedSet 218 = .ok (.aload_n 0, 1) := by decide +kernel
theorem dX12_namedSet_219 : decode cX12_namedSet 219 = .ok (.getfield 42, 3) := by decide +kernel
theorem dX12_namedSet_222 : decode cX12_namedSet 222 = .ok (.iload_n 1, 1) := by decide +kernel
theorem dX12_namedSet_223 : decode cX12_namedSet 223 = .ok (.iaload, 1) := by decide +kernel
theorem dX12_namedSet_224 : decode cX12_namedSet 224 = .ok (.ishl, 1) := by decide +kernel
theorem dX12_namedSet_225 : decode cX12_namedSet 225 = .ok (.iconst (-1), 1) := by decide +kernel
theorem dX12_namedSet_226 : decode cX12_namedSet 226 = .ok (.ixor, 1) := by decide +kernel
theorem dX12_namedSet_227 : decode cX12_namedSet 227 = .ok (.iand, 1) := by decide +kernel
theorem dX12_namedSet_228 : decode cX12_namedSet 228 = .ok (.ireturn, 1) := by decide +kernel
theorem dX12_sizeOf_0 : decode cX12_sizeOf 0 = .ok (.iconst 0, 1) := by decide +kernel
theorem dX12_sizeOf_1 : decode cX12_sizeOf 1 = .ok (.istore_n 1, 1) := by decide +kernel
theorem dX12_sizeOf_2 : decode cX12_sizeOf 2 = .ok (.iload_n 0, 1) := by decide +kernel
theorem dX12_sizeOf_3 : decode cX12_sizeOf 3 = .ok (.istore_n 2, 1) := by decide +kernel
theorem dX12_sizeOf_4 : decode cX12_sizeOf 4 = .ok (.iload_n 2, 1) := by decide +kernel
theorem dX12_sizeOf_5 : decode cX12_sizeOf 5 = .ok (.ifCond .eq 15, 3) := by decide +kernel
theorem dX12_sizeOf_8 : decode cX12_sizeOf 8 = .ok (.iinc 1 1, 3) := by decide +kernel
theorem dX12_sizeOf_11 : decode cX12_sizeOf 11 = .ok (.iload_n 2, 1) := by decide +kernel
theorem dX12_sizeOf_12 : decode cX12_sizeOf 12 = .ok (.iload_n 2, 1) := by decide +kernel
theorem dX12_sizeOf_13 : decode cX12_sizeOf 13 = .ok (.iconst 1, 1) := by decide +kernel
theorem dX12_sizeOf_14 : decode cX12_sizeOf 14 = .ok (.isub, 1) := by decide +kernel
theorem dX12_sizeOf_15 : decode cX12_sizeOf 15 = .ok (.iand, 1) := by decide +kernel
theorem dX12_sizeOf_16 : decode cX12_sizeOf 16 = .ok (.istore_n 2, 1) := by decide +kernel
theorem dX12_sizeOf_17 : decode cX12_sizeOf 17 = .ok (.goto (-13), 3) := by decide +kernel
theorem dX12_sizeOf_20 : decode cX12_sizeOf 20 = .ok (.iload_n 1, 1) := by decide +kernel
theorem dX12_sizeOf_21 : decode cX12_sizeOf 21 = .ok (.ireturn, 1) := by decide +kernel
theorem dX12_named_0 : decode cX12_named 0 = .ok (.aload_n 0, 1) := by decide +kernel
theorem dX12_named_1 : decode cX12_named 1 = .ok (.iload_n 1, 1) := by decide +kernel
theorem dX12_named_2 : decode cX12_named 2 = .ok (.invokevirtual 308, 3) := by decide +kernel
theorem dX12_named_5 : decode cX12_named 5 = .ok (.ifCond .eq 22, 3) := by decide +kernel
theorem dX12_named_8 : decode cX12_named 8 = .ok (.iload_n 2, 1) := by decide +kernel
theorem dX12_named_9 : decode cX12_named 9 = .ok (.invokestatic 311, 3) := by decide +kernel
theorem dX12_named_12 : decode cX12_named 12 = .ok (.ifCond .eq 15, 3) := by decide +kernel
theorem dX12_named_15 : decode cX12_named 15 = .ok (.aload_n 0, 1) := by decide +kernel
theorem dX12_named_16 : decode cX12_named 16 = .ok (.iload_n 1, 1) := by decide +kernel
theorem dX12_named_17 : decode cX12_named 17 = .ok (.iload_n 2, 1) := by decide +kernel
theorem dX12_named_18 : decode cX12_named 18 = .ok (.invokevirtual 314, 3) := by decide +kernel
theorem dX12_named_21 : decode cX12_named 21 = .ok (.invokestatic 317, 3) := by decide +kernel
theorem dX12_named_24 : decode cX12_named 24 = .ok (.goto 4, 3) := by decide +kernel
theorem dX12_named_27 : decode cX12_named 27 = .ok (.iconst (-1), 1) := by decide +kernel
theorem dX12_named_28 : decode cX12_named 28 = .ok (.ireturn, 1) := by decide +kernel
theorem dX12_meets_0 : decode cX12_meets 0 = .ok (.iconst 0, 1) := by decide +kernel
theorem dX12_meets_1 : decode cX12_meets 1 = .ok (.istore 4, 2) := by decide +kernel
theorem dX12_meets_3 : decode cX12_meets 3 = .ok (.aload_n 0, 1) := by decide +kernel
theorem dX12_meets_4 : decode cX12_meets 4 = .ok (.getfield 54, 3) := by decide +kernel
theorem dX12_meets_7 : decode cX12_meets 7 = .ok (.iload_n 2, 1) := by decide +kernel
theorem dX12_meets_8 : decode cX12_meets 8 = .ok (.iaload, 1) := by decide +kernel
theorem dX12_meets_9 : decode cX12_meets 9 = .ok (.aload_n 0, 1) := by decide +kernel
theorem dX12_meets_10 : decode cX12_meets 10 = .ok (.getfield 57, 3) := by decide +kernel
theorem dX12_meets_13 : decode cX12_meets 13 = .ok (.iload_n 2, 1) := by decide +kernel
theorem dX12_meets_14 : decode cX12_meets 14 = .ok (.iaload, 1) := by decide +kernel
theorem dX12_meets_15 : decode cX12_meets 15 = .ok (.if_icmp .ne 5, 3) := by decide +kernel
theorem dX12_meets_18 : decode cX12_meets 18 = .ok (.iconst 1, 1) := by decide +kernel
theorem dX12_meets_19 : decode cX12_meets 19 = .ok (.ireturn, 1) := by decide +kernel
theorem dX12_meets_20 : decode cX12_meets 20 = .ok (.bipush 100, 2) := by decide +kernel
theorem dX12_meets_22 : decode cX12_meets 22 = .ok (.iload_n 1, 1) := by decide +kernel
theorem dX12_meets_23 : decode cX12_meets 23 = .ok (.imul, 1) := by decide +kernel
theorem dX12_meets_24 : decode cX12_meets 24 = .ok (.aload_n 0, 1) := by decide +kernel
theorem dX12_meets_25 : decode cX12_meets 25 = .ok (.getfield 54, 3) := by decide +kernel
theorem dX12_meets_28 : decode cX12_meets 28 = .ok (.iload_n 2, 1) := by decide +kernel
theorem dX12_meets_29 : decode cX12_meets 29 = .ok (.iaload, 1) := by decide +kernel
theorem dX12_meets_30 : decode cX12_meets 30 = .ok (.iadd, 1) := by decide +kernel
theorem dX12_meets_31 : decode cX12_meets 31 = .ok (.istore 5, 2) := by decide +kernel
theorem dX12_meets_33 : decode cX12_meets 33 = .ok (.iload 5, 2) := by decide +kernel
theorem dX12_meets_35 : decode cX12_meets 35 = .ok (.bipush 100, 2) := by decide +kernel
theorem dX12_meets_37 : decode cX12_meets 37 = .ok (.iload_n 1, 1) := by decide +kernel
theorem dX12_meets_38 : decode cX12_meets 38 = .ok (.imul, 1) := by decide +kernel
theorem dX12_meets_39 : decode cX12_meets 39 = .ok (.aload_n 0, 1) := by decide +kernel
theorem dX12_meets_40 : decode cX12_meets 40 = .ok (.getfield 57, 3) := by decide +kernel
theorem dX12_meets_43 : decode cX12_meets 43 = .ok (.iload_n 2, 1) := by decide +kernel
theorem dX12_meets_44 : decode cX12_meets 44 = .ok (.iaload, 1) := by decide +kernel
theorem dX12_meets_45 : decode cX12_meets 45 = .ok (.iadd, 1) := by decide +kernel
theorem dX12_meets_46 : decode cX12_meets 46 = .ok (.if_icmp .ge 285, 3) := by decide +kernel
theorem dX12_meets_49 : decode cX12_meets 49 = .ok (.aload_n 0, 1) := by decide +kernel
theorem dX12_meets_50 : decode cX12_meets 50 = .ok (.getfield 70, 3) := by decide +kernel
theorem dX12_meets_53 : decode cX12_meets 53 = .ok (.iload 5, 2) := by decide +kernel
theorem dX12_meets_55 : decode cX12_meets 55 = .ok (.iaload, 1) := by decide +kernel
theorem dX12_meets_56 : decode cX12_meets 56 = .ok (.istore 6, 2) := by decide +kernel
theorem dX12_meets_58 : decode cX12_meets 58 = .ok (.iload 6, 2) := by decide +kernel
theorem dX12_meets_60 : decode cX12_meets 60 = .ok (.bipush 38, 2) := by decide +kernel
theorem dX12_meets_62 : decode cX12_meets 62 = .ok (.if_icmp .eq 10, 3) := by decide +kernel
theorem dX12_meets_65 : decode cX12_meets 65 = .ok (.iload 6, 2) := by decide +kernel
theorem dX12_meets_67 : decode cX12_meets 67 = .ok (.bipush 124, 2) := by decide +kernel
theorem dX12_meets_69 : decode cX12_meets 69 = .ok (.if_icmp .ne 82, 3) := by decide +kernel
theorem dX12_meets_72 : decode cX12_meets 72 = .ok (.iinc 4 (-1), 3) := by decide +kernel
theorem dX12_meets_75 : decode cX12_meets 75 = .ok (.aload_n 0, 1) := by decide +kernel
theorem dX12_meets_76 : decode cX12_meets 76 = .ok (.getfield 79, 3) := by decide +kernel
theorem dX12_meets_79 : decode cX12_meets 79 = .ok (.iload 4, 2) := by decide +kernel
theorem dX12_meets_81 : decode cX12_meets 81 = .ok (.iconst 1, 1) := by decide +kernel
theorem dX12_meets_82 : decode cX12_meets 82 = .ok (.isub, 1) := by decide +kernel
theorem dX12_meets_83 : decode cX12_meets 83 = .ok (.iload 6, 2) := by decide +kernel
theorem dX12_meets_85 : decode cX12_meets 85 = .ok (.bipush 38, 2) := by decide +kernel
theorem dX12_meets_87 : decode cX12_meets 87 = .ok (.if_icmp .ne 33, 3) := by decide +kernel
theorem dX12_meets_90 : decode cX12_meets 90 = .ok (.aload_n 0, 1) := by decide +kernel
theorem dX12_meets_91 : decode cX12_meets 91 = .ok (.getfield 79, 3) := by decide +kernel
theorem dX12_meets_94 : decode cX12_meets 94 = .ok (.iload 4, 2) := by decide +kernel
theorem dX12_meets_96 : decode cX12_meets 96 = .ok (.iconst 1, 1) := by decide +kernel
theorem dX12_meets_97 : decode cX12_meets 97 = .ok (.isub, 1) := by decide +kernel
theorem dX12_meets_98 : decode cX12_meets 98 = .ok (.baload, 1) := by decide +kernel
theorem dX12_meets_99 : decode cX12_meets 99 = .ok (.ifCond .eq 17, 3) := by decide +kernel
theorem dX12_meets_102 : decode cX12_meets 102 = .ok (.aload_n 0, 1) := by decide +kernel
theorem dX12_meets_103 : decode cX12_meets 103 = .ok (.getfield 79, 3) := by decide +kernel
theorem dX12_meets_106 : decode cX12_meets 106 = .ok (.iload 4, 2) := by decide +kernel
theorem dX12_meets_108 : decode cX12_meets 108 = .ok (.baload, 1) := by decide +kernel
theorem dX12_meets_109 : decode cX12_meets 109 = .ok (.ifCond .eq 7, 3) := by decide +kernel
theorem dX12_meets_112 : decode cX12_meets 112 = .ok (.iconst 1, 1) := by decide +kernel
theorem dX12_meets_113 : decode cX12_meets 113 = .ok (.goto 34, 3) := by decide +kernel
theorem dX12_meets_116 : decode cX12_meets 116 = .ok (.iconst 0, 1) := by decide +kernel
theorem dX12_meets_117 : decode cX12_meets 117 = .ok (.goto 30, 3) := by decide +kernel
theorem dX12_meets_120 : decode cX12_meets 120 = .ok (.aload_n 0, 1) := by decide +kernel
theorem dX12_meets_121 : decode cX12_meets 121 = .ok (.getfield 79, 3) := by decide +kernel
theorem dX12_meets_124 : decode cX12_meets 124 = .ok (.iload 4, 2) := by decide +kernel
theorem dX12_meets_126 : decode cX12_meets 126 = .ok (.iconst 1, 1) := by decide +kernel
theorem dX12_meets_127 : decode cX12_meets 127 = .ok (.isub, 1) := by decide +kernel
theorem dX12_meets_128 : decode cX12_meets 128 = .ok (.baload, 1) := by decide +kernel
theorem dX12_meets_129 : decode cX12_meets 129 = .ok (.ifCond .ne 13, 3) := by decide +kernel
theorem dX12_meets_132 : decode cX12_meets 132 = .ok (.aload_n 0, 1) := by decide +kernel
theorem dX12_meets_133 : decode cX12_meets 133 = .ok (.getfield 79, 3) := by decide +kernel
theorem dX12_meets_136 : decode cX12_meets 136 = .ok (.iload 4, 2) := by decide +kernel
theorem dX12_meets_138 : decode cX12_meets 138 = .ok (.baload, 1) := by decide +kernel
theorem dX12_meets_139 : decode cX12_meets 139 = .ok (.ifCond .eq 7, 3) := by decide +kernel
theorem dX12_meets_142 : decode cX12_meets 142 = .ok (.iconst 1, 1) := by decide +kernel
theorem dX12_meets_143 : decode cX12_meets 143 = .ok (.goto 4, 3) := by decide +kernel
theorem dX12_meets_146 : decode cX12_meets 146 = .ok (.iconst 0, 1) := by decide +kernel
theorem dX12_meets_147 : decode cX12_meets 147 = .ok (.bastore, 1) := by decide +kernel
theorem dX12_meets_148 : decode cX12_meets 148 = .ok (.goto 177, 3) := by decide +kernel
theorem dX12_meets_151 : decode cX12_meets 151 = .ok (.iload 6, 2) := by decide +kernel
theorem dX12_meets_153 : decode cX12_meets 153 = .ok (.bipush 6, 2) := by decide +kernel
theorem dX12_meets_155 : decode cX12_meets 155 = .ok (.if_icmp .ne 32, 3) := by decide +kernel
theorem dX12_meets_158 : decode cX12_meets 158 = .ok (.aload_n 0, 1) := by decide +kernel
theorem dX12_meets_159 : decode cX12_meets 159 = .ok (.getfield 79, 3) := by decide +kernel
theorem dX12_meets_162 : decode cX12_meets 162 = .ok (.iload 4, 2) := by decide +kernel
theorem dX12_meets_164 : decode cX12_meets 164 = .ok (.iconst 1, 1) := by decide +kernel
theorem dX12_meets_165 : decode cX12_meets 165 = .ok (.isub, 1) := by decide +kernel
theorem dX12_meets_166 : decode cX12_meets 166 = .ok (.aload_n 0, 1) := by decide +kernel
theorem dX12_meets_167 : decode cX12_meets 167 = .ok (.getfield 79, 3) := by decide +kernel
theorem dX12_meets_170 : decode cX12_meets 170 = .ok (.iload 4, 2) := by decide +kernel
theorem dX12_meets_172 : decode cX12_meets 172 = .ok (.iconst 1, 1) := by decide +kernel
theorem dX12_meets_173 : decode cX12_meets 173 = .ok (.isub, 1) := by decide +kernel
theorem dX12_meets_174 : decode cX12_meets 174 = .ok (.baload, 1) := by decide +kernel
theorem dX12_meets_175 : decode cX12_meets 175 = .ok (.ifCond .ne 7, 3) := by decide +kernel
theorem dX12_meets_178 : decode cX12_meets 178 = .ok (.iconst 1, 1) := by decide +kernel
theorem dX12_meets_179 : decode cX12_meets 179 = .ok (.goto 4, 3) := by decide +kernel
theorem dX12_meets_182 : decode cX12_meets 182 = .ok (.iconst 0, 1) := by decide +kernel
theorem dX12_meets_183 : decode cX12_meets 183 = .ok (.bastore, 1) := by decide +kernel
theorem dX12_meets_184 : decode cX12_meets 184 = .ok (.goto 141, 3) := by decide +kernel
theorem dX12_meets_187 : decode cX12_meets 187 = .ok (.iload_n 3, 1) := by decide +kernel
theorem dX12_meets_188 : decode cX12_meets 188 = .ok (.invokestatic 317, 3) := by decide +kernel
theorem dX12_meets_191 : decode cX12_meets 191 = .ok (.istore 7, 2) := by decide +kernel
theorem dX12_meets_193 : decode cX12_meets 193 = .ok (.aload_n 0, 1) := by decide +kernel
theorem dX12_meets_194 : decode cX12_meets 194 = .ok (.getfield 79, 3) := by decide +kernel
theorem dX12_meets_197 : decode cX12_meets 197 = .ok (.iload 4, 2) := by decide +kernel
theorem dX12_meets_199 : decode cX12_meets 199 = .ok (.iload 6, 2) := by decide +kernel
theorem dX12_meets_201 : decode cX12_meets 201 = .ok (.iconst 1, 1) := by decide +kernel
theorem dX12_meets_202 : decode cX12_meets 202 = .ok (.if_icmp .ne 17, 3) := by decide +kernel
theorem dX12_meets_205 : decode cX12_meets 205 = .ok (.iload_n 3, 1) := by decide +kernel
theorem dX12_meets_206 : decode cX12_meets 206 = .ok (.aload_n 0, 1) := by decide +kernel
theorem dX12_meets_207 : decode cX12_meets 207 = .ok (.getfield 73, 3) := by decide +kernel
theorem dX12_meets_210 : decode cX12_meets 210 = .ok (.iload 5, 2) := by decide +kernel
theorem dX12_meets_212 : decode cX12_meets 212 = .ok (.iaload, 1) := by decide +kernel
theorem dX12_meets_213 : decode cX12_meets 213 = .ok (.invokestatic 320, 3) := by decide +kernel
theorem dX12_meets_216 : decode cX12_meets 216 = .ok (.goto 105, 3) := by decide +kernel
theorem dX12_meets_219 : decode cX12_meets 219 = .ok (.iload 6, 2) := by decide +kernel
theorem dX12_meets_221 : decode cX12_meets 221 = .ok (.iconst 2, 1) := by decide +kernel
theorem dX12_meets_222 : decode cX12_meets 222 = .ok (.if_icmp .ne 30, 3) := by decide +kernel
theorem dX12_meets_225 : decode cX12_meets 225 = .ok (.aload_n 0, 1) := by decide +kernel
theorem dX12_meets_226 : decode cX12_meets 226 = .ok (.aload_n 0, 1) := by decide +kernel
theorem dX12_meets_227 : decode cX12_meets 227 = .ok (.getfield 73, 3) := by decide +kernel
theorem dX12_meets_230 : decode cX12_meets 230 = .ok (.iload 5, 2) := by decide +kernel
theorem dX12_meets_232 : decode cX12_meets 232 = .ok (.iaload, 1) := by decide +kernel
theorem dX12_meets_233 : decode cX12_meets 233 = .ok (.sipush 1999, 3) := by decide +kernel
theorem dX12_meets_236 : decode cX12_meets 236 = .ok (.invokevirtual 305, 3) := by decide +kernel
theorem dX12_meets_239 : decode cX12_meets 239 = .ok (.iload_n 3, 1) := by decide +kernel
theorem dX12_meets_240 : decode cX12_meets 240 = .ok (.iand, 1) := by decide +kernel
theorem dX12_meets_241 : decode cX12_meets 241 = .ok (.ifCond .eq 7, 3) := by decide +kernel
theorem dX12_meets_244 : decode cX12_meets 244 = .ok (.iconst 1, 1) := by decide +kernel
theorem dX12_meets_245 : decode cX12_meets 245 = .ok (.goto 76, 3) := by decide +kernel
theorem dX12_meets_248 : decode cX12_meets 248 = .ok (.iconst 0, 1) := by decide +kernel
theorem dX12_meets_249 : decode cX12_meets 249 = .ok (.goto 72, 3) := by decide +kernel
theorem dX12_meets_252 : decode cX12_meets 252 = .ok (.iload 6, 2) := by decide +kernel
theorem dX12_meets_254 : decode cX12_meets 254 = .ok (.iconst 3, 1) := by decide +kernel
theorem dX12_meets_255 : decode cX12_meets 255 = .ok (.if_icmp .ne 23, 3) := by decide +kernel
theorem dX12_meets_258 : decode cX12_meets 258 = .ok (.iload 7, 2) := by decide +kernel
theorem dX12_meets_260 : decode cX12_meets 260 = .ok (.aload_n 0, 1) := by decide +kernel
theorem dX12_meets_261 : decode cX12_meets 261 = .ok (.getfield 73, 3) := by decide +kernel
theorem dX12_meets_264 : decode cX12_meets 264 = .ok (.iload 5, 2) := by decide +kernel
theorem dX12_meets_266 : decode cX12_meets 266 = .ok (.iaload, 1) := by decide +kernel
theorem dX12_meets_267 : decode cX12_meets 267 = .ok (.if_icmp .ge 7, 3) := by decide +kernel
theorem dX12_meets_270 : decode cX12_meets 270 = .ok (.iconst 1, 1) := by decide +kernel
theorem dX12_meets_271 : decode cX12_meets 271 = .ok (.goto 50, 3) := by decide +kernel
theorem dX12_meets_274 : decode cX12_meets 274 = .ok (.iconst 0, 1) := by decide +kernel
theorem dX12_meets_275 : decode cX12_meets 275 = .ok (.goto 46, 3) := by decide +kernel
theorem dX12_meets_278 : decode cX12_meets 278 = .ok (.iload 6, 2) := by decide +kernel
theorem dX12_meets_280 : decode cX12_meets 280 = .ok (.iconst 4, 1) := by decide +kernel
theorem dX12_meets_281 : decode cX12_meets 281 = .ok (.if_icmp .ne 23, 3) := by decide +kernel
theorem dX12_meets_284 : decode cX12_meets 284 = .ok (.iload 7, 2) := by decide +kernel
theorem dX12_meets_286 : decode cX12_meets 286 = .ok (.aload_n 0, 1) := by decide +kernel
theorem dX12_meets_287 : decode cX12_meets 287 = .ok (.getfield 73, 3) := by decide +kernel
theorem dX12_meets_290 : decode cX12_meets 290 = .ok (.iload 5, 2) := by decide +kernel
theorem dX12_meets_292 : decode cX12_meets 292 = .ok (.iaload, 1) := by decide +kernel
theorem dX12_meets_293 : decode cX12_meets 293 = .ok (.if_icmp .le 7, 3) := by decide +kernel
theorem dX12_meets_296 : decode cX12_meets 296 = .ok (.iconst 1, 1) := by decide +kernel
theorem dX12_meets_297 : decode cX12_meets 297 = .ok (.goto 24, 3) := by decide +kernel
theorem dX12_meets_300 : decode cX12_meets 300 = .ok (.iconst 0, 1) := by decide +kernel
theorem dX12_meets_301 : decode cX12_meets 301 = .ok (.goto 20, 3) := by decide +kernel
theorem dX12_meets_304 : decode cX12_meets 304 = .ok (.iload 7, 2) := by decide +kernel
theorem dX12_meets_306 : decode cX12_meets 306 = .ok (.aload_n 0, 1) := by decide +kernel
theorem dX12_meets_307 : decode cX12_meets 307 = .ok (.getfield 73, 3) := by decide +kernel
theorem dX12_meets_310 : decode cX12_meets 310 = .ok (.iload 5, 2) := by decide +kernel
theorem dX12_meets_312 : decode cX12_meets 312 = .ok (.iaload, 1) := by decide +kernel
theorem dX12_meets_313 : decode cX12_meets 313 = .ok (.if_icmp .ne 7, 3) := by decide +kernel
theorem dX12_meets_316 : decode cX12_meets 316 = .ok (.iconst 1, 1) := by decide +kernel
theorem dX12_meets_317 : decode cX12_meets 317 = .ok (.goto 4, 3) := by decide +kernel
theorem dX12_meets_320 : decode cX12_meets 320 = .ok (.iconst 0, 1) := by decide +kernel
theorem dX12_meets_321 : decode cX12_meets 321 = .ok (.bastore, 1) := by decide +kernel
theorem dX12_meets_322 : decode cX12_meets 322 = .ok (.iinc 4 1, 3) := by decide +kernel
theorem dX12_meets_325 : decode cX12_meets 325 = .ok (.iinc 5 1, 3) := by decide +kernel
theorem dX12_meets_328 : decode cX12_meets 328 = .ok (.goto (-295), 3) := by decide +kernel
theorem dX12_meets_331 : decode cX12_meets 331 = .ok (.aload_n 0, 1) := by decide +kernel
theorem dX12_meets_332 : decode cX12_meets 332 = .ok (.getfield 79, 3) := by decide +kernel
theorem dX12_meets_335 : decode cX12_meets 335 = .ok (.iconst 0, 1) := by decide +kernel
theorem dX12_meets_336 : decode cX12_meets 336 = .ok (.baload, 1) := by decide +kernel
theorem dX12_meets_337 : decode cX12_meets 337 = .ok (.ireturn, 1) := by decide +kernel
