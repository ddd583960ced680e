/-! decode rows of the law, b -/
theorem dL_areStartsRight_60 : decode cL_areStartsRight 60 = .ok (.iload 9, 2) := by decide +kernel
theorem dL_areStartsRight_62 : decode cL_areStartsRight 62 = .ok (.iaload, 1) := by decide +kernel
theorem dL_areStartsRight_63 : decode cL_areStartsRight 63 = .ok (.aload_n 1, 1) := by decide +kernel
theorem dL_areStartsRight_64 : decode cL_areStartsRight 64 = .ok (.iload 9, 2) := by decide +kernel
theorem dL_areStartsRight_66 : decode cL_areStartsRight 66 = .ok (.iaload, 1) := by decide +kernel
theorem dL_areStartsRight_67 : decode cL_areStartsRight 67 = .ok (.isub, 1) := by decide +kernel
theorem dL_areStartsRight_68 : decode cL_areStartsRight 68 = .ok (.istore 10, 2) := by decide +kernel
theorem dL_areStartsRight_70 : decode cL_areStartsRight 70 = .ok (.iload 5, 2) := by decide +kernel
theorem dL_areStartsRight_72 : decode cL_areStartsRight 72 = .ok (.iload 10, 2) := by decide +kernel
theorem dL_areStartsRight_74 : decode cL_areStartsRight 74 = .ok (.ifCond .ne 7, 3) := by decide +kernel
theorem dL_areStartsRight_77 : decode cL_areStartsRight 77 = .ok (.iconst 1, 1) := by decide +kernel
theorem dL_areStartsRight_78 : decode cL_areStartsRight 78 = .ok (.goto 4, 3) := by decide +kernel
theorem dL_areStartsRight_81 : decode cL_areStartsRight 81 = .ok (.iconst 0, 1) := by decide +kernel
theorem dL_areStartsRight_82 : decode cL_areStartsRight 82 = .ok (.invokestatic 29, 3) := by decide +kernel
theorem dL_areStartsRight_85 : decode cL_areStartsRight 85 = .ok (.iadd, 1) := by decide +kernel
theorem dL_areStartsRight_86 : decode cL_areStartsRight 86 = .ok (.istore 5, 2) := by decide +kernel
theorem dL_areStartsRight_88 : decode cL_areStartsRight 88 = .ok (.iload 6, 2) := by decide +kernel
theorem dL_areStartsRight_90 : decode cL_areStartsRight 90 = .ok (.iload 10, 2) := by decide +kernel
theorem dL_areStartsRight_92 : decode cL_areStartsRight 92 = .ok (.iadd, 1) := by decide +kernel
theorem dL_areStartsRight_93 : decode cL_areStartsRight 93 = .ok (.istore 6, 2) := by decide +kernel
theorem dL_areStartsRight_95 : decode cL_areStartsRight 95 = .ok (.iload 7, 2) := by decide +kernel
theorem dL_areStartsRight_97 : decode cL_areStartsRight 97 = .ok (.ifCond .ge 24, 3) := by decide +kernel
theorem dL_areStartsRight_100 : decode cL_areStartsRight 100 = .ok (.aload_n 1, 1) := by decide +kernel
theorem dL_areStartsRight_101 : decode cL_areStartsRight 101 = .ok (.iload 9, 2) := by decide +kernel
theorem dL_areStartsRight_103 : decode cL_areStartsRight 103 = .ok (.iaload, 1) := by decide +kernel
theorem dL_areStartsRight_104 : decode cL_areStartsRight 104 = .ok (.aload_n 0, 1) := by decide +kernel
theorem dL_areStartsRight_105 : decode cL_areStartsRight 105 = .ok (.iload 9, 2) := by decide +kernel
theorem dL_areStartsRight_107 : decode cL_areStartsRight 107 = .ok (.invokevirtual 65, 3) := by decide +kernel
theorem dL_areStartsRight_110 : decode cL_areStartsRight 110 = .ok (.iadd, 1) := by decide +kernel
theorem dL_areStartsRight_111 : decode cL_areStartsRight 111 = .ok (.iload 4, 2) := by decide +kernel
theorem dL_areStartsRight_113 : decode cL_areStartsRight 113 = .ok (.if_icmp .ne 8, 3) := by decide +kernel
theorem dL_areStartsRight_116 : decode cL_areStartsRight 116 = .ok (.iload 9, 2) := by decide +kernel
theorem dL_areStartsRight_118 : decode cL_areStartsRight 118 = .ok (.goto 5, 3) := by decide +kernel
theorem dL_areStartsRight_121 : decode cL_areStartsRight 121 = .ok (.iload 7, 2) := by decide +kernel
theorem dL_areStartsRight_123 : decode cL_areStartsRight 123 = .ok (.istore 7, 2) := by decide +kernel
theorem dL_areStartsRight_125 : decode cL_areStartsRight 125 = .ok (.iload 8, 2) := by decide +kernel
theorem dL_areStartsRight_127 : decode cL_areStartsRight 127 = .ok (.ifCond .eq 81, 3) := by decide +kernel
theorem dL_areStartsRight_130 : decode cL_areStartsRight 130 = .ok (.aload_n 0, 1) := by decide +kernel
theorem dL_areStartsRight_131 : decode cL_areStartsRight 131 = .ok (.iload 9, 2) := by decide +kernel
theorem dL_areStartsRight_133 : decode cL_areStartsRight 133 = .ok (.invokevirtual 74, 3) := by decide +kernel
theorem dL_areStartsRight_136 : decode cL_areStartsRight 136 = .ok (.aload_n 1, 1) := by decide +kernel
theorem dL_areStartsRight_137 : decode cL_areStartsRight 137 = .ok (.iload 9, 2) := by decide +kernel
theorem dL_areStartsRight_139 : decode cL_areStartsRight 139 = .ok (.iaload, 1) := by decide +kernel
theorem dL_areStartsRight_140 : decode cL_areStartsRight 140 = .ok (.if_icmp .ne 68, 3) := by decide +kernel
theorem dL_areStartsRight_143 : decode cL_areStartsRight 143 = .ok (.aload_n 0, 1) := by decide +kernel
theorem dL_areStartsRight_144 : decode cL_areStartsRight 144 = .ok (.iload 9, 2) := by decide +kernel
theorem dL_areStartsRight_146 : decode cL_areStartsRight 146 = .ok (.invokevirtual 192, 3) := by decide +kernel
theorem dL_areStartsRight_149 : decode cL_areStartsRight 149 = .ok (.aload_n 1, 1) := by decide +kernel
theorem dL_areStartsRight_150 : decode cL_areStartsRight 150 = .ok (.iload 9, 2) := by decide +kernel
theorem dL_areStartsRight_152 : decode cL_areStartsRight 152 = .ok (.iaload, 1) := by decide +kernel
theorem dL_areStartsRight_153 : decode cL_areStartsRight 153 = .ok (.if_icmp .ne 55, 3) := by decide +kernel
theorem dL_areStartsRight_156 : decode cL_areStartsRight 156 = .ok (.aload_n 0, 1) := by decide +kernel
theorem dL_areStartsRight_157 : decode cL_areStartsRight 157 = .ok (.iload 9, 2) := by decide +kernel
theorem dL_areStartsRight_159 : decode cL_areStartsRight 159 = .ok (.invokevirtual 195, 3) := by decide +kernel
theorem dL_areStartsRight_162 : decode cL_areStartsRight 162 = .ok (.aload_n 2, 1) := by decide +kernel
theorem dL_areStartsRight_163 : decode cL_areStartsRight 163 = .ok (.iload 9, 2) := by decide +kernel
theorem dL_areStartsRight_165 : decode cL_areStartsRight 165 = .ok (.iaload, 1) := by decide +kernel
theorem dL_areStartsRight_166 : decode cL_areStartsRight 166 = .ok (.if_icmp .ne 42, 3) := by decide +kernel
theorem dL_areStartsRight_169 : decode cL_areStartsRight 169 = .ok (.aload_n 0, 1) := by decide +kernel
theorem dL_areStartsRight_170 : decode cL_areStartsRight 170 = .ok (.iload 9, 2) := by decide +kernel
theorem dL_areStartsRight_172 : decode cL_areStartsRight 172 = .ok (.invokevirtual 198, 3) := by decide +kernel
theorem dL_areStartsRight_175 : decode cL_areStartsRight 175 = .ok (.iload 10, 2) := by decide +kernel
theorem dL_areStartsRight_177 : decode cL_areStartsRight 177 = .ok (.if_icmp .ne 31, 3) := by decide +kernel
theorem dL_areStartsRight_180 : decode cL_areStartsRight 180 = .ok (.aload_n 0, 1) := by decide +kernel
theorem dL_areStartsRight_181 : decode cL_areStartsRight 181 = .ok (.iload 9, 2) := by decide +kernel
theorem dL_areStartsRight_183 : decode cL_areStartsRight 183 = .ok (.invokevirtual 201, 3) := by decide +kernel
theorem dL_areStartsRight_186 : decode cL_areStartsRight 186 = .ok (.iload 10, 2) := by decide +kernel
theorem dL_areStartsRight_188 : decode cL_areStartsRight 188 = .ok (.ifCond .ne 7, 3) := by decide +kernel
theorem dL_areStartsRight_191 : decode cL_areStartsRight 191 = .ok (.iconst 1, 1) := by decide +kernel
theorem dL_areStartsRight_192 : decode cL_areStartsRight 192 = .ok (.goto 4, 3) := by decide +kernel
theorem dL_areStartsRight_195 : decode cL_areStartsRight 195 = .ok (.iconst 0, 1) := by decide +kernel
theorem dL_areStartsRight_196 : decode cL_areStartsRight 196 = .ok (.if_icmp .ne 12, 3) := by decide +kernel
theorem dL_areStartsRight_199 : decode cL_areStartsRight 199 = .ok (.iload 10, 2) := by decide +kernel
theorem dL_areStartsRight_201 : decode cL_areStartsRight 201 = .ok (.ifCond .lt 7, 3) := by decide +kernel
theorem dL_areStartsRight_204 : decode cL_areStartsRight 204 = .ok (.iconst 1, 1) := by decide +kernel
theorem dL_areStartsRight_205 : decode cL_areStartsRight 205 = .ok (.goto 4, 3) := by decide +kernel
theorem dL_areStartsRight_208 : decode cL_areStartsRight 208 = .ok (.iconst 0, 1) := by decide +kernel
theorem dL_areStartsRight_209 : decode cL_areStartsRight 209 = .ok (.istore 8, 2) := by decide +kernel
theorem dL_areStartsRight_211 : decode cL_areStartsRight 211 = .ok (.iinc 9 1, 3) := by decide +kernel
theorem dL_areStartsRight_214 : decode cL_areStartsRight 214 = .ok (.goto (-161), 3) := by decide +kernel
theorem dL_areStartsRight_217 : decode cL_areStartsRight 217 = .ok (.iconst 0, 1) := by decide +kernel
theorem dL_areStartsRight_218 : decode cL_areStartsRight 218 = .ok (.istore 9, 2) := by decide +kernel
theorem dL_areStartsRight_220 : decode cL_areStartsRight 220 = .ok (.iload 9, 2) := by decide +kernel
theorem dL_areStartsRight_222 : decode cL_areStartsRight 222 = .ok (.iconst 1, 1) := by decide +kernel
theorem dL_areStartsRight_223 : decode cL_areStartsRight 223 = .ok (.iadd, 1) := by decide +kernel
theorem dL_areStartsRight_224 : decode cL_areStartsRight 224 = .ok (.iload_n 3, 1) := by decide +kernel
theorem dL_areStartsRight_225 : decode cL_areStartsRight 225 = .ok (.if_icmp .ge 96, 3) := by decide +kernel
theorem dL_areStartsRight_228 : decode cL_areStartsRight 228 = .ok (.aload_n 0, 1) := by decide +kernel
theorem dL_areStartsRight_229 : decode cL_areStartsRight 229 = .ok (.iload 9, 2) := by decide +kernel
theorem dL_areStartsRight_231 : decode cL_areStartsRight 231 = .ok (.invokevirtual 92, 3) := by decide +kernel
theorem dL_areStartsRight_234 : decode cL_areStartsRight 234 = .ok (.istore 10, 2) := by decide +kernel
theorem dL_areStartsRight_236 : decode cL_areStartsRight 236 = .ok (.aload_n 0, 1) := by decide +kernel
theorem dL_areStartsRight_237 : decode cL_areStartsRight 237 = .ok (.iload 9, 2) := by decide +kernel
theorem dL_areStartsRight_239 : decode cL_areStartsRight 239 = .ok (.iconst 1, 1) := by decide +kernel
theorem dL_areStartsRight_240 : decode cL_areStartsRight 240 = .ok (.iadd, 1) := by decide +kernel
theorem dL_areStartsRight_241 : decode cL_areStartsRight 241 = .ok (.invokevirtual 92, 3) := by decide +kernel
theorem dL_areStartsRight_244 : decode cL_areStartsRight 244 = .ok (.istore 11, 2) := by decide +kernel
theorem dL_areStartsRight_246 : decode cL_areStartsRight 246 = .ok (.aload_n 0, 1) := by decide +kernel
theorem dL_areStartsRight_247 : decode cL_areStartsRight 247 = .ok (.iload 11, 2) := by decide +kernel
theorem dL_areStartsRight_249 : decode cL_areStartsRight 249 = .ok (.invokevirtual 198, 3) := by decide +kernel
theorem dL_areStartsRight_252 : decode cL_areStartsRight 252 = .ok (.aload_n 0, 1) := by decide +kernel
theorem dL_areStartsRight_253 : decode cL_areStartsRight 253 = .ok (.iload 10, 2) := by decide +kernel
theorem dL_areStartsRight_255 : decode cL_areStartsRight 255 = .ok (.invokevirtual 198, 3) := by decide +kernel
theorem dL_areStartsRight_258 : decode cL_areStartsRight 258 = .ok (.isub, 1) := by decide +kernel
theorem dL_areStartsRight_259 : decode cL_areStartsRight 259 = .ok (.istore 12, 2) := by decide +kernel
theorem dL_areStartsRight_261 : decode cL_areStartsRight 261 = .ok (.aload_n 0, 1) := by decide +kernel
theorem dL_areStartsRight_262 : decode cL_areStartsRight 262 = .ok (.iload 10, 2) := by decide +kernel
theorem dL_areStartsRight_264 : decode cL_areStartsRight 264 = .ok (.invokevirtual 65, 3) := by decide +kernel
theorem dL_areStartsRight_267 : decode cL_areStartsRight 267 = .ok (.aload_n 0, 1) := by decide +kernel
theorem dL_areStartsRight_268 : decode cL_areStartsRight 268 = .ok (.iload 11, 2) := by decide +kernel
theorem dL_areStartsRight_270 : decode cL_areStartsRight 270 = .ok (.invokevirtual 65, 3) := by decide +kernel
theorem dL_areStartsRight_273 : decode cL_areStartsRight 273 = .ok (.isub, 1) := by decide +kernel
theorem dL_areStartsRight_274 : decode cL_areStartsRight 274 = .ok (.istore 13, 2) := by decide +kernel
theorem dL_areStartsRight_276 : decode cL_areStartsRight 276 = .ok (.iload 8, 2) := by decide +kernel
theorem dL_areStartsRight_278 : decode cL_areStartsRight 278 = .ok (.ifCond .eq 34, 3) := by decide +kernel
theorem dL_areStartsRight_281 : decode cL_areStartsRight 281 = .ok (.iload 12, 2) := by decide +kernel
theorem dL_areStartsRight_283 : decode cL_areStartsRight 283 = .ok (.ifCond .gt 25, 3) := by decide +kernel
theorem dL_areStartsRight_286 : decode cL_areStartsRight 286 = .ok (.iload 12, 2) := by decide +kernel
theorem dL_areStartsRight_288 : decode cL_areStartsRight 288 = .ok (.ifCond .ne 24, 3) := by decide +kernel
theorem dL_areStartsRight_291 : decode cL_areStartsRight 291 = .ok (.iload 13, 2) := by decide +kernel
theorem dL_areStartsRight_293 : decode cL_areStartsRight 293 = .ok (.ifCond .gt 15, 3) := by decide +kernel
theorem dL_areStartsRight_296 : decode cL_areStartsRight 296 = .ok (.iload 13, 2) := by decide +kernel
theorem dL_areStartsRight_298 : decode cL_areStartsRight 298 = .ok (.ifCond .ne 14, 3) := by decide +kernel
theorem dL_areStartsRight_301 : decode cL_areStartsRight 301 = .ok (.iload 10, 2) := by decide +kernel
theorem dL_areStartsRight_303 : decode cL_areStartsRight 303 = .ok (.iload 11, 2) := by decide +kernel
theorem dL_areStartsRight_305 : decode cL_areStartsRight 305 = .ok (.if_icmp .ge 7, 3) := by decide +kernel
theorem dL_areStartsRight_308 : decode cL_areStartsRight 308 = .ok (.iconst 1, 1) := by decide +kernel
theorem dL_areStartsRight_309 : decode cL_areStartsRight 309 = .ok (.goto 4, 3) := by decide +kernel
theorem dL_areStartsRight_312 : decode cL_areStartsRight 312 = .ok (.iconst 0, 1) := by decide +kernel
theorem dL_areStartsRight_313 : decode cL_areStartsRight 313 = .ok (.istore 8, 2) := by decide +kernel
theorem dL_areStartsRight_315 : decode cL_areStartsRight 315 = .ok (.iinc 9 1, 3) := by decide +kernel
theorem dL_areStartsRight_318 : decode cL_areStartsRight 318 = .ok (.goto (-98), 3) := by decide +kernel
theorem dL_areStartsRight_321 : decode cL_areStartsRight 321 = .ok (.iload 8, 2) := by decide +kernel
theorem dL_areStartsRight_323 : decode cL_areStartsRight 323 = .ok (.ifCond .eq 60, 3) := by decide +kernel
theorem dL_areStartsRight_326 : decode cL_areStartsRight 326 = .ok (.aload_n 0, 1) := by decide +kernel
theorem dL_areStartsRight_327 : decode cL_areStartsRight 327 = .ok (.invokevirtual 205, 3) := by decide +kernel
theorem dL_areStartsRight_330 : decode cL_areStartsRight 330 = .ok (.iload 5, 2) := by decide +kernel
theorem dL_areStartsRight_332 : decode cL_areStartsRight 332 = .ok (.if_icmp .ne 51, 3) := by decide +kernel
theorem dL_areStartsRight_335 : decode cL_areStartsRight 335 = .ok (.aload_n 0, 1) := by decide +kernel
theorem dL_areStartsRight_336 : decode cL_areStartsRight 336 = .ok (.iconst 4, 1) := by decide +kernel
theorem dL_areStartsRight_337 : decode cL_areStartsRight 337 = .ok (.iconst 0, 1) := by decide +kernel
theorem dL_areStartsRight_338 : decode cL_areStartsRight 338 = .ok (.iconst 0, 1) := by decide +kernel
theorem dL_areStartsRight_339 : decode cL_areStartsRight 339 = .ok (.invokestatic 151, 3) := by decide +kernel
theorem dL_areStartsRight_342 : decode cL_areStartsRight 342 = .ok (.iload 7, 2) := by decide +kernel
theorem dL_areStartsRight_344 : decode cL_areStartsRight 344 = .ok (.if_icmp .ne 39, 3) := by decide +kernel
theorem dL_areStartsRight_347 : decode cL_areStartsRight 347 = .ok (.aload_n 0, 1) := by decide +kernel
theorem dL_areStartsRight_348 : decode cL_areStartsRight 348 = .ok (.bipush 9, 2) := by decide +kernel
theorem dL_areStartsRight_350 : decode cL_areStartsRight 350 = .ok (.iload_n 3, 1) := by decide +kernel
theorem dL_areStartsRight_351 : decode cL_areStartsRight 351 = .ok (.iconst 0, 1) := by decide +kernel
theorem dL_areStartsRight_352 : decode cL_areStartsRight 352 = .ok (.invokestatic 151, 3) := by decide +kernel
theorem dL_areStartsRight_355 : decode cL_areStartsRight 355 = .ok (.sipush (-2004), 3) := by decide +kernel
theorem dL_areStartsRight_358 : decode cL_areStartsRight 358 = .ok (.if_icmp .ne 25, 3) := by decide +kernel
theorem dL_areStartsRight_361 : decode cL_areStartsRight 361 = .ok (.iload_n 3, 1) := by decide +kernel
theorem dL_areStartsRight_362 : decode cL_areStartsRight 362 = .ok (.ifCond .eq 17, 3) := by decide +kernel
theorem dL_areStartsRight_365 : decode cL_areStartsRight 365 = .ok (.aload_n 0, 1) := by decide +kernel
theorem dL_areStartsRight_366 : decode cL_areStartsRight 366 = .ok (.invokevirtual 208, 3) := by decide +kernel
theorem dL_areStartsRight_369 : decode cL_areStartsRight 369 = .ok (.iload 6, 2) := by decide +kernel
theorem dL_areStartsRight_371 : decode cL_areStartsRight 371 = .ok (.i2d, 1) := by decide +kernel
theorem dL_areStartsRight_372 : decode cL_areStartsRight 372 = .ok (.iload_n 3, 1) := by decide +kernel
theorem dL_areStartsRight_373 : decode cL_areStartsRight 373 = .ok (.i2d, 1) := by decide +kernel
theorem dL_areStartsRight_374 : decode cL_areStartsRight 374 = .ok (.ddiv, 1) := by decide +kernel
theorem dL_areStartsRight_375 : decode cL_areStartsRight 375 = .ok (.dcmp .l, 1) := by decide +kernel
theorem dL_areStartsRight_376 : decode cL_areStartsRight 376 = .ok (.ifCond .ne 7, 3) := by decide +kernel
theorem dL_areStartsRight_379 : decode cL_areStartsRight 379 = .ok (.iconst 1, 1) := by decide +kernel
theorem dL_areStartsRight_380 : decode cL_areStartsRight 380 = .ok (.goto 4, 3) := by decide +kernel
theorem dL_areStartsRight_383 : decode cL_areStartsRight 383 = .ok (.iconst 0, 1) := by decide +kernel
theorem dL_areStartsRight_384 : decode cL_areStartsRight 384 = .ok (.ireturn, 1) := by decide +kernel
theorem dL_levelled_0 : decode cL_levelled 0 = .ok (.aload_n 1, 1) := by decide +kernel
theorem dL_levelled_1 : decode cL_levelled 1 = .ok (.arraylength, 1) := by decide +kernel
theorem dL_levelled_2 : decode cL_levelled 2 = .ok (.istore_n 3, 1) := by decide +kernel
theorem dL_levelled_3 : decode cL_levelled 3 = .ok (.iload_n 3, 1) := by decide +kernel
theorem dL_levelled_4 : decode cL_levelled 4 = .ok (.newarray .int, 2) := by decide +kernel
theorem dL_levelled_6 : decode cL_levelled 6 = .ok (.astore 4, 2) := by decide +kernel
theorem dL_levelled_8 : decode cL_levelled 8 = .ok (.iload_n 3, 1) := by decide +kernel
theorem dL_levelled_9 : decode cL_levelled 9 = .ok (.newarray .boolean, 2) := by decide +kernel
theorem dL_levelled_11 : decode cL_levelled 11 = .ok (.astore 5, 2) := by decide +kernel
theorem dL_levelled_13 : decode cL_levelled 13 = .ok (.iconst 0, 1) := by decide +kernel
theorem dL_levelled_14 : decode cL_levelled 14 = .ok (.istore 6, 2) := by decide +kernel
theorem dL_levelled_16 : decode cL_levelled 16 = .ok (.iload 6, 2) := by decide +kernel
theorem dL_levelled_18 : decode cL_levelled 18 = .ok (.iload_n 3, 1) := by decide +kernel
theorem dL_levelled_19 : decode cL_levelled 19 = .ok (.if_icmp .ge 168, 3) := by decide +kernel
theorem dL_levelled_22 : decode cL_levelled 22 = .ok (.iconst (-1), 1) := by decide +kernel
theorem dL_levelled_23 : decode cL_levelled 23 = .ok (.istore 7, 2) := by decide +kernel
theorem dL_levelled_25 : decode cL_levelled 25 = .ok (.iconst 0, 1) := by decide +kernel
theorem dL_levelled_26 : decode cL_levelled 26 = .ok (.istore 8, 2) := by decide +kernel
theorem dL_levelled_28 : decode cL_levelled 28 = .ok (.iload 8, 2) := by decide +kernel
theorem dL_levelled_30 : decode cL_levelled 30 = .ok (.iload_n 3, 1) := by decide +kernel
theorem dL_levelled_31 : decode cL_levelled 31 = .ok (.if_icmp .ge 65, 3) := by decide +kernel
theorem dL_levelled_34 : decode cL_levelled 34 = .ok (.aload 5, 2) := by decide +kernel
theorem dL_levelled_36 : decode cL_levelled 36 = .ok (.iload 8, 2) := by decide +kernel
theorem dL_levelled_38 : decode cL_levelled 38 = .ok (.baload, 1) := by decide +kernel
theorem dL_levelled_39 : decode cL_levelled 39 = .ok (.ifCond .ne 18, 3) := by decide +kernel
theorem dL_levelled_42 : decode cL_levelled 42 = .ok (.aload_n 0, 1) := by decide +kernel
theorem dL_levelled_43 : decode cL_levelled 43 = .ok (.iload 8, 2) := by decide +kernel
theorem dL_levelled_45 : decode cL_levelled 45 = .ok (.aload 5, 2) := by decide +kernel
theorem dL_levelled_47 : decode cL_levelled 47 = .ok (.invokestatic 161, 3) := by decide +kernel
theorem dL_levelled_50 : decode cL_levelled 50 = .ok (.ifCond .eq 7, 3) := by decide +kernel
theorem dL_levelled_53 : decode cL_levelled 53 = .ok (.iconst 1, 1) := by decide +kernel
theorem dL_levelled_54 : decode cL_levelled 54 = .ok (.goto 4, 3) := by decide +kernel
theorem dL_levelled_57 : decode cL_levelled 57 = .ok (.iconst 0, 1) := by decide +kernel
theorem dL_levelled_58 : decode cL_levelled 58 = .ok (.istore 9, 2) := by decide +kernel
theorem dL_levelled_60 : decode cL_levelled 60 = .ok (.iload 9, 2) := by decide +kernel
theorem dL_levelled_62 : decode cL_levelled 62 = .ok (.ifCond .eq 24, 3) := by decide +kernel
theorem dL_levelled_65 : decode cL_levelled 65 = .ok (.iload 7, 2) := by decide +kernel
theorem dL_levelled_67 : decode cL_levelled 67 = .ok (.ifCond .lt 14, 3) := by decide +kernel
theorem dL_levelled_70 : decode cL_levelled 70 = .ok (.aload_n 1, 1) := by decide +kernel
theorem dL_levelled_71 : decode cL_levelled 71 = .ok (.iload 8, 2) := by decide +kernel
theorem dL_levelled_73 : decode cL_levelled 73 = .ok (.iaload, 1) := by decide +kernel
theorem dL_levelled_74 : decode cL_levelled 74 = .ok (.aload_n 1, 1) := by decide +kernel
theorem dL_levelled_75 : decode cL_levelled 75 = .ok (.iload 7, 2) := by decide +kernel
theorem dL_levelled_77 : decode cL_levelled 77 = .ok (.iaload, 1) := by decide +kernel
theorem dL_levelled_78 : decode cL_levelled 78 = .ok (.if_icmp .ge 8, 3) := by decide +kernel
theorem dL_levelled_81 : decode cL_levelled 81 = .ok (.iload 8, 2) := by decide +kernel
theorem dL_levelled_83 : decode cL_levelled 83 = .ok (.goto 5, 3) := by decide +kernel
theorem dL_levelled_86 : decode cL_levelled 86 = .ok (.iload 7, 2) := by decide +kernel
theorem dL_levelled_88 : decode cL_levelled 88 = .ok (.istore 7, 2) := by decide +kernel
theorem dL_levelled_90 : decode cL_levelled 90 = .ok (.iinc 8 1, 3) := by decide +kernel
theorem dL_levelled_93 : decode cL_levelled 93 = .ok (.goto (-65), 3) := by decide +kernel
theorem dL_levelled_96 : decode cL_levelled 96 = .ok (.aload_n 0, 1) := by decide +kernel
theorem dL_levelled_97 : decode cL_levelled 97 = .ok (.iload 7, 2) := by decide +kernel
theorem dL_levelled_99 : decode cL_levelled 99 = .ok (.aload 4, 2) := by decide +kernel
theorem dL_levelled_101 : decode cL_levelled 101 = .ok (.invokestatic 178, 3) := by decide +kernel
theorem dL_levelled_104 : decode cL_levelled 104 = .ok (.istore 8, 2) := by decide +kernel
theorem dL_levelled_106 : decode cL_levelled 106 = .ok (.aload_n 0, 1) := by decide +kernel
theorem dL_levelled_107 : decode cL_levelled 107 = .ok (.iload 7, 2) := by decide +kernel
theorem dL_levelled_109 : decode cL_levelled 109 = .ok (.iload 8, 2) := by decide +kernel
theorem dL_levelled_111 : decode cL_levelled 111 = .ok (.aload_n 2, 1) := by decide +kernel
theorem dL_levelled_112 : decode cL_levelled 112 = .ok (.invokestatic 212, 3) := by decide +kernel
theorem dL_levelled_115 : decode cL_levelled 115 = .ok (.ifCond .ne 9, 3) := by decide +kernel
theorem dL_levelled_118 : decode cL_levelled 118 = .ok (.iinc 8 1, 3) := by decide +kernel
theorem dL_levelled_121 : decode cL_levelled 121 = .ok (.goto (-15), 3) := by decide +kernel
theorem dL_levelled_124 : decode cL_levelled 124 = .ok (.iload 8, 2) := by decide +kernel
theorem dL_levelled_126 : decode cL_levelled 126 = .ok (.istore 9, 2) := by decide +kernel
theorem dL_levelled_128 : decode cL_levelled 128 = .ok (.iload 9, 2) := by decide +kernel
theorem dL_levelled_130 : decode cL_levelled 130 = .ok (.iload 8, 2) := by decide +kernel
theorem dL_levelled_132 : decode cL_levelled 132 = .ok (.aload_n 0, 1) := by decide +kernel
theorem dL_levelled_133 : decode cL_levelled 133 = .ok (.iload 7, 2) := by decide +kernel
theorem dL_levelled_135 : decode cL_levelled 135 = .ok (.invokevirtual 65, 3) := by decide +kernel
theorem dL_levelled_138 : decode cL_levelled 138 = .ok (.iadd, 1) := by decide +kernel
theorem dL_levelled_139 : decode cL_levelled 139 = .ok (.if_icmp .ge 29, 3) := by decide +kernel
theorem dL_levelled_142 : decode cL_levelled 142 = .ok (.aload_n 2, 1) := by decide +kernel
theorem dL_levelled_143 : decode cL_levelled 143 = .ok (.aload_n 0, 1) := by decide +kernel
theorem dL_levelled_144 : decode cL_levelled 144 = .ok (.iload 7, 2) := by decide +kernel
theorem dL_levelled_146 : decode cL_levelled 146 = .ok (.invokevirtual 142, 3) := by decide +kernel
theorem dL_levelled_149 : decode cL_levelled 149 = .ok (.aaload, 1) := by decide +kernel
theorem dL_levelled_150 : decode cL_levelled 150 = .ok (.iload 9, 2) := by decide +kernel
theorem dL_levelled_152 : decode cL_levelled 152 = .ok (.dup2, 1) := by decide +kernel
theorem dL_levelled_153 : decode cL_levelled 153 = .ok (.iaload, 1) := by decide +kernel
theorem dL_levelled_154 : decode cL_levelled 154 = .ok (.aload_n 0, 1) := by decide +kernel
theorem dL_levelled_155 : decode cL_levelled 155 = .ok (.iload 7, 2) := by decide +kernel
theorem dL_levelled_157 : decode cL_levelled 157 = .ok (.invokevirtual 145, 3) := by decide +kernel
theorem dL_levelled_160 : decode cL_levelled 160 = .ok (.iadd, 1) := by decide +kernel
theorem dL_levelled_161 : decode cL_levelled 161 = .ok (.iastore, 1) := by decide +kernel
theorem dL_levelled_162 : decode cL_levelled 162 = .ok (.iinc 9 1, 3) := by decide +kernel
theorem dL_levelled_165 : decode cL_levelled 165 = .ok (.goto (-37), 3) := by decide +kernel
theorem dL_levelled_168 : decode cL_levelled 168 = .ok (.aload 4, 2) := by decide +kernel
theorem dL_levelled_170 : decode cL_levelled 170 = .ok (.iload 7, 2) := by decide +kernel
theorem dL_levelled_172 : decode cL_levelled 172 = .ok (.iload 8, 2) := by decide +kernel
theorem dL_levelled_174 : decode cL_levelled 174 = .ok (.iastore, 1) := by decide +kernel
theorem dL_levelled_175 : decode cL_levelled 175 = .ok (.aload 5, 2) := by decide +kernel
theorem dL_levelled_177 : decode cL_levelled 177 = .ok (.iload 7, 2) := by decide +kernel
theorem dL_levelled_179 : decode cL_levelled 179 = .ok (.iconst 1, 1) := by decide +kernel
theorem dL_levelled_180 : decode cL_levelled 180 = .ok (.bastore, 1) := by decide +kernel
theorem dL_levelled_181 : decode cL_levelled 181 = .ok (.iinc 6 1, 3) := by decide +kernel
theorem dL_levelled_184 : decode cL_levelled 184 = .ok (.goto (-168), 3) := by decide +kernel
theorem dL_levelled_187 : decode cL_levelled 187 = .ok (.aload 4, 2) := by decide +kernel
theorem dL_levelled_189 : decode cL_levelled 189 = .ok (.areturn, 1) := by decide +kernel
theorem dL_fits_0 : decode cL_fits 0 = .ok (.iconst 1, 1) := by decide +kernel
theorem dL_fits_1 : decode cL_fits 1 = .ok (.istore 4, 2) := by decide +kernel
theorem dL_fits_3 : decode cL_fits 3 = .ok (.iload_n 2, 1) := by decide +kernel
theorem dL_fits_4 : decode cL_fits 4 = .ok (.istore 5, 2) := by decide +kernel
theorem dL_fits_6 : decode cL_fits 6 = .ok (.iload 5, 2) := by decide +kernel
theorem dL_fits_8 : decode cL_fits 8 = .ok (.iload_n 2, 1) := by decide +kernel
theorem dL_fits_9 : decode cL_fits 9 = .ok (.aload_n 0, 1) := by decide +kernel
theorem dL_fits_10 : decode cL_fits 10 = .ok (.iload_n 1, 1) := by decide +kernel
theorem dL_fits_11 : decode cL_fits 11 = .ok (.invokevirtual 65, 3) := by decide +kernel
theorem dL_fits_14 : decode cL_fits 14 = .ok (.iadd, 1) := by decide +kernel
theorem dL_fits_15 : decode cL_fits 15 = .ok (.if_icmp .ge 49, 3) := by decide +kernel
theorem dL_fits_18 : decode cL_fits 18 = .ok (.iload 4, 2) := by decide +kernel
theorem dL_fits_20 : decode cL_fits 20 = .ok (.ifCond .eq 35, 3) := by decide +kernel
theorem dL_fits_23 : decode cL_fits 23 = .ok (.aload_n 3, 1) := by decide +kernel
theorem dL_fits_24 : decode cL_fits 24 = .ok (.aload_n 0, 1) := by decide +kernel
theorem dL_fits_25 : decode cL_fits 25 = .ok (.iload_n 1, 1) := by decide +kernel
theorem dL_fits_26 : decode cL_fits 26 = .ok (.invokevirtual 142, 3) := by decide +kernel
theorem dL_fits_29 : decode cL_fits 29 = .ok (.aaload, 1) := by decide +kernel
theorem dL_fits_30 : decode cL_fits 30 = .ok (.iload 5, 2) := by decide +kernel
theorem dL_fits_32 : decode cL_fits 32 = .ok (.iaload, 1) := by decide +kernel
theorem dL_fits_33 : decode cL_fits 33 = .ok (.aload_n 0, 1) := by decide +kernel
theorem dL_fits_34 : decode cL_fits 34 = .ok (.iload_n 1, 1) := by decide +kernel
theorem dL_fits_35 : decode cL_fits 35 = .ok (.invokevirtual 145, 3) := by decide +kernel
theorem dL_fits_38 : decode cL_fits 38 = .ok (.iadd, 1) := by decide +kernel
theorem dL_fits_39 : decode cL_fits 39 = .ok (.aload_n 0, 1) := by decide +kernel
theorem dL_fits_40 : decode cL_fits 40 = .ok (.aload_n 0, 1) := by decide +kernel
theorem dL_fits_41 : decode cL_fits 41 = .ok (.iload_n 1, 1) := by decide +kernel
theorem dL_fits_42 : decode cL_fits 42 = .ok (.invokevirtual 142, 3) := by decide +kernel
theorem dL_fits_45 : decode cL_fits 45 = .ok (.invokevirtual 135, 3) := by decide +kernel
theorem dL_fits_48 : decode cL_fits 48 = .ok (.if_icmp .gt 7, 3) := by decide +kernel
theorem dL_fits_51 : decode cL_fits 51 = .ok (.iconst 1, 1) := by decide +kernel
theorem dL_fits_52 : decode cL_fits 52 = .ok (.goto 4, 3) := by decide +kernel
theorem dL_fits_55 : decode cL_fits 55 = .ok (.iconst 0, 1) := by decide +kernel
theorem dL_fits_56 : decode cL_fits 56 = .ok (.istore 4, 2) := by decide +kernel
theorem dL_fits_58 : decode cL_fits 58 = .ok (.iinc 5 1, 3) := by decide +kernel
theorem dL_fits_61 : decode cL_fits 61 = .ok (.goto (-55), 3) := by decide +kernel
theorem dL_fits_64 : decode cL_fits 64 = .ok (.iload 4, 2) := by decide +kernel
theorem dL_fits_66 : decode cL_fits 66 = .ok (.ireturn, 1) := by decide +kernel
theorem dL_areLevelsRight_0 : decode cL_areLevelsRight 0 = .ok (.aload_n 1, 1) := by decide +kernel
theorem dL_areLevelsRight_1 : decode cL_areLevelsRight 1 = .ok (.arraylength, 1) := by decide +kernel
theorem dL_areLevelsRight_2 : decode cL_areLevelsRight 2 = .ok (.istore 4, 2) := by decide +kernel
theorem dL_areLevelsRight_4 : decode cL_areLevelsRight 4 = .ok (.aload_n 0, 1) := by decide +kernel
theorem dL_areLevelsRight_5 : decode cL_areLevelsRight 5 = .ok (.aload_n 1, 1) := by decide +kernel
theorem dL_areLevelsRight_6 : decode cL_areLevelsRight 6 = .ok (.invokestatic 185, 3) := by decide +kernel
theorem dL_areLevelsRight_9 : decode cL_areLevelsRight 9 = .ok (.istore 5, 2) := by decide +kernel
theorem dL_areLevelsRight_11 : decode cL_areLevelsRight 11 = .ok (.iconst 0, 1) := by decide +kernel
theorem dL_areLevelsRight_12 : decode cL_areLevelsRight 12 = .ok (.istore 6, 2) := by decide +kernel
theorem dL_areLevelsRight_14 : decode cL_areLevelsRight 14 = .ok (.aload_n 0, 1) := by decide +kernel
theorem dL_areLevelsRight_15 : decode cL_areLevelsRight 15 = .ok (.invokevirtual 216, 3) := by decide +kernel
theorem dL_areLevelsRight_18 : decode cL_areLevelsRight 18 = .ok (.iload 5, 2) := by decide +kernel
theorem dL_areLevelsRight_20 : decode cL_areLevelsRight 20 = .ok (.if_icmp .ne 73, 3) := by decide +kernel
theorem dL_areLevelsRight_23 : decode cL_areLevelsRight 23 = .ok (.aload_n 0, 1) := by decide +kernel
theorem dL_areLevelsRight_24 : decode cL_areLevelsRight 24 = .ok (.iconst 5, 1) := by decide +kernel
theorem dL_areLevelsRight_25 : decode cL_areLevelsRight 25 = .ok (.iload 4, 2) := by decide +kernel
theorem dL_areLevelsRight_27 : decode cL_areLevelsRight 27 = .ok (.iconst 0, 1) := by decide +kernel
theorem dL_areLevelsRight_28 : decode cL_areLevelsRight 28 = .ok (.invokestatic 151, 3) := by decide +kernel
theorem dL_areLevelsRight_31 : decode cL_areLevelsRight 31 = .ok (.sipush (-2002), 3) := by decide +kernel
theorem dL_areLevelsRight_34 : decode cL_areLevelsRight 34 = .ok (.if_icmp .ne 59, 3) := by decide +kernel
theorem dL_areLevelsRight_37 : decode cL_areLevelsRight 37 = .ok (.aload_n 0, 1) := by decide +kernel
theorem dL_areLevelsRight_38 : decode cL_areLevelsRight 38 = .ok (.bipush 6, 2) := by decide +kernel
theorem dL_areLevelsRight_40 : decode cL_areLevelsRight 40 = .ok (.iconst 3, 1) := by decide +kernel
theorem dL_areLevelsRight_41 : decode cL_areLevelsRight 41 = .ok (.iconst 0, 1) := by decide +kernel
theorem dL_areLevelsRight_42 : decode cL_areLevelsRight 42 = .ok (.invokestatic 151, 3) := by decide +kernel
theorem dL_areLevelsRight_45 : decode cL_areLevelsRight 45 = .ok (.sipush (-2003), 3) := by decide +kernel
theorem dL_areLevelsRight_48 : decode cL_areLevelsRight 48 = .ok (.if_icmp .ne 45, 3) := by decide +kernel
theorem dL_areLevelsRight_51 : decode cL_areLevelsRight 51 = .ok (.aload_n 0, 1) := by decide +kernel
theorem dL_areLevelsRight_52 : decode cL_areLevelsRight 52 = .ok (.bipush 6, 2) := by decide +kernel
theorem dL_areLevelsRight_54 : decode cL_areLevelsRight 54 = .ok (.iconst 0, 1) := by decide +kernel
theorem dL_areLevelsRight_55 : decode cL_areLevelsRight 55 = .ok (.iconst (-1), 1) := by decide +kernel
theorem dL_areLevelsRight_56 : decode cL_areLevelsRight 56 = .ok (.invokestatic 151, 3) := by decide +kernel
theorem dL_areLevelsRight_59 : decode cL_areLevelsRight 59 = .ok (.sipush (-2003), 3) := by decide +kernel
theorem dL_areLevelsRight_62 : decode cL_areLevelsRight 62 = .ok (.if_icmp .ne 31, 3) := by decide +kernel
theorem dL_areLevelsRight_65 : decode cL_areLevelsRight 65 = .ok (.aload_n 0, 1) := by decide +kernel
theorem dL_areLevelsRight_66 : decode cL_areLevelsRight 66 = .ok (.bipush 15, 2) := by decide +kernel
theorem dL_areLevelsRight_68 : decode cL_areLevelsRight 68 = .ok (.iconst (-1), 1) := by decide +kernel
theorem dL_areLevelsRight_69 : decode cL_areLevelsRight 69 = .ok (.iconst 0, 1) := by decide +kernel
theorem dL_areLevelsRight_70 : decode cL_areLevelsRight 70 = .ok (.invokestatic 151, 3) := by decide +kernel
theorem dL_areLevelsRight_73 : decode cL_areLevelsRight 73 = .ok (.sipush (-2003), 3) := by decide +kernel
theorem dL_areLevelsRight_76 : decode cL_areLevelsRight 76 = .ok (.if_icmp .ne 17, 3) := by decide +kernel
theorem dL_areLevelsRight_79 : decode cL_areLevelsRight 79 = .ok (.aload_n 0, 1) := by decide +kernel
theorem dL_areLevelsRight_80 : decode cL_areLevelsRight 80 = .ok (.iconst 0, 1) := by decide +kernel
theorem dL_areLevelsRight_81 : decode cL_areLevelsRight 81 = .ok (.ldc 221, 2) := by decide +kernel
theorem dL_areLevelsRight_83 : decode cL_areLevelsRight 83 = .ok (.invokevirtual 83, 3) := by decide +kernel
theorem dL_areLevelsRight_86 : decode cL_areLevelsRight 86 = .ok (.ifCond .ne 7, 3) := by decide +kernel
theorem dL_areLevelsRight_89 : decode cL_areLevelsRight 89 = .ok (.iconst 1, 1) := by decide +kernel
theorem dL_areLevelsRight_90 : decode cL_areLevelsRight 90 = .ok (.goto 4, 3) := by decide +kernel
theorem dL_areLevelsRight_93 : decode cL_areLevelsRight 93 = .ok (.iconst 0, 1) := by decide +kernel
theorem dL_areLevelsRight_94 : decode cL_areLevelsRight 94 = .ok (.istore 7, 2) := by decide +kernel
theorem dL_areLevelsRight_96 : decode cL_areLevelsRight 96 = .ok (.iconst 0, 1) := by decide +kernel
theorem dL_areLevelsRight_97 : decode cL_areLevelsRight 97 = .ok (.istore 8, 2) := by decide +kernel
theorem dL_areLevelsRight_99 : decode cL_areLevelsRight 99 = .ok (.iload 8, 2) := by decide +kernel
theorem dL_areLevelsRight_101 : decode cL_areLevelsRight 101 = .ok (.iload 4, 2) := by decide +kernel
theorem dL_areLevelsRight_103 : decode cL_areLevelsRight 103 = .ok (.if_icmp .ge 70, 3) := by decide +kernel
theorem dL_areLevelsRight_106 : decode cL_areLevelsRight 106 = .ok (.iload 6, 2) := by decide +kernel
theorem dL_areLevelsRight_108 : decode cL_areLevelsRight 108 = .ok (.iload_n 3, 1) := by decide +kernel
theorem dL_areLevelsRight_109 : decode cL_areLevelsRight 109 = .ok (.aload_n 1, 1) := by decide +kernel
theorem dL_areLevelsRight_110 : decode cL_areLevelsRight 110 = .ok (.iload 8, 2) := by decide +kernel
theorem dL_areLevelsRight_112 : decode cL_areLevelsRight 112 = .ok (.iaload, 1) := by decide +kernel
theorem dL_areLevelsRight_113 : decode cL_areLevelsRight 113 = .ok (.if_icmp .lt 22, 3) := by decide +kernel
theorem dL_areLevelsRight_116 : decode cL_areLevelsRight 116 = .ok (.iload_n 3, 1) := by decide +kernel
theorem dL_areLevelsRight_117 : decode cL_areLevelsRight 117 = .ok (.aload_n 1, 1) := by decide +kernel
theorem dL_areLevelsRight_118 : decode cL_areLevelsRight 118 = .ok (.iload 8, 2) := by decide +kernel
theorem dL_areLevelsRight_120 : decode cL_areLevelsRight 120 = .ok (.iaload, 1) := by decide +kernel
theorem dL_areLevelsRight_121 : decode cL_areLevelsRight 121 = .ok (.aload_n 0, 1) := by decide +kernel
theorem dL_areLevelsRight_122 : decode cL_areLevelsRight 122 = .ok (.iload 8, 2) := by decide +kernel
theorem dL_areLevelsRight_124 : decode cL_areLevelsRight 124 = .ok (.invokevirtual 65, 3) := by decide +kernel
theorem dL_areLevelsRight_127 : decode cL_areLevelsRight 127 = .ok (.iadd, 1) := by decide +kernel
theorem dL_areLevelsRight_128 : decode cL_areLevelsRight 128 = .ok (.if_icmp .ge 7, 3) := by decide +kernel
theorem dL_areLevelsRight_131 : decode cL_areLevelsRight 131 = .ok (.iconst 1, 1) := by decide +kernel
theorem dL_areLevelsRight_132 : decode cL_areLevelsRight 132 = .ok (.goto 4, 3) := by decide +kernel
theorem dL_areLevelsRight_135 : decode cL_areLevelsRight 135 = .ok (.iconst 0, 1) := by decide +kernel
theorem dL_areLevelsRight_136 : decode cL_areLevelsRight 136 = .ok (.invokestatic 29, 3) := by decide +kernel
theorem dL_areLevelsRight_139 : decode cL_areLevelsRight 139 = .ok (.iadd, 1) := by decide +kernel
theorem dL_areLevelsRight_140 : decode cL_areLevelsRight 140 = .ok (.istore 6, 2) := by decide +kernel
theorem dL_areLevelsRight_142 : decode cL_areLevelsRight 142 = .ok (.iload 7, 2) := by decide +kernel
theorem dL_areLevelsRight_144 : decode cL_areLevelsRight 144 = .ok (.ifCond .eq 20, 3) := by decide +kernel
theorem dL_areLevelsRight_147 : decode cL_areLevelsRight 147 = .ok (.aload_n 0, 1) := by decide +kernel
theorem dL_areLevelsRight_148 : decode cL_areLevelsRight 148 = .ok (.iload 8, 2) := by decide +kernel
theorem dL_areLevelsRight_150 : decode cL_areLevelsRight 150 = .ok (.invokevirtual 80, 3) := by decide +kernel
theorem dL_areLevelsRight_153 : decode cL_areLevelsRight 153 = .ok (.aload_n 1, 1) := by decide +kernel
theorem dL_areLevelsRight_154 : decode cL_areLevelsRight 154 = .ok (.iload 8, 2) := by decide +kernel
theorem dL_areLevelsRight_156 : decode cL_areLevelsRight 156 = .ok (.iaload, 1) := by decide +kernel
theorem dL_areLevelsRight_157 : decode cL_areLevelsRight 157 = .ok (.if_icmp .ne 7, 3) := by decide +kernel
theorem dL_areLevelsRight_160 : decode cL_areLevelsRight 160 = .ok (.iconst 1, 1) := by decide +kernel
theorem dL_areLevelsRight_161 : decode cL_areLevelsRight 161 = .ok (.goto 4, 3) := by decide +kernel
theorem dL_areLevelsRight_164 : decode cL_areLevelsRight 164 = .ok (.iconst 0, 1) := by decide +kernel
theorem dL_areLevelsRight_165 : decode cL_areLevelsRight 165 = .ok (.istore 7, 2) := by decide +kernel
theorem dL_areLevelsRight_167 : decode cL_areLevelsRight 167 = .ok (.iinc 8 1, 3) := by decide +kernel
theorem dL_areLevelsRight_170 : decode cL_areLevelsRight 170 = .ok (.goto (-71), 3) := by decide +kernel
theorem dL_areLevelsRight_173 : decode cL_areLevelsRight 173 = .ok (.iconst 0, 1) := by decide +kernel
theorem dL_areLevelsRight_174 : decode cL_areLevelsRight 174 = .ok (.istore 8, 2) := by decide +kernel
theorem dL_areLevelsRight_176 : decode cL_areLevelsRight 176 = .ok (.iload 8, 2) := by decide +kernel
theorem dL_areLevelsRight_178 : decode cL_areLevelsRight 178 = .ok (.iconst 3, 1) := by decide +kernel
theorem dL_areLevelsRight_179 : decode cL_areLevelsRight 179 = .ok (.if_icmp .ge 236, 3) := by decide +kernel
theorem dL_areLevelsRight_182 : decode cL_areLevelsRight 182 = .ok (.iconst 0, 1) := by decide +kernel
theorem dL_areLevelsRight_183 : decode cL_areLevelsRight 183 = .ok (.istore 9, 2) := by decide +kernel
theorem dL_areLevelsRight_185 : decode cL_areLevelsRight 185 = .ok (.iconst 0, 1) := by decide +kernel
theorem dL_areLevelsRight_186 : decode cL_areLevelsRight 186 = .ok (.istore 10, 2) := by decide +kernel
theorem dL_areLevelsRight_188 : decode cL_areLevelsRight 188 = .ok (.ldc 222, 2) := by decide +kernel
theorem dL_areLevelsRight_190 : decode cL_areLevelsRight 190 = .ok (.astore 11, 2) := by decide +kernel
theorem dL_areLevelsRight_192 : decode cL_areLevelsRight 192 = .ok (.iconst 0, 1) := by decide +kernel
theorem dL_areLevelsRight_193 : decode cL_areLevelsRight 193 = .ok (.istore 12, 2) := by decide +kernel
theorem dL_areLevelsRight_195 : decode cL_areLevelsRight 195 = .ok (.iload 12, 2) := by decide +kernel
theorem dL_areLevelsRight_197 : decode cL_areLevelsRight 197 = .ok (.iload 5, 2) := by decide +kernel
theorem dL_areLevelsRight_199 : decode cL_areLevelsRight 199 = .ok (.if_icmp .ge 77, 3) := by decide +kernel
theorem dL_areLevelsRight_202 : decode cL_areLevelsRight 202 = .ok (.iload 9, 2) := by decide +kernel
theorem dL_areLevelsRight_204 : decode cL_areLevelsRight 204 = .ok (.aload_n 2, 1) := by decide +kernel
theorem dL_areLevelsRight_205 : decode cL_areLevelsRight 205 = .ok (.iload 8, 2) := by decide +kernel
theorem dL_areLevelsRight_207 : decode cL_areLevelsRight 207 = .ok (.aaload, 1) := by decide +kernel
theorem dL_areLevelsRight_208 : decode cL_areLevelsRight 208 = .ok (.iload 12, 2) := by decide +kernel
theorem dL_areLevelsRight_210 : decode cL_areLevelsRight 210 = .ok (.iaload, 1) := by decide +kernel
theorem dL_areLevelsRight_211 : decode cL_areLevelsRight 211 = .ok (.invokestatic 130, 3) := by decide +kernel
theorem dL_areLevelsRight_214 : decode cL_areLevelsRight 214 = .ok (.istore 9, 2) := by decide +kernel
theorem dL_areLevelsRight_216 : decode cL_areLevelsRight 216 = .ok (.iload 10, 2) := by decide +kernel
theorem dL_areLevelsRight_218 : decode cL_areLevelsRight 218 = .ok (.aload_n 2, 1) := by decide +kernel
theorem dL_areLevelsRight_219 : decode cL_areLevelsRight 219 = .ok (.iload 8, 2) := by decide +kernel
theorem dL_areLevelsRight_221 : decode cL_areLevelsRight 221 = .ok (.aaload, 1) := by decide +kernel
theorem dL_areLevelsRight_222 : decode cL_areLevelsRight 222 = .ok (.iload 12, 2) := by decide +kernel
theorem dL_areLevelsRight_224 : decode cL_areLevelsRight 224 = .ok (.iaload, 1) := by decide +kernel
theorem dL_areLevelsRight_225 : decode cL_areLevelsRight 225 = .ok (.iadd, 1) := by decide +kernel
theorem dL_areLevelsRight_226 : decode cL_areLevelsRight 226 = .ok (.istore 10, 2) := by decide +kernel
theorem dL_areLevelsRight_228 : decode cL_areLevelsRight 228 = .ok (.new 224, 3) := by decide +kernel
theorem dL_areLevelsRight_231 : decode cL_areLevelsRight 231 = .ok (.dup, 1) := by decide +kernel
theorem dL_areLevelsRight_232 : decode cL_areLevelsRight 232 = .ok (.invokespecial 226, 3) := by decide +kernel
theorem dL_areLevelsRight_235 : decode cL_areLevelsRight 235 = .ok (.aload 11, 2) := by decide +kernel
theorem dL_areLevelsRight_237 : decode cL_areLevelsRight 237 = .ok (.invokevirtual 227, 3) := by decide +kernel
theorem dL_areLevelsRight_240 : decode cL_areLevelsRight 240 = .ok (.iload 12, 2) := by decide +kernel
theorem dL_areLevelsRight_242 : decode cL_areLevelsRight 242 = .ok (.ifCond .ne 8, 3) := by decide +kernel
theorem dL_areLevelsRight_245 : decode cL_areLevelsRight 245 = .ok (.ldc 222, 2) := by decide +kernel
theorem dL_areLevelsRight_247 : decode cL_areLevelsRight 247 = .ok (.goto 5, 3) := by decide +kernel
theorem dL_areLevelsRight_250 : decode cL_areLevelsRight 250 = .ok (.ldc 231, 2) := by decide +kernel
theorem dL_areLevelsRight_252 : decode cL_areLevelsRight 252 = .ok (.invokevirtual 227, 3) := by decide +kernel
theorem dL_areLevelsRight_255 : decode cL_areLevelsRight 255 = .ok (.aload_n 2, 1) := by decide +kernel
theorem dL_areLevelsRight_256 : decode cL_areLevelsRight 256 = .ok (.iload 8, 2) := by decide +kernel
theorem dL_areLevelsRight_258 : decode cL_areLevelsRight 258 = .ok (.aaload, 1) := by decide +kernel
theorem dL_areLevelsRight_259 : decode cL_areLevelsRight 259 = .ok (.iload 12, 2) := by decide +kernel
theorem dL_areLevelsRight_261 : decode cL_areLevelsRight 261 = .ok (.iaload, 1) := by decide +kernel
theorem dL_areLevelsRight_262 : decode cL_areLevelsRight 262 = .ok (.invokevirtual 233, 3) := by decide +kernel
theorem dL_areLevelsRight_265 : decode cL_areLevelsRight 265 = .ok (.invokevirtual 236, 3) := by decide +kernel
theorem dL_areLevelsRight_268 : decode cL_areLevelsRight 268 = .ok (.astore 11, 2) := by decide +kernel
theorem dL_areLevelsRight_270 : decode cL_areLevelsRight 270 = .ok (.iinc 12 1, 3) := by decide +kernel
theorem dL_areLevelsRight_273 : decode cL_areLevelsRight 273 = .ok (.goto (-78), 3) := by decide +kernel
theorem dL_areLevelsRight_276 : decode cL_areLevelsRight 276 = .ok (.iload 7, 2) := by decide +kernel
theorem dL_areLevelsRight_278 : decode cL_areLevelsRight 278 = .ok (.ifCond .eq 87, 3) := by decide +kernel
theorem dL_areLevelsRight_281 : decode cL_areLevelsRight 281 = .ok (.aload_n 0, 1) := by decide +kernel
theorem dL_areLevelsRight_282 : decode cL_areLevelsRight 282 = .ok (.iload 8, 2) := by decide +kernel
theorem dL_areLevelsRight_284 : decode cL_areLevelsRight 284 = .ok (.iload_n 3, 1) := by decide +kernel
theorem dL_areLevelsRight_285 : decode cL_areLevelsRight 285 = .ok (.invokevirtual 83, 3) := by decide +kernel
theorem dL_areLevelsRight_288 : decode cL_areLevelsRight 288 = .ok (.aload_n 2, 1) := by decide +kernel
theorem dL_areLevelsRight_289 : decode cL_areLevelsRight 289 = .ok (.iload 8, 2) := by decide +kernel
theorem dL_areLevelsRight_291 : decode cL_areLevelsRight 291 = .ok (.aaload, 1) := by decide +kernel
theorem dL_areLevelsRight_292 : decode cL_areLevelsRight 292 = .ok (.iload_n 3, 1) := by decide +kernel
theorem dL_areLevelsRight_293 : decode cL_areLevelsRight 293 = .ok (.iaload, 1) := by decide +kernel
theorem dL_areLevelsRight_294 : decode cL_areLevelsRight 294 = .ok (.if_icmp .ne 71, 3) := by decide +kernel
theorem dL_areLevelsRight_297 : decode cL_areLevelsRight 297 = .ok (.aload_n 0, 1) := by decide +kernel
theorem dL_areLevelsRight_298 : decode cL_areLevelsRight 298 = .ok (.iload 8, 2) := by decide +kernel
theorem dL_areLevelsRight_300 : decode cL_areLevelsRight 300 = .ok (.iload_n 3, 1) := by decide +kernel
theorem dL_areLevelsRight_301 : decode cL_areLevelsRight 301 = .ok (.invokevirtual 240, 3) := by decide +kernel
theorem dL_areLevelsRight_304 : decode cL_areLevelsRight 304 = .ok (.aload_n 2, 1) := by decide +kernel
theorem dL_areLevelsRight_305 : decode cL_areLevelsRight 305 = .ok (.iload 8, 2) := by decide +kernel
theorem dL_areLevelsRight_307 : decode cL_areLevelsRight 307 = .ok (.aaload, 1) := by decide +kernel
theorem dL_areLevelsRight_308 : decode cL_areLevelsRight 308 = .ok (.iload_n 3, 1) := by decide +kernel
theorem dL_areLevelsRight_309 : decode cL_areLevelsRight 309 = .ok (.iaload, 1) := by decide +kernel
theorem dL_areLevelsRight_310 : decode cL_areLevelsRight 310 = .ok (.if_icmp .ne 55, 3) := by decide +kernel
theorem dL_areLevelsRight_313 : decode cL_areLevelsRight 313 = .ok (.aload_n 0, 1) := by decide +kernel
theorem dL_areLevelsRight_314 : decode cL_areLevelsRight 314 = .ok (.iload 8, 2) := by decide +kernel
theorem dL_areLevelsRight_316 : decode cL_areLevelsRight 316 = .ok (.invokevirtual 243, 3) := by decide +kernel
theorem dL_areLevelsRight_319 : decode cL_areLevelsRight 319 = .ok (.iload 9, 2) := by decide +kernel
theorem dL_areLevelsRight_321 : decode cL_areLevelsRight 321 = .ok (.if_icmp .ne 44, 3) := by decide +kernel
theorem dL_areLevelsRight_324 : decode cL_areLevelsRight 324 = .ok (.aload_n 0, 1) := by decide +kernel
theorem dL_areLevelsRight_325 : decode cL_areLevelsRight 325 = .ok (.iload 8, 2) := by decide +kernel
theorem dL_areLevelsRight_327 : decode cL_areLevelsRight 327 = .ok (.invokevirtual 246, 3) := by decide +kernel
theorem dL_areLevelsRight_330 : decode cL_areLevelsRight 330 = .ok (.iload 10, 2) := by decide +kernel
theorem dL_areLevelsRight_332 : decode cL_areLevelsRight 332 = .ok (.if_icmp .ne 33, 3) := by decide +kernel
theorem dL_areLevelsRight_335 : decode cL_areLevelsRight 335 = .ok (.aload_n 0, 1) := by decide +kernel
theorem dL_areLevelsRight_336 : decode cL_areLevelsRight 336 = .ok (.iload 8, 2) := by decide +kernel
theorem dL_areLevelsRight_338 : decode cL_areLevelsRight 338 = .ok (.invokevirtual 249, 3) := by decide +kernel
theorem dL_areLevelsRight_341 : decode cL_areLevelsRight 341 = .ok (.iload 10, 2) := by decide +kernel
theorem dL_areLevelsRight_343 : decode cL_areLevelsRight 343 = .ok (.if_icmp .ne 22, 3) := by decide +kernel
theorem dL_areLevelsRight_346 : decode cL_areLevelsRight 346 = .ok (.aload_n 0, 1) := by decide +kernel
theorem dL_areLevelsRight_347 : decode cL_areLevelsRight 347 = .ok (.aload_n 0, 1) := by decide +kernel
theorem dL_areLevelsRight_348 : decode cL_areLevelsRight 348 = .ok (.iload 8, 2) := by decide +kernel
theorem dL_areLevelsRight_350 : decode cL_areLevelsRight 350 = .ok (.invokevirtual 252, 3) := by decide +kernel
theorem dL_areLevelsRight_353 : decode cL_areLevelsRight 353 = .ok (.aload 11, 2) := by decide +kernel
theorem dL_areLevelsRight_355 : decode cL_areLevelsRight 355 = .ok (.invokestatic 255, 3) := by decide +kernel
theorem dL_areLevelsRight_358 : decode cL_areLevelsRight 358 = .ok (.ifCond .eq 7, 3) := by decide +kernel
theorem dL_areLevelsRight_361 : decode cL_areLevelsRight 361 = .ok (.iconst 1, 1) := by decide +kernel
theorem dL_areLevelsRight_362 : decode cL_areLevelsRight 362 = .ok (.goto 4, 3) := by decide +kernel
theorem dL_areLevelsRight_365 : decode cL_areLevelsRight 365 = .ok (.iconst 0, 1) := by decide +kernel
theorem dL_areLevelsRight_366 : decode cL_areLevelsRight 366 = .ok (.istore 7, 2) := by decide +kernel
theorem dL_areLevelsRight_368 : decode cL_areLevelsRight 368 = .ok (.iload 7, 2) := by decide +kernel
theorem dL_areLevelsRight_370 : decode cL_areLevelsRight 370 = .ok (.ifCond .eq 36, 3) := by decide +kernel
theorem dL_areLevelsRight_373 : decode cL_areLevelsRight 373 = .ok (.iload 4, 2) := by decide +kernel
theorem dL_areLevelsRight_375 : decode cL_areLevelsRight 375 = .ok (.ifCond .eq 27, 3) := by decide +kernel
theorem dL_areLevelsRight_378 : decode cL_areLevelsRight 378 = .ok (.aload_n 0, 1) := by decide +kernel
theorem dL_areLevelsRight_379 : decode cL_areLevelsRight 379 = .ok (.iload 8, 2) := by decide +kernel
theorem dL_areLevelsRight_381 : decode cL_areLevelsRight 381 = .ok (.invokevirtual 259, 3) := by decide +kernel
theorem dL_areLevelsRight_384 : decode cL_areLevelsRight 384 = .ok (.iload 10, 2) := by decide +kernel
theorem dL_areLevelsRight_386 : decode cL_areLevelsRight 386 = .ok (.i2f, 1) := by decide +kernel
theorem dL_areLevelsRight_387 : decode cL_areLevelsRight 387 = .ok (.aload_n 0, 1) := by decide +kernel
theorem dL_areLevelsRight_388 : decode cL_areLevelsRight 388 = .ok (.iload 8, 2) := by decide +kernel
theorem dL_areLevelsRight_390 : decode cL_areLevelsRight 390 = .ok (.invokevirtual 135, 3) := by decide +kernel
theorem dL_areLevelsRight_393 : decode cL_areLevelsRight 393 = .ok (.iload 5, 2) := by decide +kernel
theorem dL_areLevelsRight_395 : decode cL_areLevelsRight 395 = .ok (.imul, 1) := by decide +kernel
theorem dL_areLevelsRight_396 : decode cL_areLevelsRight 396 = .ok (.i2f, 1) := by decide +kernel
theorem dL_areLevelsRight_397 : decode cL_areLevelsRight 397 = .ok (.fdiv, 1) := by decide +kernel
theorem dL_areLevelsRight_398 : decode cL_areLevelsRight 398 = .ok (.fcmp .l, 1) := by decide +kernel
theorem dL_areLevelsRight_399 : decode cL_areLevelsRight 399 = .ok (.ifCond .ne 7, 3) := by decide +kernel
theorem dL_areLevelsRight_402 : decode cL_areLevelsRight 402 = .ok (.iconst 1, 1) := by decide +kernel
theorem dL_areLevelsRight_403 : decode cL_areLevelsRight 403 = .ok (.goto 4, 3) := by decide +kernel
theorem dL_areLevelsRight_406 : decode cL_areLevelsRight 406 = .ok (.iconst 0, 1) := by decide +kernel
theorem dL_areLevelsRight_407 : decode cL_areLevelsRight 407 = .ok (.istore 7, 2) := by decide +kernel
theorem dL_areLevelsRight_409 : decode cL_areLevelsRight 409 = .ok (.iinc 8 1, 3) := by decide +kernel
theorem dL_areLevelsRight_412 : decode cL_areLevelsRight 412 = .ok (.goto (-236), 3) := by decide +kernel
theorem dL_areLevelsRight_415 : decode cL_areLevelsRight 415 = .ok (.iconst 0, 1) := by decide +kernel
theorem dL_areLevelsRight_416 : decode cL_areLevelsRight 416 = .ok (.istore 8, 2) := by decide +kernel
theorem dL_areLevelsRight_418 : decode cL_areLevelsRight 418 = .ok (.iload 8, 2) := by decide +kernel
theorem dL_areLevelsRight_420 : decode cL_areLevelsRight 420 = .ok (.iconst 1, 1) := by decide +kernel
theorem dL_areLevelsRight_421 : decode cL_areLevelsRight 421 = .ok (.iadd, 1) := by decide +kernel
theorem dL_areLevelsRight_422 : decode cL_areLevelsRight 422 = .ok (.iload 4, 2) := by decide +kernel
theorem dL_areLevelsRight_424 : decode cL_areLevelsRight 424 = .ok (.if_icmp .ge 92, 3) := by decide +kernel
theorem dL_areLevelsRight_427 : decode cL_areLevelsRight 427 = .ok (.aload_n 0, 1) := by decide +kernel
theorem dL_areLevelsRight_428 : decode cL_areLevelsRight 428 = .ok (.iload 8, 2) := by decide +kernel
theorem dL_areLevelsRight_430 : decode cL_areLevelsRight 430 = .ok (.invokevirtual 95, 3) := by decide +kernel
theorem dL_areLevelsRight_433 : decode cL_areLevelsRight 433 = .ok (.istore 9, 2) := by decide +kernel
theorem dL_areLevelsRight_435 : decode cL_areLevelsRight 435 = .ok (.aload_n 0, 1) := by decide +kernel
theorem dL_areLevelsRight_436 : decode cL_areLevelsRight 436 = .ok (.iload 8, 2) := by decide +kernel
theorem dL_areLevelsRight_438 : decode cL_areLevelsRight 438 = .ok (.iconst 1, 1) := by decide +kernel
theorem dL_areLevelsRight_439 : decode cL_areLevelsRight 439 = .ok (.iadd, 1) := by decide +kernel
theorem dL_areLevelsRight_440 : decode cL_areLevelsRight 440 = .ok (.invokevirtual 95, 3) := by decide +kernel
theorem dL_areLevelsRight_443 : decode cL_areLevelsRight 443 = .ok (.istore 10, 2) := by decide +kernel
theorem dL_areLevelsRight_445 : decode cL_areLevelsRight 445 = .ok (.aload_n 1, 1) := by decide +kernel
theorem dL_areLevelsRight_446 : decode cL_areLevelsRight 446 = .ok (.iload 10, 2) := by decide +kernel
theorem dL_areLevelsRight_448 : decode cL_areLevelsRight 448 = .ok (.iaload, 1) := by decide +kernel
theorem dL_areLevelsRight_449 : decode cL_areLevelsRight 449 = .ok (.aload_n 1, 1) := by decide +kernel
theorem dL_areLevelsRight_450 : decode cL_areLevelsRight 450 = .ok (.iload 9, 2) := by decide +kernel
theorem dL_areLevelsRight_452 : decode cL_areLevelsRight 452 = .ok (.iaload, 1) := by decide +kernel
theorem dL_areLevelsRight_453 : decode cL_areLevelsRight 453 = .ok (.isub, 1) := by decide +kernel
theorem dL_areLevelsRight_454 : decode cL_areLevelsRight 454 = .ok (.istore 11, 2) := by decide +kernel
theorem dL_areLevelsRight_456 : decode cL_areLevelsRight 456 = .ok (.aload_n 0, 1) := by decide +kernel
theorem dL_areLevelsRight_457 : decode cL_areLevelsRight 457 = .ok (.iload 9, 2) := by decide +kernel
theorem dL_areLevelsRight_459 : decode cL_areLevelsRight 459 = .ok (.invokevirtual 145, 3) := by decide +kernel
theorem dL_areLevelsRight_462 : decode cL_areLevelsRight 462 = .ok (.aload_n 0, 1) := by decide +kernel
theorem dL_areLevelsRight_463 : decode cL_areLevelsRight 463 = .ok (.iload 10, 2) := by decide +kernel
theorem dL_areLevelsRight_465 : decode cL_areLevelsRight 465 = .ok (.invokevirtual 145, 3) := by decide +kernel
theorem dL_areLevelsRight_468 : decode cL_areLevelsRight 468 = .ok (.isub, 1) := by decide +kernel
theorem dL_areLevelsRight_469 : decode cL_areLevelsRight 469 = .ok (.istore 12, 2) := by decide +kernel
theorem dL_areLevelsRight_471 : decode cL_areLevelsRight 471 = .ok (.iload 7, 2) := by decide +kernel
theorem dL_areLevelsRight_473 : decode cL_areLevelsRight 473 = .ok (.ifCond .eq 34, 3) := by decide +kernel
theorem dL_areLevelsRight_476 : decode cL_areLevelsRight 476 = .ok (.iload 11, 2) := by decide +kernel
theorem dL_areLevelsRight_478 : decode cL_areLevelsRight 478 = .ok (.ifCond .gt 25, 3) := by decide +kernel
theorem dL_areLevelsRight_481 : decode cL_areLevelsRight 481 = .ok (.iload 11, 2) := by decide +kernel
theorem dL_areLevelsRight_483 : decode cL_areLevelsRight 483 = .ok (.ifCond .ne 24, 3) := by decide +kernel
theorem dL_areLevelsRight_486 : decode cL_areLevelsRight 486 = .ok (.iload 12, 2) := by decide +kernel
theorem dL_areLevelsRight_488 : decode cL_areLevelsRight 488 = .ok (.ifCond .gt 15, 3) := by decide +kernel
theorem dL_areLevelsRight_491 : decode cL_areLevelsRight 491 = .ok (.iload 12, 2) := by decide +kernel
theorem dL_areLevelsRight_493 : decode cL_areLevelsRight 493 = .ok (.ifCond .ne 14, 3) := by decide +kernel
theorem dL_areLevelsRight_496 : decode cL_areLevelsRight 496 = .ok (.iload 9, 2) := by decide +kernel
theorem dL_areLevelsRight_498 : decode cL_areLevelsRight 498 = .ok (.iload 10, 2) := by decide +kernel
theorem dL_areLevelsRight_500 : decode cL_areLevelsRight 500 = .ok (.if_icmp .ge 7, 3) := by decide +kernel
theorem dL_areLevelsRight_503 : decode cL_areLevelsRight 503 = .ok (.iconst 1, 1) := by decide +kernel
theorem dL_areLevelsRight_504 : decode cL_areLevelsRight 504 = .ok (.goto 4, 3) := by decide +kernel
theorem dL_areLevelsRight_507 : decode cL_areLevelsRight 507 = .ok (.iconst 0, 1) := by decide +kernel
theorem dL_areLevelsRight_508 : decode cL_areLevelsRight 508 = .ok (.istore 7, 2) := by decide +kernel
theorem dL_areLevelsRight_510 : decode cL_areLevelsRight 510 = .ok (.iinc 8 1, 3) := by decide +kernel
theorem dL_areLevelsRight_513 : decode cL_areLevelsRight 513 = .ok (.goto (-95), 3) := by decide +kernel
theorem dL_areLevelsRight_516 : decode cL_areLevelsRight 516 = .ok (.iload 7, 2) := by decide +kernel
theorem dL_areLevelsRight_518 : decode cL_areLevelsRight 518 = .ok (.ifCond .eq 39, 3) := by decide +kernel
theorem dL_areLevelsRight_521 : decode cL_areLevelsRight 521 = .ok (.aload_n 0, 1) := by decide +kernel
theorem dL_areLevelsRight_522 : decode cL_areLevelsRight 522 = .ok (.iload_n 3, 1) := by decide +kernel
theorem dL_areLevelsRight_523 : decode cL_areLevelsRight 523 = .ok (.invokevirtual 111, 3) := by decide +kernel
theorem dL_areLevelsRight_526 : decode cL_areLevelsRight 526 = .ok (.iload 6, 2) := by decide +kernel
theorem dL_areLevelsRight_528 : decode cL_areLevelsRight 528 = .ok (.if_icmp .ne 29, 3) := by decide +kernel
theorem dL_areLevelsRight_531 : decode cL_areLevelsRight 531 = .ok (.aload_n 0, 1) := by decide +kernel
theorem dL_areLevelsRight_532 : decode cL_areLevelsRight 532 = .ok (.bipush 10, 2) := by decide +kernel
theorem dL_areLevelsRight_534 : decode cL_areLevelsRight 534 = .ok (.iload 4, 2) := by decide +kernel
theorem dL_areLevelsRight_536 : decode cL_areLevelsRight 536 = .ok (.iconst 0, 1) := by decide +kernel
theorem dL_areLevelsRight_537 : decode cL_areLevelsRight 537 = .ok (.invokestatic 151, 3) := by decide +kernel
theorem dL_areLevelsRight_540 : decode cL_areLevelsRight 540 = .ok (.sipush (-2004), 3) := by decide +kernel
theorem dL_areLevelsRight_543 : decode cL_areLevelsRight 543 = .ok (.if_icmp .ne 14, 3) := by decide +kernel
theorem dL_areLevelsRight_546 : decode cL_areLevelsRight 546 = .ok (.aload_n 0, 1) := by decide +kernel
theorem dL_areLevelsRight_547 : decode cL_areLevelsRight 547 = .ok (.invokevirtual 263, 3) := by decide +kernel
theorem dL_areLevelsRight_550 : decode cL_areLevelsRight 550 = .ok (.ifCond .eq 7, 3) := by decide +kernel
theorem dL_areLevelsRight_553 : decode cL_areLevelsRight 553 = .ok (.iconst 1, 1) := by decide +kernel
theorem dL_areLevelsRight_554 : decode cL_areLevelsRight 554 = .ok (.goto 4, 3) := by decide +kernel
theorem dL_areLevelsRight_557 : decode cL_areLevelsRight 557 = .ok (.iconst 0, 1) := by decide +kernel
theorem dL_areLevelsRight_558 : decode cL_areLevelsRight 558 = .ok (.ireturn, 1) := by decide +kernel
theorem dL_isLine_0 : decode cL_isLine 0 = .ok (.iload_n 1, 1) := by decide +kernel
theorem dL_isLine_1 : decode cL_isLine 1 = .ok (.aload_n 2, 1) := by decide +kernel
theorem dL_isLine_2 : decode cL_isLine 2 = .ok (.invokevirtual 266, 3) := by decide +kernel
theorem dL_isLine_5 : decode cL_isLine 5 = .ok (.if_icmp .ne 7, 3) := by decide +kernel
theorem dL_isLine_8 : decode cL_isLine 8 = .ok (.iconst 1, 1) := by decide +kernel
theorem dL_isLine_9 : decode cL_isLine 9 = .ok (.goto 4, 3) := by decide +kernel
theorem dL_isLine_12 : decode cL_isLine 12 = .ok (.iconst 0, 1) := by decide +kernel
theorem dL_isLine_13 : decode cL_isLine 13 = .ok (.istore_n 3, 1) := by decide +kernel
theorem dL_isLine_14 : decode cL_isLine 14 = .ok (.iconst 0, 1) := by decide +kernel
theorem dL_isLine_15 : decode cL_isLine 15 = .ok (.istore 4, 2) := by decide +kernel
theorem dL_isLine_17 : decode cL_isLine 17 = .ok (.iload 4, 2) := by decide +kernel
theorem dL_isLine_19 : decode cL_isLine 19 = .ok (.aload_n 2, 1) := by decide +kernel
theorem dL_isLine_20 : decode cL_isLine 20 = .ok (.invokevirtual 266, 3) := by decide +kernel
theorem dL_isLine_23 : decode cL_isLine 23 = .ok (.if_icmp .ge 34, 3) := by decide +kernel
theorem dL_isLine_26 : decode cL_isLine 26 = .ok (.iload_n 3, 1) := by decide +kernel
theorem dL_isLine_27 : decode cL_isLine 27 = .ok (.ifCond .eq 30, 3) := by decide +kernel
theorem dL_isLine_30 : decode cL_isLine 30 = .ok (.aload_n 0, 1) := by decide +kernel
theorem dL_isLine_31 : decode cL_isLine 31 = .ok (.iload 4, 2) := by decide +kernel
theorem dL_isLine_33 : decode cL_isLine 33 = .ok (.invokevirtual 271, 3) := by decide +kernel
theorem dL_isLine_36 : decode cL_isLine 36 = .ok (.aload_n 2, 1) := by decide +kernel
theorem dL_isLine_37 : decode cL_isLine 37 = .ok (.iload 4, 2) := by decide +kernel
theorem dL_isLine_39 : decode cL_isLine 39 = .ok (.invokevirtual 275, 3) := by decide +kernel
theorem dL_isLine_42 : decode cL_isLine 42 = .ok (.if_icmp .ne 7, 3) := by decide +kernel
theorem dL_isLine_45 : decode cL_isLine 45 = .ok (.iconst 1, 1) := by decide +kernel
theorem dL_isLine_46 : decode cL_isLine 46 = .ok (.goto 4, 3) := by decide +kernel
theorem dL_isLine_49 : decode cL_isLine 49 = .ok (.iconst 0, 1) := by decide +kernel
theorem dL_isLine_50 : decode cL_isLine 50 = .ok (.istore_n 3, 1) := by decide +kernel
theorem dL_isLine_51 : decode cL_isLine 51 = .ok (.iinc 4 1, 3) := by decide +kernel
theorem dL_isLine_54 : decode cL_isLine 54 = .ok (.goto (-37), 3) := by decide +kernel
theorem dL_isLine_57 : decode cL_isLine 57 = .ok (.iload_n 3, 1) := by decide +kernel
theorem dL_isLine_58 : decode cL_isLine 58 = .ok (.ireturn, 1) := by decide +kernel
theorem dL_areTasksTold_0 : decode cL_areTasksTold 0 = .ok (.iconst 0, 1) := by decide +kernel
theorem dL_areTasksTold_1 : decode cL_areTasksTold 1 = .ok (.istore_n 2, 1) := by decide +kernel
theorem dL_areTasksTold_2 : decode cL_areTasksTold 2 = .ok (.aload_n 0, 1) := by decide +kernel
theorem dL_areTasksTold_3 : decode cL_areTasksTold 3 = .ok (.bipush 7, 2) := by decide +kernel
theorem dL_areTasksTold_5 : decode cL_areTasksTold 5 = .ok (.aload_n 1, 1) := by decide +kernel
theorem dL_areTasksTold_6 : decode cL_areTasksTold 6 = .ok (.arraylength, 1) := by decide +kernel
theorem dL_areTasksTold_7 : decode cL_areTasksTold 7 = .ok (.iconst 0, 1) := by decide +kernel
theorem dL_areTasksTold_8 : decode cL_areTasksTold 8 = .ok (.invokestatic 151, 3) := by decide +kernel
theorem dL_areTasksTold_11 : decode cL_areTasksTold 11 = .ok (.sipush (-2002), 3) := by decide +kernel
theorem dL_areTasksTold_14 : decode cL_areTasksTold 14 = .ok (.if_icmp .ne 7, 3) := by decide +kernel
theorem dL_areTasksTold_17 : decode cL_areTasksTold 17 = .ok (.iconst 1, 1) := by decide +kernel
theorem dL_areTasksTold_18 : decode cL_areTasksTold 18 = .ok (.goto 4, 3) := by decide +kernel
theorem dL_areTasksTold_21 : decode cL_areTasksTold 21 = .ok (.iconst 0, 1) := by decide +kernel
theorem dL_areTasksTold_22 : decode cL_areTasksTold 22 = .ok (.istore_n 3, 1) := by decide +kernel
theorem dL_areTasksTold_23 : decode cL_areTasksTold 23 = .ok (.iconst 0, 1) := by decide +kernel
theorem dL_areTasksTold_24 : decode cL_areTasksTold 24 = .ok (.istore 4, 2) := by decide +kernel
theorem dL_areTasksTold_26 : decode cL_areTasksTold 26 = .ok (.iload 4, 2) := by decide +kernel
theorem dL_areTasksTold_28 : decode cL_areTasksTold 28 = .ok (.aload_n 1, 1) := by decide +kernel
theorem dL_areTasksTold_29 : decode cL_areTasksTold 29 = .ok (.arraylength, 1) := by decide +kernel
theorem dL_areTasksTold_30 : decode cL_areTasksTold 30 = .ok (.if_icmp .ge 284, 3) := by decide +kernel
theorem dL_areTasksTold_33 : decode cL_areTasksTold 33 = .ok (.aload_n 0, 1) := by decide +kernel
theorem dL_areTasksTold_34 : decode cL_areTasksTold 34 = .ok (.bipush 7, 2) := by decide +kernel
theorem dL_areTasksTold_36 : decode cL_areTasksTold 36 = .ok (.iload 4, 2) := by decide +kernel
theorem dL_areTasksTold_38 : decode cL_areTasksTold 38 = .ok (.iconst 0, 1) := by decide +kernel
theorem dL_areTasksTold_39 : decode cL_areTasksTold 39 = .ok (.invokestatic 151, 3) := by decide +kernel
theorem dL_areTasksTold_42 : decode cL_areTasksTold 42 = .ok (.istore 5, 2) := by decide +kernel
theorem dL_areTasksTold_44 : decode cL_areTasksTold 44 = .ok (.iload_n 2, 1) := by decide +kernel
theorem dL_areTasksTold_45 : decode cL_areTasksTold 45 = .ok (.iload 5, 2) := by decide +kernel
theorem dL_areTasksTold_47 : decode cL_areTasksTold 47 = .ok (.ifCond .ge 7, 3) := by decide +kernel
theorem dL_areTasksTold_50 : decode cL_areTasksTold 50 = .ok (.iconst 0, 1) := by decide +kernel
theorem dL_areTasksTold_51 : decode cL_areTasksTold 51 = .ok (.goto 13, 3) := by decide +kernel
theorem dL_areTasksTold_54 : decode cL_areTasksTold 54 = .ok (.aload_n 1, 1) := by decide +kernel
theorem dL_areTasksTold_55 : decode cL_areTasksTold 55 = .ok (.iload 4, 2) := by decide +kernel
theorem dL_areTasksTold_57 : decode cL_areTasksTold 57 = .ok (.iaload, 1) := by decide +kernel
theorem dL_areTasksTold_58 : decode cL_areTasksTold 58 = .ok (.iload 5, 2) := by decide +kernel
theorem dL_areTasksTold_60 : decode cL_areTasksTold 60 = .ok (.isub, 1) := by decide +kernel
theorem dL_areTasksTold_61 : decode cL_areTasksTold 61 = .ok (.invokestatic 278, 3) := by decide +kernel
theorem dL_areTasksTold_64 : decode cL_areTasksTold 64 = .ok (.iadd, 1) := by decide +kernel
theorem dL_areTasksTold_65 : decode cL_areTasksTold 65 = .ok (.istore_n 2, 1) := by decide +kernel
theorem dL_areTasksTold_66 : decode cL_areTasksTold 66 = .ok (.new 224, 3) := by decide +kernel
theorem dL_areTasksTold_69 : decode cL_areTasksTold 69 = .ok (.dup, 1) := by decide +kernel
theorem dL_areTasksTold_70 : decode cL_areTasksTold 70 = .ok (.invokespecial 226, 3) := by decide +kernel
theorem dL_areTasksTold_73 : decode cL_areTasksTold 73 = .ok (.iload 4, 2) := by decide +kernel
theorem dL_areTasksTold_75 : decode cL_areTasksTold 75 = .ok (.invokevirtual 233, 3) := by decide +kernel
theorem dL_areTasksTold_78 : decode cL_areTasksTold 78 = .ok (.ldc_w 281, 3) := by decide +kernel
theorem dL_areTasksTold_81 : decode cL_areTasksTold 81 = .ok (.invokevirtual 227, 3) := by decide +kernel
theorem dL_areTasksTold_84 : decode cL_areTasksTold 84 = .ok (.aload_n 0, 1) := by decide +kernel
theorem dL_areTasksTold_85 : decode cL_areTasksTold 85 = .ok (.iload 4, 2) := by decide +kernel
theorem dL_areTasksTold_87 : decode cL_areTasksTold 87 = .ok (.invokevirtual 65, 3) := by decide +kernel
theorem dL_areTasksTold_90 : decode cL_areTasksTold 90 = .ok (.invokevirtual 233, 3) := by decide +kernel
theorem dL_areTasksTold_93 : decode cL_areTasksTold 93 = .ok (.ldc_w 283, 3) := by decide +kernel
theorem dL_areTasksTold_96 : decode cL_areTasksTold 96 = .ok (.invokevirtual 227, 3) := by decide +kernel
theorem dL_areTasksTold_99 : decode cL_areTasksTold 99 = .ok (.aload_n 0, 1) := by decide +kernel
theorem dL_areTasksTold_100 : decode cL_areTasksTold 100 = .ok (.iload 4, 2) := by decide +kernel
theorem dL_areTasksTold_102 : decode cL_areTasksTold 102 = .ok (.invokevirtual 145, 3) := by decide +kernel
theorem dL_areTasksTold_105 : decode cL_areTasksTold 105 = .ok (.invokevirtual 233, 3) := by decide +kernel
theorem dL_areTasksTold_108 : decode cL_areTasksTold 108 = .ok (.ldc_w 285, 3) := by decide +kernel
theorem dL_areTasksTold_111 : decode cL_areTasksTold 111 = .ok (.invokevirtual 227, 3) := by decide +kernel
theorem dL_areTasksTold_114 : decode cL_areTasksTold 114 = .ok (.aload_n 0, 1) := by decide +kernel
theorem dL_areTasksTold_115 : decode cL_areTasksTold 115 = .ok (.iload 4, 2) := by decide +kernel
theorem dL_areTasksTold_117 : decode cL_areTasksTold 117 = .ok (.invokevirtual 142, 3) := by decide +kernel
theorem dL_areTasksTold_120 : decode cL_areTasksTold 120 = .ok (.invokevirtual 233, 3) := by decide +kernel
theorem dL_areTasksTold_123 : decode cL_areTasksTold 123 = .ok (.ldc_w 287, 3) := by decide +kernel
theorem dL_areTasksTold_126 : decode cL_areTasksTold 126 = .ok (.invokevirtual 227, 3) := by decide +kernel
theorem dL_areTasksTold_129 : decode cL_areTasksTold 129 = .ok (.aload_n 1, 1) := by decide +kernel
theorem dL_areTasksTold_130 : decode cL_areTasksTold 130 = .ok (.iload 4, 2) := by decide +kernel
theorem dL_areTasksTold_132 : decode cL_areTasksTold 132 = .ok (.iaload, 1) := by decide +kernel
theorem dL_areTasksTold_133 : decode cL_areTasksTold 133 = .ok (.invokevirtual 233, 3) := by decide +kernel
theorem dL_areTasksTold_136 : decode cL_areTasksTold 136 = .ok (.aload_n 0, 1) := by decide +kernel
theorem dL_areTasksTold_137 : decode cL_areTasksTold 137 = .ok (.iload 4, 2) := by decide +kernel
theorem dL_areTasksTold_139 : decode cL_areTasksTold 139 = .ok (.invokevirtual 201, 3) := by decide +kernel
theorem dL_areTasksTold_142 : decode cL_areTasksTold 142 = .ok (.ifCond .eq 9, 3) := by decide +kernel
theorem dL_areTasksTold_145 : decode cL_areTasksTold 145 = .ok (.ldc_w 289, 3) := by decide +kernel
theorem dL_areTasksTold_148 : decode cL_areTasksTold 148 = .ok (.goto 5, 3) := by decide +kernel
theorem dL_areTasksTold_151 : decode cL_areTasksTold 151 = .ok (.ldc 222, 2) := by decide +kernel
theorem dL_areTasksTold_153 : decode cL_areTasksTold 153 = .ok (.invokevirtual 227, 3) := by decide +kernel
theorem dL_areTasksTold_156 : decode cL_areTasksTold 156 = .ok (.invokevirtual 236, 3) := by decide +kernel
theorem dL_areTasksTold_159 : decode cL_areTasksTold 159 = .ok (.astore 6, 2) := by decide +kernel
theorem dL_areTasksTold_161 : decode cL_areTasksTold 161 = .ok (.iconst 0, 1) := by decide +kernel
theorem dL_areTasksTold_162 : decode cL_areTasksTold 162 = .ok (.istore 7, 2) := by decide +kernel
theorem dL_areTasksTold_164 : decode cL_areTasksTold 164 = .ok (.iload 7, 2) := by decide +kernel
theorem dL_areTasksTold_166 : decode cL_areTasksTold 166 = .ok (.aload_n 1, 1) := by decide +kernel
theorem dL_areTasksTold_167 : decode cL_areTasksTold 167 = .ok (.arraylength, 1) := by decide +kernel
theorem dL_areTasksTold_168 : decode cL_areTasksTold 168 = .ok (.if_icmp .ge 66, 3) := by decide +kernel
theorem dL_areTasksTold_171 : decode cL_areTasksTold 171 = .ok (.new 224, 3) := by decide +kernel
theorem dL_areTasksTold_174 : decode cL_areTasksTold 174 = .ok (.dup, 1) := by decide +kernel
theorem dL_areTasksTold_175 : decode cL_areTasksTold 175 = .ok (.invokespecial 226, 3) := by decide +kernel
theorem dL_areTasksTold_178 : decode cL_areTasksTold 178 = .ok (.aload 6, 2) := by decide +kernel
theorem dL_areTasksTold_180 : decode cL_areTasksTold 180 = .ok (.invokevirtual 227, 3) := by decide +kernel
theorem dL_areTasksTold_183 : decode cL_areTasksTold 183 = .ok (.aload_n 0, 1) := by decide +kernel
theorem dL_areTasksTold_184 : decode cL_areTasksTold 184 = .ok (.iload 4, 2) := by decide +kernel
theorem dL_areTasksTold_186 : decode cL_areTasksTold 186 = .ok (.iload 7, 2) := by decide +kernel
theorem dL_areTasksTold_188 : decode cL_areTasksTold 188 = .ok (.invokevirtual 154, 3) := by decide +kernel
theorem dL_areTasksTold_191 : decode cL_areTasksTold 191 = .ok (.ifCond .eq 27, 3) := by decide +kernel
theorem dL_areTasksTold_194 : decode cL_areTasksTold 194 = .ok (.new 224, 3) := by decide +kernel
theorem dL_areTasksTold_197 : decode cL_areTasksTold 197 = .ok (.dup, 1) := by decide +kernel
theorem dL_areTasksTold_198 : decode cL_areTasksTold 198 = .ok (.invokespecial 226, 3) := by decide +kernel
theorem dL_areTasksTold_201 : decode cL_areTasksTold 201 = .ok (.ldc_w 291, 3) := by decide +kernel
theorem dL_areTasksTold_204 : decode cL_areTasksTold 204 = .ok (.invokevirtual 227, 3) := by decide +kernel
theorem dL_areTasksTold_207 : decode cL_areTasksTold 207 = .ok (.iload 7, 2) := by decide +kernel
theorem dL_areTasksTold_209 : decode cL_areTasksTold 209 = .ok (.invokevirtual 233, 3) := by decide +kernel
theorem dL_areTasksTold_212 : decode cL_areTasksTold 212 = .ok (.invokevirtual 236, 3) := by decide +kernel
theorem dL_areTasksTold_215 : decode cL_areTasksTold 215 = .ok (.goto 5, 3) := by decide +kernel
theorem dL_areTasksTold_218 : decode cL_areTasksTold 218 = .ok (.ldc 222, 2) := by decide +kernel
theorem dL_areTasksTold_220 : decode cL_areTasksTold 220 = .ok (.invokevirtual 227, 3) := by decide +kernel
theorem dL_areTasksTold_223 : decode cL_areTasksTold 223 = .ok (.invokevirtual 236, 3) := by decide +kernel
theorem dL_areTasksTold_226 : decode cL_areTasksTold 226 = .ok (.astore 6, 2) := by decide +kernel
theorem dL_areTasksTold_228 : decode cL_areTasksTold 228 = .ok (.iinc 7 1, 3) := by decide +kernel
theorem dL_areTasksTold_231 : decode cL_areTasksTold 231 = .ok (.goto (-67), 3) := by decide +kernel
theorem dL_areTasksTold_234 : decode cL_areTasksTold 234 = .ok (.iload_n 3, 1) := by decide +kernel
theorem dL_areTasksTold_235 : decode cL_areTasksTold 235 = .ok (.ifCond .eq 71, 3) := by decide +kernel
theorem dL_areTasksTold_238 : decode cL_areTasksTold 238 = .ok (.aload_n 0, 1) := by decide +kernel
theorem dL_areTasksTold_239 : decode cL_areTasksTold 239 = .ok (.bipush 14, 2) := by decide +kernel
theorem dL_areTasksTold_241 : decode cL_areTasksTold 241 = .ok (.iload 4, 2) := by decide +kernel
theorem dL_areTasksTold_243 : decode cL_areTasksTold 243 = .ok (.iconst 0, 1) := by decide +kernel
theorem dL_areTasksTold_244 : decode cL_areTasksTold 244 = .ok (.invokestatic 151, 3) := by decide +kernel
theorem dL_areTasksTold_247 : decode cL_areTasksTold 247 = .ok (.iload 5, 2) := by decide +kernel
theorem dL_areTasksTold_249 : decode cL_areTasksTold 249 = .ok (.ifCond .ge 9, 3) := by decide +kernel
theorem dL_areTasksTold_252 : decode cL_areTasksTold 252 = .ok (.sipush (-2004), 3) := by decide +kernel
theorem dL_areTasksTold_255 : decode cL_areTasksTold 255 = .ok (.goto 14, 3) := by decide +kernel
theorem dL_areTasksTold_258 : decode cL_areTasksTold 258 = .ok (.aload_n 1, 1) := by decide +kernel
theorem dL_areTasksTold_259 : decode cL_areTasksTold 259 = .ok (.iload 4, 2) := by decide +kernel
theorem dL_areTasksTold_261 : decode cL_areTasksTold 261 = .ok (.iaload, 1) := by decide +kernel
theorem dL_areTasksTold_262 : decode cL_areTasksTold 262 = .ok (.iload 5, 2) := by decide +kernel
theorem dL_areTasksTold_264 : decode cL_areTasksTold 264 = .ok (.isub, 1) := by decide +kernel
theorem dL_areTasksTold_265 : decode cL_areTasksTold 265 = .ok (.sipush 5000, 3) := by decide +kernel
theorem dL_areTasksTold_268 : decode cL_areTasksTold 268 = .ok (.iadd, 1) := by decide +kernel
theorem dL_areTasksTold_269 : decode cL_areTasksTold 269 = .ok (.if_icmp .ne 37, 3) := by decide +kernel
theorem dL_areTasksTold_272 : decode cL_areTasksTold 272 = .ok (.aload_n 0, 1) := by decide +kernel
theorem dL_areTasksTold_273 : decode cL_areTasksTold 273 = .ok (.invokevirtual 138, 3) := by decide +kernel
theorem dL_areTasksTold_276 : decode cL_areTasksTold 276 = .ok (.ifCond .ne 11, 3) := by decide +kernel
theorem dL_areTasksTold_279 : decode cL_areTasksTold 279 = .ok (.iload 5, 2) := by decide +kernel
theorem dL_areTasksTold_281 : decode cL_areTasksTold 281 = .ok (.sipush (-2004), 3) := by decide +kernel
theorem dL_areTasksTold_284 : decode cL_areTasksTold 284 = .ok (.if_icmp .ne 22, 3) := by decide +kernel
theorem dL_areTasksTold_287 : decode cL_areTasksTold 287 = .ok (.aload_n 0, 1) := by decide +kernel
theorem dL_areTasksTold_288 : decode cL_areTasksTold 288 = .ok (.aload_n 0, 1) := by decide +kernel
theorem dL_areTasksTold_289 : decode cL_areTasksTold 289 = .ok (.iload 4, 2) := by decide +kernel
theorem dL_areTasksTold_291 : decode cL_areTasksTold 291 = .ok (.invokevirtual 293, 3) := by decide +kernel
theorem dL_areTasksTold_294 : decode cL_areTasksTold 294 = .ok (.aload 6, 2) := by decide +kernel
theorem dL_areTasksTold_296 : decode cL_areTasksTold 296 = .ok (.invokestatic 255, 3) := by decide +kernel
theorem dL_areTasksTold_299 : decode cL_areTasksTold 299 = .ok (.ifCond .eq 7, 3) := by decide +kernel
theorem dL_areTasksTold_302 : decode cL_areTasksTold 302 = .ok (.iconst 1, 1) := by decide +kernel
theorem dL_areTasksTold_303 : decode cL_areTasksTold 303 = .ok (.goto 4, 3) := by decide +kernel
theorem dL_areTasksTold_306 : decode cL_areTasksTold 306 = .ok (.iconst 0, 1) := by decide +kernel
theorem dL_areTasksTold_307 : decode cL_areTasksTold 307 = .ok (.istore_n 3, 1) := by decide +kernel
theorem dL_areTasksTold_308 : decode cL_areTasksTold 308 = .ok (.iinc 4 1, 3) := by decide +kernel
theorem dL_areTasksTold_311 : decode cL_areTasksTold 311 = .ok (.goto (-285), 3) := by decide +kernel
theorem dL_areTasksTold_314 : decode cL_areTasksTold 314 = .ok (.iload_n 3, 1) := by decide +kernel
theorem dL_areTasksTold_315 : decode cL_areTasksTold 315 = .ok (.ifCond .eq 32, 3) := by decide +kernel
theorem dL_areTasksTold_318 : decode cL_areTasksTold 318 = .ok (.aload_n 0, 1) := by decide +kernel
theorem dL_areTasksTold_319 : decode cL_areTasksTold 319 = .ok (.bipush 8, 2) := by decide +kernel
theorem dL_areTasksTold_321 : decode cL_areTasksTold 321 = .ok (.iconst 0, 1) := by decide +kernel
theorem dL_areTasksTold_322 : decode cL_areTasksTold 322 = .ok (.iconst 0, 1) := by decide +kernel
theorem dL_areTasksTold_323 : decode cL_areTasksTold 323 = .ok (.invokestatic 151, 3) := by decide +kernel
theorem dL_areTasksTold_326 : decode cL_areTasksTold 326 = .ok (.aload_n 0, 1) := by decide +kernel
theorem dL_areTasksTold_327 : decode cL_areTasksTold 327 = .ok (.invokevirtual 138, 3) := by decide +kernel
theorem dL_areTasksTold_330 : decode cL_areTasksTold 330 = .ok (.ifCond .eq 7, 3) := by decide +kernel
theorem dL_areTasksTold_333 : decode cL_areTasksTold 333 = .ok (.iload_n 2, 1) := by decide +kernel
theorem dL_areTasksTold_334 : decode cL_areTasksTold 334 = .ok (.goto 6, 3) := by decide +kernel
theorem dL_areTasksTold_337 : decode cL_areTasksTold 337 = .ok (.sipush (-2004), 3) := by decide +kernel
theorem dL_areTasksTold_340 : decode cL_areTasksTold 340 = .ok (.if_icmp .ne 7, 3) := by decide +kernel
theorem dL_areTasksTold_343 : decode cL_areTasksTold 343 = .ok (.iconst 1, 1) := by decide +kernel
theorem dL_areTasksTold_344 : decode cL_areTasksTold 344 = .ok (.goto 4, 3) := by decide +kernel
theorem dL_areTasksTold_347 : decode cL_areTasksTold 347 = .ok (.iconst 0, 1) := by decide +kernel
theorem dL_areTasksTold_348 : decode cL_areTasksTold 348 = .ok (.ireturn, 1) := by decide +kernel
theorem dL_law_0 : decode cL_law 0 = .ok (.new 16, 3) := by decide +kernel
theorem dL_law_3 : decode cL_law 3 = .ok (.dup, 1) := by decide +kernel
theorem dL_law_4 : decode cL_law 4 = .ok (.invokespecial 296, 3) := by decide +kernel
theorem dL_law_7 : decode cL_law 7 = .ok (.astore_n 1, 1) := by decide +kernel
theorem dL_law_8 : decode cL_law 8 = .ok (.aload_n 1, 1) := by decide +kernel
theorem dL_law_9 : decode cL_law 9 = .ok (.aload_n 0, 1) := by decide +kernel
theorem dL_law_10 : decode cL_law 10 = .ok (.invokestatic 297, 3) := by decide +kernel
theorem dL_law_13 : decode cL_law 13 = .ok (.iconst 0, 1) := by decide +kernel
theorem dL_law_14 : decode cL_law 14 = .ok (.istore_n 2, 1) := by decide +kernel
theorem dL_law_15 : decode cL_law 15 = .ok (.iload_n 2, 1) := by decide +kernel
theorem dL_law_16 : decode cL_law 16 = .ok (.bipush 10, 2) := by decide +kernel
theorem dL_law_18 : decode cL_law 18 = .ok (.if_icmp .ge 112, 3) := by decide +kernel
theorem dL_law_21 : decode cL_law 21 = .ok (.aload_n 1, 1) := by decide +kernel
theorem dL_law_22 : decode cL_law 22 = .ok (.aload_n 0, 1) := by decide +kernel
theorem dL_law_23 : decode cL_law 23 = .ok (.sipush 200, 3) := by decide +kernel
theorem dL_law_26 : decode cL_law 26 = .ok (.bipush 6, 2) := by decide +kernel
theorem dL_law_28 : decode cL_law 28 = .ok (.iload_n 2, 1) := by decide +kernel
theorem dL_law_29 : decode cL_law 29 = .ok (.imul, 1) := by decide +kernel
theorem dL_law_30 : decode cL_law 30 = .ok (.iadd, 1) := by decide +kernel
theorem dL_law_31 : decode cL_law 31 = .ok (.invokestatic 301, 3) := by decide +kernel
theorem dL_law_34 : decode cL_law 34 = .ok (.istore_n 3, 1) := by decide +kernel
theorem dL_law_35 : decode cL_law 35 = .ok (.aload_n 1, 1) := by decide +kernel
theorem dL_law_36 : decode cL_law 36 = .ok (.invokestatic 305, 3) := by decide +kernel
theorem dL_law_39 : decode cL_law 39 = .ok (.astore 4, 2) := by decide +kernel
theorem dL_law_41 : decode cL_law 41 = .ok (.aload_n 1, 1) := by decide +kernel
theorem dL_law_42 : decode cL_law 42 = .ok (.aload_n 1, 1) := by decide +kernel
theorem dL_law_43 : decode cL_law 43 = .ok (.aload 4, 2) := by decide +kernel
theorem dL_law_45 : decode cL_law 45 = .ok (.invokestatic 185, 3) := by decide +kernel
theorem dL_law_48 : decode cL_law 48 = .ok (.invokestatic 308, 3) := by decide +kernel
theorem dL_law_51 : decode cL_law 51 = .ok (.astore 5, 2) := by decide +kernel
theorem dL_law_53 : decode cL_law 53 = .ok (.iconst 3, 1) := by decide +kernel
theorem dL_law_54 : decode cL_law 54 = .ok (.sipush 200, 3) := by decide +kernel
theorem dL_law_57 : decode cL_law 57 = .ok (.multianewarray 312 2, 4) := by decide +kernel
theorem dL_law_61 : decode cL_law 61 = .ok (.astore 6, 2) := by decide +kernel
theorem dL_law_63 : decode cL_law 63 = .ok (.aload_n 1, 1) := by decide +kernel
theorem dL_law_64 : decode cL_law 64 = .ok (.aload 5, 2) := by decide +kernel
theorem dL_law_66 : decode cL_law 66 = .ok (.aload 6, 2) := by decide +kernel
theorem dL_law_68 : decode cL_law 68 = .ok (.invokestatic 314, 3) := by decide +kernel
theorem dL_law_71 : decode cL_law 71 = .ok (.astore 7, 2) := by decide +kernel
theorem dL_law_73 : decode cL_law 73 = .ok (.aload_n 1, 1) := by decide +kernel
theorem dL_law_74 : decode cL_law 74 = .ok (.invokestatic 318, 3) := by decide +kernel
theorem dL_law_77 : decode cL_law 77 = .ok (.ifCond .eq 45, 3) := by decide +kernel
theorem dL_law_80 : decode cL_law 80 = .ok (.aload_n 1, 1) := by decide +kernel
theorem dL_law_81 : decode cL_law 81 = .ok (.aload 4, 2) := by decide +kernel
theorem dL_law_83 : decode cL_law 83 = .ok (.aload 5, 2) := by decide +kernel
theorem dL_law_85 : decode cL_law 85 = .ok (.invokestatic 322, 3) := by decide +kernel
theorem dL_law_88 : decode cL_law 88 = .ok (.ifCond .eq 34, 3) := by decide +kernel
theorem dL_law_91 : decode cL_law 91 = .ok (.aload_n 1, 1) := by decide +kernel
theorem dL_law_92 : decode cL_law 92 = .ok (.aload 7, 2) := by decide +kernel
theorem dL_law_94 : decode cL_law 94 = .ok (.aload 6, 2) := by decide +kernel
theorem dL_law_96 : decode cL_law 96 = .ok (.aload_n 0, 1) := by decide +kernel
theorem dL_law_97 : decode cL_law 97 = .ok (.sipush 300, 3) := by decide +kernel
theorem dL_law_100 : decode cL_law 100 = .ok (.iload_n 2, 1) := by decide +kernel
theorem dL_law_101 : decode cL_law 101 = .ok (.iadd, 1) := by decide +kernel
theorem dL_law_102 : decode cL_law 102 = .ok (.bipush 60, 2) := by decide +kernel
theorem dL_law_104 : decode cL_law 104 = .ok (.invokestatic 120, 3) := by decide +kernel
theorem dL_law_107 : decode cL_law 107 = .ok (.invokestatic 326, 3) := by decide +kernel
theorem dL_law_110 : decode cL_law 110 = .ok (.ifCond .eq 12, 3) := by decide +kernel
theorem dL_law_113 : decode cL_law 113 = .ok (.aload_n 1, 1) := by decide +kernel
theorem dL_law_114 : decode cL_law 114 = .ok (.aload 7, 2) := by decide +kernel
theorem dL_law_116 : decode cL_law 116 = .ok (.invokestatic 330, 3) := by decide +kernel
theorem dL_law_119 : decode cL_law 119 = .ok (.ifCond .ne 5, 3) := by decide +kernel
theorem dL_law_122 : decode cL_law 122 = .ok (.iconst 0, 1) := by decide +kernel
theorem dL_law_123 : decode cL_law 123 = .ok (.ireturn, 1) := by decide +kernel
theorem dL_law_124 : decode cL_law 124 = .ok (.iinc 2 1, 3) := by decide +kernel
theorem dL_law_127 : decode cL_law 127 = .ok (.goto (-112), 3) := by decide +kernel
theorem dL_law_130 : decode cL_law 130 = .ok (.iconst 1, 1) := by decide +kernel
theorem dL_law_131 : decode cL_law 131 = .ok (.ireturn, 1) := by decide +kernel
