theorem dX12_init_0 : decode cX12_init 0 = .ok (.aload_n 0, 1) := by decide +kernel
theorem dX12_init_1 : decode cX12_init 1 = .ok (.invokespecial 1, 3) := by decide +kernel
theorem dX12_init_4 : decode cX12_init 4 = .ok (.aload_n 0, 1) := by decide +kernel
theorem dX12_init_5 : decode cX12_init 5 = .ok (.sipush 700, 3) := by decide +kernel
theorem dX12_init_8 : decode cX12_init 8 = .ok (.newarray .int, 2) := by decide +kernel
theorem dX12_init_10 : decode cX12_init 10 = .ok (.putfield 7, 3) := by decide +kernel
theorem dX12_init_13 : decode cX12_init 13 = .ok (.aload_n 0, 1) := by decide +kernel
theorem dX12_init_14 : decode cX12_init 14 = .ok (.bipush 18, 2) := by decide +kernel
theorem dX12_init_16 : decode cX12_init 16 = .ok (.newarray .int, 2) := by decide +kernel
theorem dX12_init_18 : decode cX12_init 18 = .ok (.dup, 1) := by decide +kernel
theorem dX12_init_19 : decode cX12_init 19 = .ok (.iconst 0, 1) := by decide +kernel
theorem dX12_init_20 : decode cX12_init 20 = .ok (.iconst 0, 1) := by decide +kernel
theorem dX12_init_21 : decode cX12_init 21 = .ok (.iastore, 1) := by decide +kernel
theorem dX12_init_22 : decode cX12_init 22 = .ok (.dup, 1) := by decide +kernel
theorem dX12_init_23 : decode cX12_init 23 = .ok (.iconst 1, 1) := by decide +kernel
theorem dX12_init_24 : decode cX12_init 24 = .ok (.bipush 12, 2) := by decide +kernel
theorem dX12_init_26 : decode cX12_init 26 = .ok (.iastore, 1) := by decide +kernel
theorem dX12_init_27 : decode cX12_init 27 = .ok (.dup, 1) := by decide +kernel
theorem dX12_init_28 : decode cX12_init 28 = .ok (.iconst 2, 1) := by decide +kernel
theorem dX12_init_29 : decode cX12_init 29 = .ok (.iconst 0, 1) := by decide +kernel
theorem dX12_init_30 : decode cX12_init 30 = .ok (.iastore, 1) := by decide +kernel
theorem dX12_init_31 : decode cX12_init 31 = .ok (.dup, 1) := by decide +kernel
theorem dX12_init_32 : decode cX12_init 32 = .ok (.iconst 3, 1) := by decide +kernel
theorem dX12_init_33 : decode cX12_init 33 = .ok (.bipush 30, 2) := by decide +kernel
theorem dX12_init_35 : decode cX12_init 35 = .ok (.iastore, 1) := by decide +kernel
theorem dX12_init_36 : decode cX12_init 36 = .ok (.dup, 1) := by decide +kernel
theorem dX12_init_37 : decode cX12_init 37 = .ok (.iconst 4, 1) := by decide +kernel
theorem dX12_init_38 : decode cX12_init 38 = .ok (.bipush 20, 2) := by decide +kernel
theorem dX12_init_40 : decode cX12_init 40 = .ok (.iastore, 1) := by decide +kernel
theorem dX12_init_41 : decode cX12_init 41 = .ok (.dup, 1) := by decide +kernel
theorem dX12_init_42 : decode cX12_init 42 = .ok (.iconst 5, 1) := by decide +kernel
theorem dX12_init_43 : decode cX12_init 43 = .ok (.iconst 2, 1) := by decide +kernel
theorem dX12_init_44 : decode cX12_init 44 = .ok (.iastore, 1) := by decide +kernel
theorem dX12_init_45 : decode cX12_init 45 = .ok (.dup, 1) := by decide +kernel
theorem dX12_init_46 : decode cX12_init 46 = .ok (.bipush 6, 2) := by decide +kernel
theorem dX12_init_48 : decode cX12_init 48 = .ok (.iconst 0, 1) := by decide +kernel
theorem dX12_init_49 : decode cX12_init 49 = .ok (.iastore, 1) := by decide +kernel
theorem dX12_init_50 : decode cX12_init 50 = .ok (.dup, 1) := by decide +kernel
theorem dX12_init_51 : decode cX12_init 51 = .ok (.bipush 7, 2) := by decide +kernel
theorem dX12_init_53 : decode cX12_init 53 = .ok (.iconst 0, 1) := by decide +kernel
theorem dX12_init_54 : decode cX12_init 54 = .ok (.iastore, 1) := by decide +kernel
theorem dX12_init_55 : decode cX12_init 55 = .ok (.dup, 1) := by decide +kernel
theorem dX12_init_56 : decode cX12_init 56 = .ok (.bipush 8, 2) := by decide +kernel
theorem dX12_init_58 : decode cX12_init 58 = .ok (.iconst 0, 1) := by decide +kernel
theorem dX12_init_59 : decode cX12_init 59 = .ok (.iastore, 1) := by decide +kernel
theorem dX12_init_60 : decode cX12_init 60 = .ok (.dup, 1) := by decide +kernel
theorem dX12_init_61 : decode cX12_init 61 = .ok (.bipush 9, 2) := by decide +kernel
theorem dX12_init_63 : decode cX12_init 63 = .ok (.iconst 0, 1) := by decide +kernel
theorem dX12_init_64 : decode cX12_init 64 = .ok (.iastore, 1) := by decide +kernel
theorem dX12_init_65 : decode cX12_init 65 = .ok (.dup, 1) := by decide +kernel
theorem dX12_init_66 : decode cX12_init 66 = .ok (.bipush 10, 2) := by decide +kernel
theorem dX12_init_68 : decode cX12_init 68 = .ok (.bipush 12, 2) := by decide +kernel
theorem dX12_init_70 : decode cX12_init 70 = .ok (.iastore, 1) := by decide +kernel
theorem dX12_init_71 : decode cX12_init 71 = .ok (.dup, 1) := by decide +kernel
theorem dX12_init_72 : decode cX12_init 72 = .ok (.bipush 11, 2) := by decide +kernel
theorem dX12_init_74 : decode cX12_init 74 = .ok (.iconst 0, 1) := by decide +kernel
theorem dX12_init_75 : decode cX12_init 75 = .ok (.iastore, 1) := by decide +kernel
theorem dX12_init_76 : decode cX12_init 76 = .ok (.dup, 1) := by decide +kernel
theorem dX12_init_77 : decode cX12_init 77 = .ok (.bipush 12, 2) := by decide +kernel
theorem dX12_init_79 : decode cX12_init 79 = .ok (.bipush 30, 2) := by decide +kernel
theorem dX12_init_81 : decode cX12_init 81 = .ok (.iastore, 1) := by decide +kernel
theorem dX12_init_82 : decode cX12_init 82 = .ok (.dup, 1) := by decide +kernel
theorem dX12_init_83 : decode cX12_init 83 = .ok (.bipush 13, 2) := by decide +kernel
theorem dX12_init_85 : decode cX12_init 85 = .ok (.bipush 20, 2) := by decide +kernel
theorem dX12_init_87 : decode cX12_init 87 = .ok (.iastore, 1) := by decide +kernel
theorem dX12_init_88 : decode cX12_init 88 = .ok (.dup, 1) := by decide +kernel
theorem dX12_init_89 : decode cX12_init 89 = .ok (.bipush 14, 2) := by decide +kernel
theorem dX12_init_91 : decode cX12_init 91 = .ok (.iconst 2, 1) := by decide +kernel
theorem dX12_init_92 : decode cX12_init 92 = .ok (.iastore, 1) := by decide +kernel
theorem dX12_init_93 : decode cX12_init 93 = .ok (.dup, 1) := by decide +kernel
theorem dX12_init_94 : decode cX12_init 94 = .ok (.bipush 15, 2) := by decide +kernel
theorem dX12_init_96 : decode cX12_init 96 = .ok (.iconst 0, 1) := by decide +kernel
theorem dX12_init_97 : decode cX12_init 97 = .ok (.iastore, 1) := by decide +kernel
theorem dX12_init_98 : decode cX12_init 98 = .ok (.dup, 1) := by decide +kernel
theorem dX12_init_99 : decode cX12_init 99 = .ok (.bipush 16, 2) := by decide +kernel
theorem dX12_init_101 : decode cX12_init 101 = .ok (.iconst 0, 1) := by decide +kernel
theorem dX12_init_102 : decode cX12_init 102 = .ok (.iastore, 1) := by decide +kernel
theorem dX12_init_103 : decode cX12_init 103 = .ok (.dup, 1) := by decide +kernel
theorem dX12_init_104 : decode cX12_init 104 = .ok (.bipush 17, 2) := by decide +kernel
theorem dX12_init_106 : decode cX12_init 106 = .ok (.iconst 0, 1) := by decide +kernel
theorem dX12_init_107 : decode cX12_init 107 = .ok (.iastore, 1) := by decide +kernel
theorem dX12_init_108 : decode cX12_init 108 = .ok (.putfield 13, 3) := by decide +kernel
theorem dX12_init_111 : decode cX12_init 111 = .ok (.aload_n 0, 1) := by decide +kernel
theorem dX12_init_112 : decode cX12_init 112 = .ok (.bipush 16, 2) := by decide +kernel
theorem dX12_init_114 : decode cX12_init 114 = .ok (.newarray .int, 2) := by decide +kernel
theorem dX12_init_116 : decode cX12_init 116 = .ok (.putfield 16, 3) := by decide +kernel
theorem dX12_init_119 : decode cX12_init 119 = .ok (.aload_n 0, 1) := by decide +kernel
theorem dX12_init_120 : decode cX12_init 120 = .ok (.bipush 16, 2) := by decide +kernel
theorem dX12_init_122 : decode cX12_init 122 = .ok (.newarray .int, 2) := by decide +kernel
theorem dX12_init_124 : decode cX12_init 124 = .ok (.putfield 19, 3) := by decide +kernel
theorem dX12_init_127 : decode cX12_init 127 = .ok (.aload_n 0, 1) := by decide +kernel
theorem dX12_init_128 : decode cX12_init 128 = .ok (.bipush 48, 2) := by decide +kernel
theorem dX12_init_130 : decode cX12_init 130 = .ok (.newarray .int, 2) := by decide +kernel
theorem dX12_init_132 : decode cX12_init 132 = .ok (.putfield 22, 3) := by decide +kernel
theorem dX12_init_135 : decode cX12_init 135 = .ok (.aload_n 0, 1) := by decide +kernel
theorem dX12_init_136 : decode cX12_init 136 = .ok (.bipush 16, 2) := by decide +kernel
theorem dX12_init_138 : decode cX12_init 138 = .ok (.newarray .int, 2) := by decide +kernel
theorem dX12_init_140 : decode cX12_init 140 = .ok (.putfield 25, 3) := by decide +kernel
theorem dX12_init_143 : decode cX12_init 143 = .ok (.aload_n 0, 1) := by decide +kernel
theorem dX12_init_144 : decode cX12_init 144 = .ok (.bipush 16, 2) := by decide +kernel
theorem dX12_init_146 : decode cX12_init 146 = .ok (.newarray .int, 2) := by decide +kernel
theorem dX12_init_148 : decode cX12_init 148 = .ok (.putfield 28, 3) := by decide +kernel
theorem dX12_init_151 : decode cX12_init 151 = .ok (.aload_n 0, 1) := by decide +kernel
theorem dX12_init_152 : decode cX12_init 152 = .ok (.bipush 16, 2) := by decide +kernel
theorem dX12_init_154 : decode cX12_init 154 = .ok (.newarray .int, 2) := by decide +kernel
theorem dX12_init_156 : decode cX12_init 156 = .ok (.putfield 31, 3) := by decide +kernel
theorem dX12_init_159 : decode cX12_init 159 = .ok (.aload_n 0, 1) := by decide +kernel
theorem dX12_init_160 : decode cX12_init 160 = .ok (.bipush 6, 2) := by decide +kernel
theorem dX12_init_162 : decode cX12_init 162 = .ok (.newarray .int, 2) := by decide +kernel
theorem dX12_init_164 : decode cX12_init 164 = .ok (.putfield 34, 3) := by decide +kernel
theorem dX12_init_167 : decode cX12_init 167 = .ok (.aload_n 0, 1) := by decide +kernel
theorem dX12_init_168 : decode cX12_init 168 = .ok (.bipush 6, 2) := by decide +kernel
theorem dX12_init_170 : decode cX12_init 170 = .ok (.newarray .int, 2) := by decide +kernel
theorem dX12_init_172 : decode cX12_init 172 = .ok (.putfield 37, 3) := by decide +kernel
theorem dX12_init_175 : decode cX12_init 175 = .ok (.aload_n 0, 1) := by decide +kernel
theorem dX12_init_176 : decode cX12_init 176 = .ok (.bipush 6, 2) := by decide +kernel
theorem dX12_init_178 : decode cX12_init 178 = .ok (.newarray .int, 2) := by decide +kernel
theorem dX12_init_180 : decode cX12_init 180 = .ok (.putfield 40, 3) := by decide +kernel
theorem dX12_init_183 : decode cX12_init 183 = .ok (.aload_n 0, 1) := by decide +kernel
theorem dX12_init_184 : decode cX12_init 184 = .ok (.bipush 6, 2) := by decide +kernel
theorem dX12_init_186 : decode cX12_init 186 = .ok (.newarray .int, 2) := by decide +kernel
theorem dX12_init_188 : decode cX12_init 188 = .ok (.putfield 43, 3) := by decide +kernel
theorem dX12_init_191 : decode cX12_init 191 = .ok (.aload_n 0, 1) := by decide +kernel
theorem dX12_init_192 : decode cX12_init 192 = .ok (.sipush 128, 3) := by decide +kernel
theorem dX12_init_195 : decode cX12_init 195 = .ok (.newarray .int, 2) := by decide +kernel
theorem dX12_init_197 : decode cX12_init 197 = .ok (.putfield 46, 3) := by decide +kernel
theorem dX12_init_200 : decode cX12_init 200 = .ok (.aload_n 0, 1) := by decide +kernel
theorem dX12_init_201 : decode cX12_init 201 = .ok (.sipush 128, 3) := by decide +kernel
theorem dX12_init_204 : decode cX12_init 204 = .ok (.newarray .int, 2) := by decide +kernel
theorem dX12_init_206 : decode cX12_init 206 = .ok (.putfield 49, 3) := by decide +kernel
theorem dX12_init_209 : decode cX12_init 209 = .ok (.aload_n 0, 1) := by decide +kernel
theorem dX12_init_210 : decode cX12_init 210 = .ok (.iconst (-1), 1) := by decide +kernel
theorem dX12_init_211 : decode cX12_init 211 = .ok (.putfield 52, 3) := by decide +kernel
theorem dX12_init_214 : decode cX12_init 214 = .ok (.aload_n 0, 1) := by decide +kernel
theorem dX12_init_215 : decode cX12_init 215 = .ok (.bipush 7, 2) := by decide +kernel
theorem dX12_init_217 : decode cX12_init 217 = .ok (.newarray .long, 2) := by decide +kernel
theorem dX12_init_219 : decode cX12_init 219 = .ok (.putfield 56, 3) := by decide +kernel
theorem dX12_init_222 : decode cX12_init 222 = .ok (.aload_n 0, 1) := by decide +kernel
theorem dX12_init_223 : decode cX12_init 223 = .ok (.bipush 64, 2) := by decide +kernel
theorem dX12_init_225 : decode cX12_init 225 = .ok (.newarray .long, 2) := by decide +kernel
theorem dX12_init_227 : decode cX12_init 227 = .ok (.putfield 60, 3) := by decide +kernel
theorem dX12_init_230 : decode cX12_init 230 = .ok (.aload_n 0, 1) := by decide +kernel
theorem dX12_init_231 : decode cX12_init 231 = .ok (.bipush 23, 2) := by decide +kernel
theorem dX12_init_233 : decode cX12_init 233 = .ok (.newarray .int, 2) := by decide +kernel
theorem dX12_init_235 : decode cX12_init 235 = .ok (.putfield 63, 3) := by decide +kernel
theorem dX12_init_238 : decode cX12_init 238 = .ok (.aload_n 0, 1) := by decide +kernel
theorem dX12_init_239 : decode cX12_init 239 = .ok (.bipush 23, 2) := by decide +kernel
theorem dX12_init_241 : decode cX12_init 241 = .ok (.newarray .int, 2) := by decide +kernel
theorem dX12_init_243 : decode cX12_init 243 = .ok (.putfield 66, 3) := by decide +kernel
theorem dX12_init_246 : decode cX12_init 246 = .ok (.aload_n 0, 1) := by decide +kernel
theorem dX12_init_247 : decode cX12_init 247 = .ok (.bipush 23, 2) := by decide +kernel
theorem dX12_init_249 : decode cX12_init 249 = .ok (.newarray .int, 2) := by decide +kernel
theorem dX12_init_251 : decode cX12_init 251 = .ok (.putfield 69, 3) := by decide +kernel
theorem dX12_init_254 : decode cX12_init 254 = .ok (.aload_n 0, 1) := by decide +kernel
theorem dX12_init_255 : decode cX12_init 255 = .ok (.bipush 23, 2) := by decide +kernel
theorem dX12_init_257 : decode cX12_init 257 = .ok (.newarray .int, 2) := by decide +kernel
theorem dX12_init_259 : decode cX12_init 259 = .ok (.putfield 72, 3) := by decide +kernel
theorem dX12_init_262 : decode cX12_init 262 = .ok (.aload_n 0, 1) := by decide +kernel
theorem dX12_init_263 : decode cX12_init 263 = .ok (.bipush 23, 2) := by decide +kernel
theorem dX12_init_265 : decode cX12_init 265 = .ok (.newarray .int, 2) := by decide +kernel
theorem dX12_init_267 : decode cX12_init 267 = .ok (.putfield 75, 3) := by decide +kernel
theorem dX12_init_270 : decode cX12_init 270 = .ok (.aload_n 0, 1) := by decide +kernel
theorem dX12_init_271 : decode cX12_init 271 = .ok (.sipush 184, 3) := by decide +kernel
theorem dX12_init_274 : decode cX12_init 274 = .ok (.newarray .int, 2) := by decide +kernel
theorem dX12_init_276 : decode cX12_init 276 = .ok (.putfield 78, 3) := by decide +kernel
theorem dX12_init_279 : decode cX12_init 279 = .ok (.aload_n 0, 1) := by decide +kernel
theorem dX12_init_280 : decode cX12_init 280 = .ok (.sipush 184, 3) := by decide +kernel
theorem dX12_init_283 : decode cX12_init 283 = .ok (.newarray .int, 2) := by decide +kernel
theorem dX12_init_285 : decode cX12_init 285 = .ok (.putfield 81, 3) := by decide +kernel
theorem dX12_init_288 : decode cX12_init 288 = .ok (.aload_n 0, 1) := by decide +kernel
theorem dX12_init_289 : decode cX12_init 289 = .ok (.sipush 184, 3) := by decide +kernel
theorem dX12_init_292 : decode cX12_init 292 = .ok (.newarray .int, 2) := by decide +kernel
theorem dX12_init_294 : decode cX12_init 294 = .ok (.putfield 84, 3) := by decide +kernel
theorem dX12_init_297 : decode cX12_init 297 = .ok (.aload_n 0, 1) := by decide +kernel
theorem dX12_init_298 : decode cX12_init 298 = .ok (.sipush 184, 3) := by decide +kernel
theorem dX12_init_301 : decode cX12_init 301 = .ok (.newarray .int, 2) := by decide +kernel
theorem dX12_init_303 : decode cX12_init 303 = .ok (.putfield 87, 3) := by decide +kernel
theorem dX12_init_306 : decode cX12_init 306 = .ok (.aload_n 0, 1) := by decide +kernel
theorem dX12_init_307 : decode cX12_init 307 = .ok (.sipush 184, 3) := by decide +kernel
theorem dX12_init_310 : decode cX12_init 310 = .ok (.newarray .int, 2) := by decide +kernel
theorem dX12_init_312 : decode cX12_init 312 = .ok (.putfield 90, 3) := by decide +kernel
theorem dX12_init_315 : decode cX12_init 315 = .ok (.aload_n 0, 1) := by decide +kernel
theorem dX12_init_316 : decode cX12_init 316 = .ok (.bipush 69, 2) := by decide +kernel
theorem dX12_init_318 : decode cX12_init 318 = .ok (.newarray .int, 2) := by decide +kernel
theorem dX12_init_320 : decode cX12_init 320 = .ok (.putfield 93, 3) := by decide +kernel
theorem dX12_init_323 : decode cX12_init 323 = .ok (.aload_n 0, 1) := by decide +kernel
theorem dX12_init_324 : decode cX12_init 324 = .ok (.bipush 69, 2) := by decide +kernel
theorem dX12_init_326 : decode cX12_init 326 = .ok (.newarray .int, 2) := by decide +kernel
theorem dX12_init_328 : decode cX12_init 328 = .ok (.putfield 96, 3) := by decide +kernel
theorem dX12_init_331 : decode cX12_init 331 = .ok (.aload_n 0, 1) := by decide +kernel
theorem dX12_init_332 : decode cX12_init 332 = .ok (.bipush 69, 2) := by decide +kernel
theorem dX12_init_334 : decode cX12_init 334 = .ok (.newarray .int, 2) := by decide +kernel
theorem dX12_init_336 : decode cX12_init 336 = .ok (.putfield 99, 3) := by decide +kernel
theorem dX12_init_339 : decode cX12_init 339 = .ok (.aload_n 0, 1) := by decide +kernel
theorem dX12_init_340 : decode cX12_init 340 = .ok (.bipush 69, 2) := by decide +kernel
theorem dX12_init_342 : decode cX12_init 342 = .ok (.newarray .int, 2) := by decide +kernel
theorem dX12_init_344 : decode cX12_init 344 = .ok (.putfield 102, 3) := by decide +kernel
theorem dX12_init_347 : decode cX12_init 347 = .ok (.aload_n 0, 1) := by decide +kernel
theorem dX12_init_348 : decode cX12_init 348 = .ok (.bipush 69, 2) := by decide +kernel
theorem dX12_init_350 : decode cX12_init 350 = .ok (.newarray .int, 2) := by decide +kernel
theorem dX12_init_352 : decode cX12_init 352 = .ok (.putfield 105, 3) := by decide +kernel
theorem dX12_init_355 : decode cX12_init 355 = .ok (.aload_n 0, 1) := by decide +kernel
theorem dX12_init_356 : decode cX12_init 356 = .ok (.bipush 69, 2) := by decide +kernel
theorem dX12_init_358 : decode cX12_init 358 = .ok (.newarray .int, 2) := by decide +kernel
theorem dX12_init_360 : decode cX12_init 360 = .ok (.putfield 108, 3) := by decide +kernel
theorem dX12_init_363 : decode cX12_init 363 = .ok (.aload_n 0, 1) := by decide +kernel
theorem dX12_init_364 : decode cX12_init 364 = .ok (.iconst (-1), 1) := by decide +kernel
theorem dX12_init_365 : decode cX12_init 365 = .ok (.putfield 111, 3) := by decide +kernel
theorem dX12_init_368 : decode cX12_init 368 = .ok (.aload_n 0, 1) := by decide +kernel
theorem dX12_init_369 : decode cX12_init 369 = .ok (.iconst (-1), 1) := by decide +kernel
theorem dX12_init_370 : decode cX12_init 370 = .ok (.putfield 114, 3) := by decide +kernel
theorem dX12_init_373 : decode cX12_init 373 = .ok (.aload_n 0, 1) := by decide +kernel
theorem dX12_init_374 : decode cX12_init 374 = .ok (.iconst 3, 1) := by decide +kernel
theorem dX12_init_375 : decode cX12_init 375 = .ok (.newarray .int, 2) := by decide +kernel
theorem dX12_init_377 : decode cX12_init 377 = .ok (.putfield 117, 3) := by decide +kernel
theorem dX12_init_380 : decode cX12_init 380 = .ok (.aload_n 0, 1) := by decide +kernel
theorem dX12_init_381 : decode cX12_init 381 = .ok (.iconst 3, 1) := by decide +kernel
theorem dX12_init_382 : decode cX12_init 382 = .ok (.newarray .int, 2) := by decide +kernel
theorem dX12_init_384 : decode cX12_init 384 = .ok (.putfield 120, 3) := by decide +kernel
theorem dX12_init_387 : decode cX12_init 387 = .ok (.aload_n 0, 1) := by decide +kernel
theorem dX12_init_388 : decode cX12_init 388 = .ok (.bipush 8, 2) := by decide +kernel
theorem dX12_init_390 : decode cX12_init 390 = .ok (.newarray .int, 2) := by decide +kernel
theorem dX12_init_392 : decode cX12_init 392 = .ok (.putfield 123, 3) := by decide +kernel
theorem dX12_init_395 : decode cX12_init 395 = .ok (.aload_n 0, 1) := by decide +kernel
theorem dX12_init_396 : decode cX12_init 396 = .ok (.bipush 8, 2) := by decide +kernel
theorem dX12_init_398 : decode cX12_init 398 = .ok (.newarray .int, 2) := by decide +kernel
theorem dX12_init_400 : decode cX12_init 400 = .ok (.putfield 126, 3) := by decide +kernel
theorem dX12_init_403 : decode cX12_init 403 = .ok (.aload_n 0, 1) := by decide +kernel
theorem dX12_init_404 : decode cX12_init 404 = .ok (.iconst 3, 1) := by decide +kernel
theorem dX12_init_405 : decode cX12_init 405 = .ok (.newarray .int, 2) := by decide +kernel
theorem dX12_init_407 : decode cX12_init 407 = .ok (.putfield 129, 3) := by decide +kernel
theorem dX12_init_410 : decode cX12_init 410 = .ok (.aload_n 0, 1) := by decide +kernel
theorem dX12_init_411 : decode cX12_init 411 = .ok (.bipush 8, 2) := by decide +kernel
theorem dX12_init_413 : decode cX12_init 413 = .ok (.newarray .int, 2) := by decide +kernel
theorem dX12_init_415 : decode cX12_init 415 = .ok (.putfield 132, 3) := by decide +kernel
theorem dX12_init_418 : decode cX12_init 418 = .ok (.aload_n 0, 1) := by decide +kernel
theorem dX12_init_419 : decode cX12_init 419 = .ok (.iconst (-1), 1) := by decide +kernel
theorem dX12_init_420 : decode cX12_init 420 = .ok (.putfield 135, 3) := by decide +kernel
theorem dX12_init_423 : decode cX12_init 423 = .ok (.aload_n 0, 1) := by decide +kernel
theorem dX12_init_424 : decode cX12_init 424 = .ok (.bipush 24, 2) := by decide +kernel
theorem dX12_init_426 : decode cX12_init 426 = .ok (.newarray .int, 2) := by decide +kernel
theorem dX12_init_428 : decode cX12_init 428 = .ok (.putfield 138, 3) := by decide +kernel
theorem dX12_init_431 : decode cX12_init 431 = .ok (.aload_n 0, 1) := by decide +kernel
theorem dX12_init_432 : decode cX12_init 432 = .ok (.bipush 24, 2) := by decide +kernel
theorem dX12_init_434 : decode cX12_init 434 = .ok (.newarray .int, 2) := by decide +kernel
theorem dX12_init_436 : decode cX12_init 436 = .ok (.putfield 141, 3) := by decide +kernel
theorem dX12_init_439 : decode cX12_init 439 = .ok (.aload_n 0, 1) := by decide +kernel
theorem dX12_init_440 : decode cX12_init 440 = .ok (.bipush 24, 2) := by decide +kernel
theorem dX12_init_442 : decode cX12_init 442 = .ok (.newarray .boolean, 2) := by decide +kernel
theorem dX12_init_444 : decode cX12_init 444 = .ok (.putfield 144, 3) := by decide +kernel
theorem dX12_init_447 : decode cX12_init 447 = .ok (.aload_n 0, 1) := by decide +kernel
theorem dX12_init_448 : decode cX12_init 448 = .ok (.bipush 24, 2) := by decide +kernel
theorem dX12_init_450 : decode cX12_init 450 = .ok (.newarray .int, 2) := by decide +kernel
theorem dX12_init_452 : decode cX12_init 452 = .ok (.putfield 148, 3) := by decide +kernel
theorem dX12_init_455 : decode cX12_init 455 = .ok (.aload_n 0, 1) := by decide +kernel
theorem dX12_init_456 : decode cX12_init 456 = .ok (.bipush 24, 2) := by decide +kernel
theorem dX12_init_458 : decode cX12_init 458 = .ok (.newarray .boolean, 2) := by decide +kernel
theorem dX12_init_460 : decode cX12_init 460 = .ok (.putfield 151, 3) := by decide +kernel
theorem dX12_init_463 : decode cX12_init 463 = .ok (.aload_n 0, 1) := by decide +kernel
theorem dX12_init_464 : decode cX12_init 464 = .ok (.invokevirtual 154, 3) := by decide +kernel
theorem dX12_init_467 : decode cX12_init 467 = .ok (.return_, 1) := by decide +kernel
theorem dX12_thrown_0 : decode cX12_thrown 0 = .ok (.aload_n 0, 1) := by decide +kernel
theorem dX12_thrown_1 : decode cX12_thrown 1 = .ok (.getfield 157, 3) := by decide +kernel
theorem dX12_thrown_4 : decode cX12_thrown 4 = .ok (.ireturn, 1) := by decide +kernel
theorem dX12_feed_0 : decode cX12_feed 0 = .ok (.aload_n 0, 1) := by decide +kernel
theorem dX12_feed_1 : decode cX12_feed 1 = .ok (.iconst 0, 1) := by decide +kernel
theorem dX12_feed_2 : decode cX12_feed 2 = .ok (.putfield 157, 3) := by decide +kernel
theorem dX12_feed_5 : decode cX12_feed 5 = .ok (.aload_n 0, 1) := by decide +kernel
theorem dX12_feed_6 : decode cX12_feed 6 = .ok (.getfield 160, 3) := by decide +kernel
theorem dX12_feed_9 : decode cX12_feed 9 = .ok (.sipush 680, 3) := by decide +kernel
theorem dX12_feed_12 : decode cX12_feed 12 = .ok (.if_icmp .le 5, 3) := by decide +kernel
theorem dX12_feed_15 : decode cX12_feed 15 = .ok (.iconst (-1), 1) := by decide +kernel
theorem dX12_feed_16 : decode cX12_feed 16 = .ok (.ireturn, 1) := by decide +kernel
theorem dX12_feed_17 : decode cX12_feed 17 = .ok (.iconst 0, 1) := by decide +kernel
theorem dX12_feed_18 : decode cX12_feed 18 = .ok (.istore 6, 2) := by decide +kernel
theorem dX12_feed_20 : decode cX12_feed 20 = .ok (.iload 6, 2) := by decide +kernel
theorem dX12_feed_22 : decode cX12_feed 22 = .ok (.bipush 20, 2) := by decide +kernel
theorem dX12_feed_24 : decode cX12_feed 24 = .ok (.if_icmp .ge 86, 3) := by decide +kernel
theorem dX12_feed_27 : decode cX12_feed 27 = .ok (.iload 6, 2) := by decide +kernel
theorem dX12_feed_29 : decode cX12_feed 29 = .ok (.iconst 4, 1) := by decide +kernel
theorem dX12_feed_30 : decode cX12_feed 30 = .ok (.if_icmp .ge 7, 3) := by decide +kernel
theorem dX12_feed_33 : decode cX12_feed 33 = .ok (.iload_n 1, 1) := by decide +kernel
theorem dX12_feed_34 : decode cX12_feed 34 = .ok (.goto 39, 3) := by decide +kernel
theorem dX12_feed_37 : decode cX12_feed 37 = .ok (.iload 6, 2) := by decide +kernel
theorem dX12_feed_39 : decode cX12_feed 39 = .ok (.bipush 8, 2) := by decide +kernel
theorem dX12_feed_41 : decode cX12_feed 41 = .ok (.if_icmp .ge 7, 3) := by decide +kernel
theorem dX12_feed_44 : decode cX12_feed 44 = .ok (.iload_n 2, 1) := by decide +kernel
theorem dX12_feed_45 : decode cX12_feed 45 = .ok (.goto 28, 3) := by decide +kernel
theorem dX12_feed_48 : decode cX12_feed 48 = .ok (.iload 6, 2) := by decide +kernel
theorem dX12_feed_50 : decode cX12_feed 50 = .ok (.bipush 12, 2) := by decide +kernel
theorem dX12_feed_52 : decode cX12_feed 52 = .ok (.if_icmp .ge 7, 3) := by decide +kernel
theorem dX12_feed_55 : decode cX12_feed 55 = .ok (.iload_n 3, 1) := by decide +kernel
theorem dX12_feed_56 : decode cX12_feed 56 = .ok (.goto 17, 3) := by decide +kernel
theorem dX12_feed_59 : decode cX12_feed 59 = .ok (.iload 6, 2) := by decide +kernel
theorem dX12_feed_61 : decode cX12_feed 61 = .ok (.bipush 16, 2) := by decide +kernel
theorem dX12_feed_63 : decode cX12_feed 63 = .ok (.if_icmp .ge 8, 3) := by decide +kernel
theorem dX12_feed_66 : decode cX12_feed 66 = .ok (.iload 4, 2) := by decide +kernel
theorem dX12_feed_68 : decode cX12_feed 68 = .ok (.goto 5, 3) := by decide +kernel
theorem dX12_feed_71 : decode cX12_feed 71 = .ok (.iload 5, 2) := by decide +kernel
theorem dX12_feed_73 : decode cX12_feed 73 = .ok (.istore 7, 2) := by decide +kernel
theorem dX12_feed_75 : decode cX12_feed 75 = .ok (.aload_n 0, 1) := by decide +kernel
theorem dX12_feed_76 : decode cX12_feed 76 = .ok (.getfield 7, 3) := by decide +kernel
theorem dX12_feed_79 : decode cX12_feed 79 = .ok (.aload_n 0, 1) := by decide +kernel
theorem dX12_feed_80 : decode cX12_feed 80 = .ok (.getfield 160, 3) := by decide +kernel
theorem dX12_feed_83 : decode cX12_feed 83 = .ok (.iload 6, 2) := by decide +kernel
theorem dX12_feed_85 : decode cX12_feed 85 = .ok (.iadd, 1) := by decide +kernel
theorem dX12_feed_86 : decode cX12_feed 86 = .ok (.iload 7, 2) := by decide +kernel
theorem dX12_feed_88 : decode cX12_feed 88 = .ok (.bipush 24, 2) := by decide +kernel
theorem dX12_feed_90 : decode cX12_feed 90 = .ok (.bipush 8, 2) := by decide +kernel
theorem dX12_feed_92 : decode cX12_feed 92 = .ok (.iload 6, 2) := by decide +kernel
theorem dX12_feed_94 : decode cX12_feed 94 = .ok (.iconst 4, 1) := by decide +kernel
theorem dX12_feed_95 : decode cX12_feed 95 = .ok (.irem, 1) := by decide +kernel
theorem dX12_feed_96 : decode cX12_feed 96 = .ok (.imul, 1) := by decide +kernel
theorem dX12_feed_97 : decode cX12_feed 97 = .ok (.isub, 1) := by decide +kernel
theorem dX12_feed_98 : decode cX12_feed 98 = .ok (.ishr, 1) := by decide +kernel
theorem dX12_feed_99 : decode cX12_feed 99 = .ok (.sipush 255, 3) := by decide +kernel
theorem dX12_feed_102 : decode cX12_feed 102 = .ok (.iand, 1) := by decide +kernel
theorem dX12_feed_103 : decode cX12_feed 103 = .ok (.iastore, 1) := by decide +kernel
theorem dX12_feed_104 : decode cX12_feed 104 = .ok (.iinc 6 1, 3) := by decide +kernel
theorem dX12_feed_107 : decode cX12_feed 107 = .ok (.goto (-87), 3) := by decide +kernel
theorem dX12_feed_110 : decode cX12_feed 110 = .ok (.aload_n 0, 1) := by decide +kernel
theorem dX12_feed_111 : decode cX12_feed 111 = .ok (.dup, 1) := by decide +kernel
theorem dX12_feed_112 : decode cX12_feed 112 = .ok (.getfield 160, 3) := by decide +kernel
theorem dX12_feed_115 : decode cX12_feed 115 = .ok (.bipush 20, 2) := by decide +kernel
theorem dX12_feed_117 : decode cX12_feed 117 = .ok (.iadd, 1) := by decide +kernel
theorem dX12_feed_118 : decode cX12_feed 118 = .ok (.putfield 160, 3) := by decide +kernel
theorem dX12_feed_121 : decode cX12_feed 121 = .ok (.aload_n 0, 1) := by decide +kernel
theorem dX12_feed_122 : decode cX12_feed 122 = .ok (.getfield 160, 3) := by decide +kernel
theorem dX12_feed_125 : decode cX12_feed 125 = .ok (.ireturn, 1) := by decide +kernel
theorem dX12_here_0 : decode cX12_here 0 = .ok (.aload_n 0, 1) := by decide +kernel
theorem dX12_here_1 : decode cX12_here 1 = .ok (.getfield 163, 3) := by decide +kernel
theorem dX12_here_4 : decode cX12_here 4 = .ok (.aload_n 0, 1) := by decide +kernel
theorem dX12_here_5 : decode cX12_here 5 = .ok (.getfield 166, 3) := by decide +kernel
theorem dX12_here_8 : decode cX12_here 8 = .ok (.if_icmp .ge 15, 3) := by decide +kernel
theorem dX12_here_11 : decode cX12_here 11 = .ok (.aload_n 0, 1) := by decide +kernel
theorem dX12_here_12 : decode cX12_here 12 = .ok (.getfield 7, 3) := by decide +kernel
theorem dX12_here_15 : decode cX12_here 15 = .ok (.aload_n 0, 1) := by decide +kernel
theorem dX12_here_16 : decode cX12_here 16 = .ok (.getfield 163, 3) := by decide +kernel
theorem dX12_here_19 : decode cX12_here 19 = .ok (.iaload, 1) := by decide +kernel
theorem dX12_here_20 : decode cX12_here 20 = .ok (.goto 4, 3) := by decide +kernel
theorem dX12_here_23 : decode cX12_here 23 = .ok (.iconst (-1), 1) := by decide +kernel
theorem dX12_here_24 : decode cX12_here 24 = .ok (.ireturn, 1) := by decide +kernel
theorem dX12_isSmall_0 : decode cX12_isSmall 0 = .ok (.iload_n 0, 1) := by decide +kernel
theorem dX12_isSmall_1 : decode cX12_isSmall 1 = .ok (.bipush 97, 2) := by decide +kernel
theorem dX12_isSmall_3 : decode cX12_isSmall 3 = .ok (.if_icmp .lt 13, 3) := by decide +kernel
theorem dX12_isSmall_6 : decode cX12_isSmall 6 = .ok (.iload_n 0, 1) := by decide +kernel
theorem dX12_isSmall_7 : decode cX12_isSmall 7 = .ok (.bipush 122, 2) := by decide +kernel
theorem dX12_isSmall_9 : decode cX12_isSmall 9 = .ok (.if_icmp .gt 7, 3) := by decide +kernel
theorem dX12_isSmall_12 : decode cX12_isSmall 12 = .ok (.iconst 1, 1) := by decide +kernel
theorem dX12_isSmall_13 : decode cX12_isSmall 13 = .ok (.goto 4, 3) := by decide +kernel
theorem dX12_isSmall_16 : decode cX12_isSmall 16 = .ok (.iconst 0, 1) := by decide +kernel
theorem dX12_isSmall_17 : decode cX12_isSmall 17 = .ok (.ireturn, 1) := by decide +kernel
theorem dX12_isDigit_0 : decode cX12_isDigit 0 = .ok (.iload_n 0, 1) := by decide +kernel
theorem dX12_isDigit_1 : decode cX12_isDigit 1 = .ok (.bipush 48, 2) := by decide +kernel
theorem dX12_isDigit_3 : decode cX12_isDigit 3 = .ok (.if_icmp .lt 13, 3) := by decide +kernel
theorem dX12_isDigit_6 : decode cX12_isDigit 6 = .ok (.iload_n 0, 1) := by decide +kernel
theorem dX12_isDigit_7 : decode cX12_isDigit 7 = .ok (.bipush 57, 2) := by decide +kernel
theorem dX12_isDigit_9 : decode cX12_isDigit 9 = .ok (.if_icmp .gt 7, 3) := by decide +kernel
theorem dX12_isDigit_12 : decode cX12_isDigit 12 = .ok (.iconst 1, 1) := by decide +kernel
theorem dX12_isDigit_13 : decode cX12_isDigit 13 = .ok (.goto 4, 3) := by decide +kernel
theorem dX12_isDigit_16 : decode cX12_isDigit 16 = .ok (.iconst 0, 1) := by decide +kernel
theorem dX12_isDigit_17 : decode cX12_isDigit 17 = .ok (.ireturn, 1) := by decide +kernel
theorem dX12_token_0 : decode cX12_token 0 = .ok (.aload_n 0, 1) := by decide +kernel
theorem dX12_token_1 : decode cX12_token 1 = .ok (.invokevirtual 169, 3) := by decide +kernel
theorem dX12_token_4 : decode cX12_token 4 = .ok (.bipush 10, 2) := by decide +kernel
theorem dX12_token_6 : decode cX12_token 6 = .ok (.if_icmp .eq 12, 3) := by decide +kernel
theorem dX12_token_9 : decode cX12_token 9 = .ok (.aload_n 0, 1) := by decide +kernel
theorem dX12_token_10 : decode cX12_token 10 = .ok (.invokevirtual 169, 3) := by decide +kernel
theorem dX12_token_13 : decode cX12_token 13 = .ok (.bipush 32, 2) := by decide +kernel
theorem dX12_token_15 : decode cX12_token 15 = .ok (.if_icmp .ne 16, 3) := by decide +kernel
theorem dX12_token_18 : decode cX12_token 18 = .ok (.aload_n 0, 1) := by decide +kernel
theorem dX12_token_19 : decode cX12_token 19 = .ok (.dup, 1) := by decide +kernel
theorem dX12_token_20 : decode cX12_token 20 = .ok (.getfield 163, 3) := by decide +kernel
theorem dX12_token_23 : decode cX12_token 23 = .ok (.iconst 1, 1) := by decide +kernel
theorem dX12_token_24 : decode cX12_token 24 = .ok (.iadd, 1) := by decide +kernel
theorem dX12_token_25 : decode cX12_token 25 = .ok (.putfield 163, 3) := by decide +kernel
theorem dX12_token_28 : decode cX12_token 28 = .ok (.goto (-28), 3) := by decide +kernel
theorem dX12_token_31 : decode cX12_token 31 = .ok (.aload_n 0, 1) := by decide +kernel
theorem dX12_token_32 : decode cX12_token 32 = .ok (.aload_n 0, 1) := by decide +kernel
theorem dX12_token_33 : decode cX12_token 33 = .ok (.getfield 163, 3) := by decide +kernel
theorem dX12_token_36 : decode cX12_token 36 = .ok (.putfield 173, 3) := by decide +kernel
theorem dX12_token_39 : decode cX12_token 39 = .ok (.aload_n 0, 1) := by decide +kernel
theorem dX12_token_40 : decode cX12_token 40 = .ok (.invokevirtual 169, 3) := by decide +kernel
theorem dX12_token_43 : decode cX12_token 43 = .ok (.istore_n 1, 1) := by decide +kernel
theorem dX12_token_44 : decode cX12_token 44 = .ok (.iload_n 1, 1) := by decide +kernel
theorem dX12_token_45 : decode cX12_token 45 = .ok (.iconst (-1), 1) := by decide +kernel
theorem dX12_token_46 : decode cX12_token 46 = .ok (.if_icmp .ne 11, 3) := by decide +kernel
theorem dX12_token_49 : decode cX12_token 49 = .ok (.aload_n 0, 1) := by decide +kernel
theorem dX12_token_50 : decode cX12_token 50 = .ok (.iconst 4, 1) := by decide +kernel
theorem dX12_token_51 : decode cX12_token 51 = .ok (.putfield 176, 3) := by decide +kernel
theorem dX12_token_54 : decode cX12_token 54 = .ok (.goto 171, 3) := by decide +kernel
theorem dX12_token_57 : decode cX12_token 57 = .ok (.iload_n 1, 1) := by decide +kernel
theorem dX12_token_58 : decode cX12_token 58 = .ok (.invokestatic 179, 3) := by decide +kernel
theorem dX12_token_61 : decode cX12_token 61 = .ok (.ifCond .eq 84, 3) := by decide +kernel
theorem dX12_token_64 : decode cX12_token 64 = .ok (.aload_n 0, 1) := by decide +kernel
theorem dX12_token_65 : decode cX12_token 65 = .ok (.invokevirtual 169, 3) := by decide +kernel
theorem dX12_token_68 : decode cX12_token 68 = .ok (.invokestatic 179, 3) := by decide +kernel
theorem dX12_token_71 : decode cX12_token 71 = .ok (.ifCond .eq 16, 3) := by decide +kernel
theorem dX12_token_74 : decode cX12_token 74 = .ok (.aload_n 0, 1) := by decide +kernel
theorem dX12_token_75 : decode cX12_token 75 = .ok (.dup, 1) := by decide +kernel
theorem dX12_token_76 : decode cX12_token 76 = .ok (.getfield 163, 3) := by decide +kernel
theorem dX12_token_79 : decode cX12_token 79 = .ok (.iconst 1, 1) := by decide +kernel
theorem dX12_token_80 : decode cX12_token 80 = .ok (.iadd, 1) := by decide +kernel
theorem dX12_token_81 : decode cX12_token 81 = .ok (.putfield 163, 3) := by decide +kernel
theorem dX12_token_84 : decode cX12_token 84 = .ok (.goto (-20), 3) := by decide +kernel
theorem dX12_token_87 : decode cX12_token 87 = .ok (.aload_n 0, 1) := by decide +kernel
theorem dX12_token_88 : decode cX12_token 88 = .ok (.aload_n 0, 1) := by decide +kernel
theorem dX12_token_89 : decode cX12_token 89 = .ok (.invokevirtual 183, 3) := by decide +kernel
theorem dX12_token_92 : decode cX12_token 92 = .ok (.putfield 186, 3) := by decide +kernel
theorem dX12_token_95 : decode cX12_token 95 = .ok (.aload_n 0, 1) := by decide +kernel
theorem dX12_token_96 : decode cX12_token 96 = .ok (.aload_n 0, 1) := by decide +kernel
theorem dX12_token_97 : decode cX12_token 97 = .ok (.getfield 186, 3) := by decide +kernel
theorem dX12_token_100 : decode cX12_token 100 = .ok (.iconst (-1), 1) := by decide +kernel
theorem dX12_token_101 : decode cX12_token 101 = .ok (.if_icmp .eq 7, 3) := by decide +kernel
theorem dX12_token_104 : decode cX12_token 104 = .ok (.iconst 0, 1) := by decide +kernel
theorem dX12_token_105 : decode cX12_token 105 = .ok (.goto 22, 3) := by decide +kernel
theorem dX12_token_108 : decode cX12_token 108 = .ok (.aload_n 0, 1) := by decide +kernel
theorem dX12_token_109 : decode cX12_token 109 = .ok (.getfield 163, 3) := by decide +kernel
theorem dX12_token_112 : decode cX12_token 112 = .ok (.aload_n 0, 1) := by decide +kernel
theorem dX12_token_113 : decode cX12_token 113 = .ok (.getfield 173, 3) := by decide +kernel
theorem dX12_token_116 : decode cX12_token 116 = .ok (.isub, 1) := by decide +kernel
theorem dX12_token_117 : decode cX12_token 117 = .ok (.bipush 6, 2) := by decide +kernel
theorem dX12_token_119 : decode cX12_token 119 = .ok (.if_icmp .le 7, 3) := by decide +kernel
theorem dX12_token_122 : decode cX12_token 122 = .ok (.iconst 5, 1) := by decide +kernel
theorem dX12_token_123 : decode cX12_token 123 = .ok (.goto 4, 3) := by decide +kernel
theorem dX12_token_126 : decode cX12_token 126 = .ok (.iconst 1, 1) := by decide +kernel
theorem dX12_token_127 : decode cX12_token 127 = .ok (.putfield 176, 3) := by decide +kernel
theorem dX12_token_130 : decode cX12_token 130 = .ok (.aload_n 0, 1) := by decide +kernel
theorem dX12_token_131 : decode cX12_token 131 = .ok (.getfield 176, 3) := by decide +kernel
theorem dX12_token_134 : decode cX12_token 134 = .ok (.iconst 1, 1) := by decide +kernel
theorem dX12_token_135 : decode cX12_token 135 = .ok (.if_icmp .ne 90, 3) := by decide +kernel
theorem dX12_token_138 : decode cX12_token 138 = .ok (.aload_n 0, 1) := by decide +kernel
theorem dX12_token_139 : decode cX12_token 139 = .ok (.invokevirtual 189, 3) := by decide +kernel
theorem dX12_token_142 : decode cX12_token 142 = .ok (.goto 83, 3) := by decide +kernel
theorem dX12_token_145 : decode cX12_token 145 = .ok (.iload_n 1, 1) := by decide +kernel
theorem dX12_token_146 : decode cX12_token 146 = .ok (.invokestatic 192, 3) := by decide +kernel
theorem dX12_token_149 : decode cX12_token 149 = .ok (.ifCond .eq 71, 3) := by decide +kernel
theorem dX12_token_152 : decode cX12_token 152 = .ok (.aload_n 0, 1) := by decide +kernel
theorem dX12_token_153 : decode cX12_token 153 = .ok (.iconst 2, 1) := by decide +kernel
theorem dX12_token_154 : decode cX12_token 154 = .ok (.putfield 176, 3) := by decide +kernel
theorem dX12_token_157 : decode cX12_token 157 = .ok (.aload_n 0, 1) := by decide +kernel
theorem dX12_token_158 : decode cX12_token 158 = .ok (.iconst 0, 1) := by decide +kernel
theorem dX12_token_159 : decode cX12_token 159 = .ok (.putfield 186, 3) := by decide +kernel
theorem dX12_token_162 : decode cX12_token 162 = .ok (.aload_n 0, 1) := by decide +kernel
theorem dX12_token_163 : decode cX12_token 163 = .ok (.invokevirtual 169, 3) := by decide +kernel
theorem dX12_token_166 : decode cX12_token 166 = .ok (.invokestatic 192, 3) := by decide +kernel
theorem dX12_token_169 : decode cX12_token 169 = .ok (.ifCond .eq 56, 3) := by decide +kernel
theorem dX12_token_172 : decode cX12_token 172 = .ok (.aload_n 0, 1) := by decide +kernel
theorem dX12_token_173 : decode cX12_token 173 = .ok (.aload_n 0, 1) := by decide +kernel
theorem dX12_token_174 : decode cX12_token 174 = .ok (.getfield 186, 3) := by decide +kernel
theorem dX12_token_177 : decode cX12_token 177 = .ok (.ldc 195, 2) := by decide +kernel
theorem dX12_token_179 : decode cX12_token 179 = .ok (.if_icmp .le 10, 3) := by decide +kernel
theorem dX12_token_182 : decode cX12_token 182 = .ok (.aload_n 0, 1) := by decide +kernel
theorem dX12_token_183 : decode cX12_token 183 = .ok (.getfield 186, 3) := by decide +kernel
theorem dX12_token_186 : decode cX12_token 186 = .ok (.goto 18, 3) := by decide +kernel
theorem dX12_token_189 : decode cX12_token 189 = .ok (.bipush 10, 2) := by decide +kernel
theorem dX12_token_191 : decode cX12_token 191 = .ok (.aload_n 0, 1) := by decide +kernel
theorem dX12_token_192 : decode cX12_token 192 = .ok (.getfield 186, 3) := by decide +kernel
theorem dX12_token_195 : decode cX12_token 195 = .ok (.imul, 1) := by decide +kernel
theorem dX12_token_196 : decode cX12_token 196 = .ok (.aload_n 0, 1) := by decide +kernel
theorem dX12_token_197 : decode cX12_token 197 = .ok (.invokevirtual 169, 3) := by decide +kernel
theorem dX12_token_200 : decode cX12_token 200 = .ok (.iadd, 1) := by decide +kernel
theorem dX12_token_201 : decode cX12_token 201 = .ok (.bipush 48, 2) := by decide +kernel
theorem dX12_token_203 : decode cX12_token 203 = .ok (.isub, 1) := by decide +kernel
theorem dX12_token_204 : decode cX12_token 204 = .ok (.putfield 186, 3) := by decide +kernel
theorem dX12_token_207 : decode cX12_token 207 = .ok (.aload_n 0, 1) := by decide +kernel
theorem dX12_token_208 : decode cX12_token 208 = .ok (.dup, 1) := by decide +kernel
theorem dX12_token_209 : decode cX12_token 209 = .ok (.getfield 163, 3) := by decide +kernel
theorem dX12_token_212 : decode cX12_token 212 = .ok (.iconst 1, 1) := by decide +kernel
theorem dX12_token_213 : decode cX12_token 213 = .ok (.iadd, 1) := by decide +kernel
theorem dX12_token_214 : decode cX12_token 214 = .ok (.putfield 163, 3) := by decide +kernel
theorem dX12_token_217 : decode cX12_token 217 = .ok (.goto (-55), 3) := by decide +kernel
theorem dX12_token_220 : decode cX12_token 220 = .ok (.aload_n 0, 1) := by decide +kernel
theorem dX12_token_221 : decode cX12_token 221 = .ok (.iload_n 1, 1) := by decide +kernel
theorem dX12_token_222 : decode cX12_token 222 = .ok (.invokevirtual 196, 3) := by decide +kernel
theorem dX12_token_225 : decode cX12_token 225 = .ok (.return_, 1) := by decide +kernel
theorem dX12_sign_0 : decode cX12_sign 0 = .ok (.aload_n 0, 1) := by decide +kernel
theorem dX12_sign_1 : decode cX12_sign 1 = .ok (.dup, 1) := by decide +kernel
theorem dX12_sign_2 : decode cX12_sign 2 = .ok (.getfield 163, 3) := by decide +kernel
theorem dX12_sign_5 : decode cX12_sign 5 = .ok (.iconst 1, 1) := by decide +kernel
theorem dX12_sign_6 : decode cX12_sign 6 = .ok (.iadd, 1) := by decide +kernel
theorem dX12_sign_7 : decode cX12_sign 7 = .ok (.putfield 163, 3) := by decide +kernel
theorem dX12_sign_10 : decode cX12_sign 10 = .ok (.aload_n 0, 1) := by decide +kernel
theorem dX12_sign_11 : decode cX12_sign 11 = .ok (.iload_n 1, 1) := by decide +kernel
theorem dX12_sign_12 : decode cX12_sign 12 = .ok (.bipush 59, 2) := by decide +kernel
theorem dX12_sign_14 : decode cX12_sign 14 = .ok (.if_icmp .eq 57, 3) := by decide +kernel
theorem dX12_sign_17 : decode cX12_sign 17 = .ok (.iload_n 1, 1) := by decide +kernel
theorem dX12_sign_18 : decode cX12_sign 18 = .ok (.bipush 40, 2) := by decide +kernel
theorem dX12_sign_20 : decode cX12_sign 20 = .ok (.if_icmp .eq 51, 3) := by decide +kernel
theorem dX12_sign_23 : decode cX12_sign 23 = .ok (.iload_n 1, 1) := by decide +kernel
theorem dX12_sign_24 : decode cX12_sign 24 = .ok (.bipush 41, 2) := by decide +kernel
theorem dX12_sign_26 : decode cX12_sign 26 = .ok (.if_icmp .eq 45, 3) := by decide +kernel
theorem dX12_sign_29 : decode cX12_sign 29 = .ok (.iload_n 1, 1) := by decide +kernel
theorem dX12_sign_30 : decode cX12_sign 30 = .ok (.bipush 43, 2) := by decide +kernel
theorem dX12_sign_32 : decode cX12_sign 32 = .ok (.if_icmp .eq 39, 3) := by decide +kernel
theorem dX12_sign_35 : decode cX12_sign 35 = .ok (.iload_n 1, 1) := by decide +kernel
theorem dX12_sign_36 : decode cX12_sign 36 = .ok (.bipush 45, 2) := by decide +kernel
theorem dX12_sign_38 : decode cX12_sign 38 = .ok (.if_icmp .eq 33, 3) := by decide +kernel
theorem dX12_sign_41 : decode cX12_sign 41 = .ok (.iload_n 1, 1) := by decide +kernel
theorem dX12_sign_42 : decode cX12_sign 42 = .ok (.bipush 42, 2) := by decide +kernel
theorem dX12_sign_44 : decode cX12_sign 44 = .ok (.if_icmp .eq 27, 3) := by decide +kernel
theorem dX12_sign_47 : decode cX12_sign 47 = .ok (.iload_n 1, 1) := by decide +kernel
theorem dX12_sign_48 : decode cX12_sign 48 = .ok (.bipush 47, 2) := by decide +kernel
theorem dX12_sign_50 : decode cX12_sign 50 = .ok (.if_icmp .eq 21, 3) := by decide +kernel
theorem dX12_sign_53 : decode cX12_sign 53 = .ok (.iload_n 1, 1) := by decide +kernel
theorem dX12_sign_54 : decode cX12_sign 54 = .ok (.bipush 60, 2) := by decide +kernel
theorem dX12_sign_56 : decode cX12_sign 56 = .ok (.if_icmp .eq 15, 3) := by decide +kernel
theorem dX12_sign_59 : decode cX12_sign 59 = .ok (.iload_n 1, 1) := by decide +kernel
theorem dX12_sign_60 : decode cX12_sign 60 = .ok (.bipush 61, 2) := by decide +kernel
theorem dX12_sign_62 : decode cX12_sign 62 = .ok (.if_icmp .eq 9, 3) := by decide +kernel
theorem dX12_sign_65 : decode cX12_sign 65 = .ok (.iload_n 1, 1) := by decide +kernel
theorem dX12_sign_66 : decode cX12_sign 66 = .ok (.bipush 62, 2) := by decide +kernel
theorem dX12_sign_68 : decode cX12_sign 68 = .ok (.if_icmp .ne 7, 3) := by decide +kernel
theorem dX12_sign_71 : decode cX12_sign 71 = .ok (.iconst 3, 1) := by decide +kernel
theorem dX12_sign_72 : decode cX12_sign 72 = .ok (.goto 4, 3) := by decide +kernel
theorem dX12_sign_75 : decode cX12_sign 75 = .ok (.iconst 5, 1) := by decide +kernel
theorem dX12_sign_76 : decode cX12_sign 76 = .ok (.putfield 176, 3) := by decide +kernel
theorem dX12_sign_79 : decode cX12_sign 79 = .ok (.aload_n 0, 1) := by decide +kernel
theorem dX12_sign_80 : decode cX12_sign 80 = .ok (.iload_n 1, 1) := by decide +kernel
theorem dX12_sign_81 : decode cX12_sign 81 = .ok (.putfield 186, 3) := by decide +kernel
theorem dX12_sign_84 : decode cX12_sign 84 = .ok (.iload_n 1, 1) := by decide +kernel
theorem dX12_sign_85 : decode cX12_sign 85 = .ok (.bipush 60, 2) := by decide +kernel
theorem dX12_sign_87 : decode cX12_sign 87 = .ok (.if_icmp .ne 19, 3) := by decide +kernel
theorem dX12_sign_90 : decode cX12_sign 90 = .ok (.aload_n 0, 1) := by decide +kernel
theorem dX12_sign_91 : decode cX12_sign 91 = .ok (.invokevirtual 169, 3) := by decide +kernel
theorem dX12_sign_94 : decode cX12_sign 94 = .ok (.bipush 61, 2) := by decide +kernel
theorem dX12_sign_96 : decode cX12_sign 96 = .ok (.if_icmp .ne 10, 3) := by decide +kernel
theorem dX12_sign_99 : decode cX12_sign 99 = .ok (.aload_n 0, 1) := by decide +kernel
theorem dX12_sign_100 : decode cX12_sign 100 = .ok (.sipush 256, 3) := by decide +kernel
theorem dX12_sign_103 : decode cX12_sign 103 = .ok (.putfield 186, 3) := by decide +kernel
theorem dX12_sign_106 : decode cX12_sign 106 = .ok (.iload_n 1, 1) := by decide +kernel
theorem dX12_sign_107 : decode cX12_sign 107 = .ok (.bipush 60, 2) := by decide +kernel
theorem dX12_sign_109 : decode cX12_sign 109 = .ok (.if_icmp .ne 19, 3) := by decide +kernel
theorem dX12_sign_112 : decode cX12_sign 112 = .ok (.aload_n 0, 1) := by decide +kernel
theorem dX12_sign_113 : decode cX12_sign 113 = .ok (.invokevirtual 169, 3) := by decide +kernel
theorem dX12_sign_116 : decode cX12_sign 116 = .ok (.bipush 62, 2) := by decide +kernel
theorem dX12_sign_118 : decode cX12_sign 118 = .ok (.if_icmp .ne 10, 3) := by decide +kernel
theorem dX12_sign_121 : decode cX12_sign 121 = .ok (.aload_n 0, 1) := by decide +kernel
theorem dX12_sign_122 : decode cX12_sign 122 = .ok (.sipush 257, 3) := by decide +kernel
theorem dX12_sign_125 : decode cX12_sign 125 = .ok (.putfield 186, 3) := by decide +kernel
theorem dX12_sign_128 : decode cX12_sign 128 = .ok (.iload_n 1, 1) := by decide +kernel
theorem dX12_sign_129 : decode cX12_sign 129 = .ok (.bipush 62, 2) := by decide +kernel
theorem dX12_sign_131 : decode cX12_sign 131 = .ok (.if_icmp .ne 19, 3) := by decide +kernel
theorem dX12_sign_134 : decode cX12_sign 134 = .ok (.aload_n 0, 1) := by decide +kernel
theorem dX12_sign_135 : decode cX12_sign 135 = .ok (.invokevirtual 169, 3) := by decide +kernel
theorem dX12_sign_138 : decode cX12_sign 138 = .ok (.bipush 61, 2) := by decide +kernel
theorem dX12_sign_140 : decode cX12_sign 140 = .ok (.if_icmp .ne 10, 3) := by decide +kernel
theorem dX12_sign_143 : decode cX12_sign 143 = .ok (.aload_n 0, 1) := by decide +kernel
theorem dX12_sign_144 : decode cX12_sign 144 = .ok (.sipush 258, 3) := by decide +kernel
theorem dX12_sign_147 : decode cX12_sign 147 = .ok (.putfield 186, 3) := by decide +kernel
theorem dX12_sign_150 : decode cX12_sign 150 = .ok (.aload_n 0, 1) := by decide +kernel
theorem dX12_sign_151 : decode cX12_sign 151 = .ok (.getfield 186, 3) := by decide +kernel
theorem dX12_sign_154 : decode cX12_sign 154 = .ok (.sipush 256, 3) := by decide +kernel
theorem dX12_sign_157 : decode cX12_sign 157 = .ok (.if_icmp .lt 13, 3) := by decide +kernel
theorem dX12_sign_160 : decode cX12_sign 160 = .ok (.aload_n 0, 1) := by decide +kernel
theorem dX12_sign_161 : decode cX12_sign 161 = .ok (.dup, 1) := by decide +kernel
theorem dX12_sign_162 : decode cX12_sign 162 = .ok (.getfield 163, 3) := by decide +kernel
theorem dX12_sign_165 : decode cX12_sign 165 = .ok (.iconst 1, 1) := by decide +kernel
theorem dX12_sign_166 : decode cX12_sign 166 = .ok (.iadd, 1) := by decide +kernel
theorem dX12_sign_167 : decode cX12_sign 167 = .ok (.putfield 163, 3) := by decide +kernel
theorem dX12_sign_170 : decode cX12_sign 170 = .ok (.return_, 1) := by decide +kernel
theorem dX12_word_0 : decode cX12_word 0 = .ok (.iconst 0, 1) := by decide +kernel
theorem dX12_word_1 : decode cX12_word 1 = .ok (.istore_n 1, 1) := by decide +kernel
theorem dX12_word_2 : decode cX12_word 2 = .ok (.iconst 0, 1) := by decide +kernel
theorem dX12_word_3 : decode cX12_word 3 = .ok (.istore_n 2, 1) := by decide +kernel
theorem dX12_word_4 : decode cX12_word 4 = .ok (.iload_n 2, 1) := by decide +kernel
theorem dX12_word_5 : decode cX12_word 5 = .ok (.ldc 199, 2) := by decide +kernel
theorem dX12_word_7 : decode cX12_word 7 = .ok (.invokevirtual 201, 3) := by decide +kernel
theorem dX12_word_10 : decode cX12_word 10 = .ok (.if_icmp .ge 113, 3) := by decide +kernel
theorem dX12_word_13 : decode cX12_word 13 = .ok (.iconst 0, 1) := by decide +kernel
theorem dX12_word_14 : decode cX12_word 14 = .ok (.istore_n 3, 1) := by decide +kernel
theorem dX12_word_15 : decode cX12_word 15 = .ok (.ldc 199, 2) := by decide +kernel
theorem dX12_word_17 : decode cX12_word 17 = .ok (.iload_n 2, 1) := by decide +kernel
theorem dX12_word_18 : decode cX12_word 18 = .ok (.iload_n 3, 1) := by decide +kernel
theorem dX12_word_19 : decode cX12_word 19 = .ok (.iadd, 1) := by decide +kernel
theorem dX12_word_20 : decode cX12_word 20 = .ok (.invokevirtual 206, 3) := by decide +kernel
theorem dX12_word_23 : decode cX12_word 23 = .ok (.bipush 32, 2) := by decide +kernel
theorem dX12_word_25 : decode cX12_word 25 = .ok (.if_icmp .eq 44, 3) := by decide +kernel
theorem dX12_word_28 : decode cX12_word 28 = .ok (.aload_n 0, 1) := by decide +kernel
theorem dX12_word_29 : decode cX12_word 29 = .ok (.getfield 173, 3) := by decide +kernel
theorem dX12_word_32 : decode cX12_word 32 = .ok (.iload_n 3, 1) := by decide +kernel
theorem dX12_word_33 : decode cX12_word 33 = .ok (.iadd, 1) := by decide +kernel
theorem dX12_word_34 : decode cX12_word 34 = .ok (.aload_n 0, 1) := by decide +kernel
theorem dX12_word_35 : decode cX12_word 35 = .ok (.getfield 163, 3) := by decide +kernel
theorem dX12_word_38 : decode cX12_word 38 = .ok (.if_icmp .ge 31, 3) := by decide +kernel
theorem dX12_word_41 : decode cX12_word 41 = .ok (.aload_n 0, 1) := by decide +kernel
theorem dX12_word_42 : decode cX12_word 42 = .ok (.getfield 7, 3) := by decide +kernel
theorem dX12_word_45 : decode cX12_word 45 = .ok (.aload_n 0, 1) := by decide +kernel
theorem dX12_word_46 : decode cX12_word 46 = .ok (.getfield 173, 3) := by decide +kernel
theorem dX12_word_49 : decode cX12_word 49 = .ok (.iload_n 3, 1) := by decide +kernel
theorem dX12_word_50 : decode cX12_word 50 = .ok (.iadd, 1) := by decide +kernel
theorem dX12_word_51 : decode cX12_word 51 = .ok (.iaload, 1) := by decide +kernel
theorem dX12_word_52 : decode cX12_word 52 = .ok (.ldc 199, 2) := by decide +kernel
theorem dX12_word_54 : decode cX12_word 54 = .ok (.iload_n 2, 1) := by decide +kernel
theorem dX12_word_55 : decode cX12_word 55 = .ok (.iload_n 3, 1) := by decide +kernel
theorem dX12_word_56 : decode cX12_word 56 = .ok (.iadd, 1) := by decide +kernel
theorem dX12_word_57 : decode cX12_word 57 = .ok (.invokevirtual 206, 3) := by decide +kernel
theorem dX12_word_60 : decode cX12_word 60 = .ok (.if_icmp .ne 9, 3) := by decide +kernel
theorem dX12_word_63 : decode cX12_word 63 = .ok (.iinc 3 1, 3) := by decide +kernel
theorem dX12_word_66 : decode cX12_word 66 = .ok (.goto (-51), 3) := by decide +kernel
theorem dX12_word_69 : decode cX12_word 69 = .ok (.ldc 199, 2) := by decide +kernel
theorem dX12_word_71 : decode cX12_word 71 = .ok (.iload_n 2, 1) := by decide +kernel
theorem dX12_word_72 : decode cX12_word 72 = .ok (.iload_n 3, 1) := by decide +kernel
theorem dX12_word_73 : decode cX12_word 73 = .ok (.iadd, 1) := by decide +kernel
theorem dX12_word_74 : decode cX12_word 74 = .ok (.invokevirtual 206, 3) := by decide +kernel
theorem dX12_word_77 : decode cX12_word 77 = .ok (.bipush 32, 2) := by decide +kernel
theorem dX12_word_79 : decode cX12_word 79 = .ok (.if_icmp .ne 18, 3) := by decide +kernel
theorem dX12_word_82 : decode cX12_word 82 = .ok (.aload_n 0, 1) := by decide +kernel
theorem dX12_word_83 : decode cX12_word 83 = .ok (.getfield 173, 3) := by decide +kernel
theorem dX12_word_86 : decode cX12_word 86 = .ok (.iload_n 3, 1) := by decide +kernel
theorem dX12_word_87 : decode cX12_word 87 = .ok (.iadd, 1) := by decide +kernel
theorem dX12_word_88 : decode cX12_word 88 = .ok (.aload_n 0, 1) := by decide +kernel
theorem dX12_word_89 : decode cX12_word 89 = .ok (.getfield 163, 3) := by decide +kernel
theorem dX12_word_92 : decode cX12_word 92 = .ok (.if_icmp .ne 5, 3) := by decide +kernel
theorem dX12_word_95 : decode cX12_word 95 = .ok (.iload_n 1, 1) := by decide +kernel
theorem dX12_word_96 : decode cX12_word 96 = .ok (.ireturn, 1) := by decide +kernel
theorem dX12_word_97 : decode cX12_word 97 = .ok (.ldc 199, 2) := by decide +kernel
theorem dX12_word_99 : decode cX12_word 99 = .ok (.iload_n 2, 1) := by decide +kernel
theorem dX12_word_100 : decode cX12_word 100 = .ok (.invokevirtual 206, 3) := by decide +kernel
theorem dX12_word_103 : decode cX12_word 103 = .ok (.bipush 32, 2) := by decide +kernel
theorem dX12_word_105 : decode cX12_word 105 = .ok (.if_icmp .eq 9, 3) := by decide +kernel
theorem dX12_word_108 : decode cX12_word 108 = .ok (.iinc 2 1, 3) := by decide +kernel
theorem dX12_word_111 : decode cX12_word 111 = .ok (.goto (-14), 3) := by decide +kernel
theorem dX12_word_114 : decode cX12_word 114 = .ok (.iinc 2 1, 3) := by decide +kernel
theorem dX12_word_117 : decode cX12_word 117 = .ok (.iinc 1 1, 3) := by decide +kernel
theorem dX12_word_120 : decode cX12_word 120 = .ok (.goto (-116), 3) := by decide +kernel
theorem dX12_word_123 : decode cX12_word 123 = .ok (.iconst (-1), 1) := by decide +kernel
theorem dX12_word_124 : decode cX12_word 124 = .ok (.ireturn, 1) := by decide +kernel
theorem dX12_name_0 : decode cX12_name 0 = .ok (.aload_n 0, 1) := by decide +kernel
theorem dX12_name_1 : decode cX12_name 1 = .ok (.iconst 0, 1) := by decide +kernel
theorem dX12_name_2 : decode cX12_name 2 = .ok (.putfield 186, 3) := by decide +kernel
theorem dX12_name_5 : decode cX12_name 5 = .ok (.iconst 0, 1) := by decide +kernel
theorem dX12_name_6 : decode cX12_name 6 = .ok (.istore_n 1, 1) := by decide +kernel
theorem dX12_name_7 : decode cX12_name 7 = .ok (.iload_n 1, 1) := by decide +kernel
theorem dX12_name_8 : decode cX12_name 8 = .ok (.bipush 6, 2) := by decide +kernel
theorem dX12_name_10 : decode cX12_name 10 = .ok (.if_icmp .ge 53, 3) := by decide +kernel
theorem dX12_name_13 : decode cX12_name 13 = .ok (.aload_n 0, 1) := by decide +kernel
theorem dX12_name_14 : decode cX12_name 14 = .ok (.aload_n 0, 1) := by decide +kernel
theorem dX12_name_15 : decode cX12_name 15 = .ok (.getfield 186, 3) := by decide +kernel
theorem dX12_name_18 : decode cX12_name 18 = .ok (.iconst 5, 1) := by decide +kernel
theorem dX12_name_19 : decode cX12_name 19 = .ok (.ishl, 1) := by decide +kernel
theorem dX12_name_20 : decode cX12_name 20 = .ok (.aload_n 0, 1) := by decide +kernel
theorem dX12_name_21 : decode cX12_name 21 = .ok (.getfield 173, 3) := by decide +kernel
theorem dX12_name_24 : decode cX12_name 24 = .ok (.iload_n 1, 1) := by decide +kernel
theorem dX12_name_25 : decode cX12_name 25 = .ok (.iadd, 1) := by decide +kernel
theorem dX12_name_26 : decode cX12_name 26 = .ok (.aload_n 0, 1) := by decide +kernel
theorem dX12_name_27 : decode cX12_name 27 = .ok (.getfield 163, 3) := by decide +kernel
theorem dX12_name_30 : decode cX12_name 30 = .ok (.if_icmp .ge 22, 3) := by decide +kernel
theorem dX12_name_33 : decode cX12_name 33 = .ok (.aload_n 0, 1) := by decide +kernel
theorem dX12_name_34 : decode cX12_name 34 = .ok (.getfield 7, 3) := by decide +kernel
theorem dX12_name_37 : decode cX12_name 37 = .ok (.aload_n 0, 1) := by decide +kernel
theorem dX12_name_38 : decode cX12_name 38 = .ok (.getfield 173, 3) := by decide +kernel
theorem dX12_name_41 : decode cX12_name 41 = .ok (.iload_n 1, 1) := by decide +kernel
theorem dX12_name_42 : decode cX12_name 42 = .ok (.iadd, 1) := by decide +kernel
theorem dX12_name_43 : decode cX12_name 43 = .ok (.iaload, 1) := by decide +kernel
theorem dX12_name_44 : decode cX12_name 44 = .ok (.bipush 97, 2) := by decide +kernel
theorem dX12_name_46 : decode cX12_name 46 = .ok (.isub, 1) := by decide +kernel
theorem dX12_name_47 : decode cX12_name 47 = .ok (.iconst 1, 1) := by decide +kernel
theorem dX12_name_48 : decode cX12_name 48 = .ok (.iadd, 1) := by decide +kernel
theorem dX12_name_49 : decode cX12_name 49 = .ok (.goto 4, 3) := by decide +kernel
theorem dX12_name_52 : decode cX12_name 52 = .ok (.iconst 0, 1) := by decide +kernel
theorem dX12_name_53 : decode cX12_name 53 = .ok (.ior, 1) := by decide +kernel
theorem dX12_name_54 : decode cX12_name 54 = .ok (.putfield 186, 3) := by decide +kernel
theorem dX12_name_57 : decode cX12_name 57 = .ok (.iinc 1 1, 3) := by decide +kernel
theorem dX12_name_60 : decode cX12_name 60 = .ok (.goto (-53), 3) := by decide +kernel
theorem dX12_name_63 : decode cX12_name 63 = .ok (.return_, 1) := by decide +kernel
theorem dX12_wrong_0 : decode cX12_wrong 0 = .ok (.aload_n 0, 1) := by decide +kernel
theorem dX12_wrong_1 : decode cX12_wrong 1 = .ok (.getfield 210, 3) := by decide +kernel
theorem dX12_wrong_4 : decode cX12_wrong 4 = .ok (.ifCond .eq 4, 3) := by decide +kernel
theorem dX12_wrong_7 : decode cX12_wrong 7 = .ok (.return_, 1) := by decide +kernel
theorem dX12_wrong_8 : decode cX12_wrong 8 = .ok (.aload_n 0, 1) := by decide +kernel
theorem dX12_wrong_9 : decode cX12_wrong 9 = .ok (.iload_n 1, 1) := by decide +kernel
theorem dX12_wrong_10 : decode cX12_wrong 10 = .ok (.putfield 210, 3) := by decide +kernel
theorem dX12_wrong_13 : decode cX12_wrong 13 = .ok (.aload_n 0, 1) := by decide +kernel
theorem dX12_wrong_14 : decode cX12_wrong 14 = .ok (.aload_n 0, 1) := by decide +kernel
theorem dX12_wrong_15 : decode cX12_wrong 15 = .ok (.getfield 173, 3) := by decide +kernel
theorem dX12_wrong_18 : decode cX12_wrong 18 = .ok (.putfield 213, 3) := by decide +kernel
theorem dX12_wrong_21 : decode cX12_wrong 21 = .ok (.return_, 1) := by decide +kernel
theorem dX12_isWord_0 : decode cX12_isWord 0 = .ok (.aload_n 0, 1) := by decide +kernel
theorem dX12_isWord_1 : decode cX12_isWord 1 = .ok (.getfield 210, 3) := by decide +kernel
theorem dX12_isWord_4 : decode cX12_isWord 4 = .ok (.ifCond .ne 22, 3) := by decide +kernel
theorem dX12_isWord_7 : decode cX12_isWord 7 = .ok (.aload_n 0, 1) := by decide +kernel
theorem dX12_isWord_8 : decode cX12_isWord 8 = .ok (.getfield 176, 3) := by decide +kernel
theorem dX12_isWord_11 : decode cX12_isWord 11 = .ok (.ifCond .ne 15, 3) := by decide +kernel
theorem dX12_isWord_14 : decode cX12_isWord 14 = .ok (.aload_n 0, 1) := by decide +kernel
theorem dX12_isWord_15 : decode cX12_isWord 15 = .ok (.getfield 186, 3) := by decide +kernel
theorem dX12_isWord_18 : decode cX12_isWord 18 = .ok (.iload_n 1, 1) := by decide +kernel
theorem dX12_isWord_19 : decode cX12_isWord 19 = .ok (.if_icmp .ne 7, 3) := by decide +kernel
theorem dX12_isWord_22 : decode cX12_isWord 22 = .ok (.iconst 1, 1) := by decide +kernel
theorem dX12_isWord_23 : decode cX12_isWord 23 = .ok (.goto 4, 3) := by decide +kernel
theorem dX12_isWord_26 : decode cX12_isWord 26 = .ok (.iconst 0, 1) := by decide +kernel
theorem dX12_isWord_27 : decode cX12_isWord 27 = .ok (.ireturn, 1) := by decide +kernel
theorem dX12_isSign_0 : decode cX12_isSign 0 = .ok (.aload_n 0, 1) := by decide +kernel
theorem dX12_isSign_1 : decode cX12_isSign 1 = .ok (.getfield 210, 3) := by decide +kernel
theorem dX12_isSign_4 : decode cX12_isSign 4 = .ok (.ifCond .ne 23, 3) := by decide +kernel
theorem dX12_isSign_7 : decode cX12_isSign 7 = .ok (.aload_n 0, 1) := by decide +kernel
theorem dX12_isSign_8 : decode cX12_isSign 8 = .ok (.getfield 176, 3) := by decide +kernel
theorem dX12_isSign_11 : decode cX12_isSign 11 = .ok (.iconst 3, 1) := by decide +kernel
theorem dX12_isSign_12 : decode cX12_isSign 12 = .ok (.if_icmp .ne 15, 3) := by decide +kernel
theorem dX12_isSign_15 : decode cX12_isSign 15 = .ok (.aload_n 0, 1) := by decide +kernel
theorem dX12_isSign_16 : decode cX12_isSign 16 = .ok (.getfield 186, 3) := by decide +kernel
theorem dX12_isSign_19 : decode cX12_isSign 19 = .ok (.iload_n 1, 1) := by decide +kernel
theorem dX12_isSign_20 : decode cX12_isSign 20 = .ok (.if_icmp .ne 7, 3) := by decide +kernel
theorem dX12_isSign_23 : decode cX12_isSign 23 = .ok (.iconst 1, 1) := by decide +kernel
theorem dX12_isSign_24 : decode cX12_isSign 24 = .ok (.goto 4, 3) := by decide +kernel
theorem dX12_isSign_27 : decode cX12_isSign 27 = .ok (.iconst 0, 1) := by decide +kernel
theorem dX12_isSign_28 : decode cX12_isSign 28 = .ok (.ireturn, 1) := by decide +kernel
theorem dX12_goOn_0 : decode cX12_goOn 0 = .ok (.aload_n 0, 1) := by decide +kernel
theorem dX12_goOn_1 : decode cX12_goOn 1 = .ok (.getfield 210, 3) := by decide +kernel
theorem dX12_goOn_4 : decode cX12_goOn 4 = .ok (.ifCond .ne 7, 3) := by decide +kernel
theorem dX12_goOn_7 : decode cX12_goOn 7 = .ok (.aload_n 0, 1) := by decide +kernel
theorem dX12_goOn_8 : decode cX12_goOn 8 = .ok (.invokevirtual 216, 3) := by decide +kernel
theorem dX12_goOn_11 : decode cX12_goOn 11 = .ok (.return_, 1) := by decide +kernel
theorem dX12_numeral_0 : decode cX12_numeral 0 = .ok (.aload_n 0, 1) := by decide +kernel
theorem dX12_numeral_1 : decode cX12_numeral 1 = .ok (.getfield 210, 3) := by decide +kernel
theorem dX12_numeral_4 : decode cX12_numeral 4 = .ok (.ifCond .eq 5, 3) := by decide +kernel
theorem dX12_numeral_7 : decode cX12_numeral 7 = .ok (.iload_n 1, 1) := by decide +kernel
theorem dX12_numeral_8 : decode cX12_numeral 8 = .ok (.ireturn, 1) := by decide +kernel
theorem dX12_numeral_9 : decode cX12_numeral 9 = .ok (.aload_n 0, 1) := by decide +kernel
theorem dX12_numeral_10 : decode cX12_numeral 10 = .ok (.getfield 176, 3) := by decide +kernel
theorem dX12_numeral_13 : decode cX12_numeral 13 = .ok (.iconst 2, 1) := by decide +kernel
theorem dX12_numeral_14 : decode cX12_numeral 14 = .ok (.if_icmp .eq 11, 3) := by decide +kernel
theorem dX12_numeral_17 : decode cX12_numeral 17 = .ok (.aload_n 0, 1) := by decide +kernel
theorem dX12_numeral_18 : decode cX12_numeral 18 = .ok (.iconst 1, 1) := by decide +kernel
theorem dX12_numeral_19 : decode cX12_numeral 19 = .ok (.invokevirtual 219, 3) := by decide +kernel
theorem dX12_numeral_22 : decode cX12_numeral 22 = .ok (.goto 24, 3) := by decide +kernel
theorem dX12_numeral_25 : decode cX12_numeral 25 = .ok (.aload_n 0, 1) := by decide +kernel
theorem dX12_numeral_26 : decode cX12_numeral 26 = .ok (.getfield 186, 3) := by decide +kernel
theorem dX12_numeral_29 : decode cX12_numeral 29 = .ok (.iload_n 1, 1) := by decide +kernel
theorem dX12_numeral_30 : decode cX12_numeral 30 = .ok (.if_icmp .lt 11, 3) := by decide +kernel
theorem dX12_numeral_33 : decode cX12_numeral 33 = .ok (.aload_n 0, 1) := by decide +kernel
theorem dX12_numeral_34 : decode cX12_numeral 34 = .ok (.getfield 186, 3) := by decide +kernel
theorem dX12_numeral_37 : decode cX12_numeral 37 = .ok (.iload_n 2, 1) := by decide +kernel
theorem dX12_numeral_38 : decode cX12_numeral 38 = .ok (.if_icmp .le 8, 3) := by decide +kernel
theorem dX12_numeral_41 : decode cX12_numeral 41 = .ok (.aload_n 0, 1) := by decide +kernel
theorem dX12_numeral_42 : decode cX12_numeral 42 = .ok (.iconst 2, 1) := by decide +kernel
theorem dX12_numeral_43 : decode cX12_numeral 43 = .ok (.invokevirtual 219, 3) := by decide +kernel
theorem dX12_numeral_46 : decode cX12_numeral 46 = .ok (.aload_n 0, 1) := by decide +kernel
theorem dX12_numeral_47 : decode cX12_numeral 47 = .ok (.getfield 210, 3) := by decide +kernel
theorem dX12_numeral_50 : decode cX12_numeral 50 = .ok (.ifCond .eq 5, 3) := by decide +kernel
theorem dX12_numeral_53 : decode cX12_numeral 53 = .ok (.iload_n 1, 1) := by decide +kernel
theorem dX12_numeral_54 : decode cX12_numeral 54 = .ok (.ireturn, 1) := by decide +kernel
theorem dX12_numeral_55 : decode cX12_numeral 55 = .ok (.aload_n 0, 1) := by decide +kernel
theorem dX12_numeral_56 : decode cX12_numeral 56 = .ok (.getfield 186, 3) := by decide +kernel
theorem dX12_numeral_59 : decode cX12_numeral 59 = .ok (.istore_n 3, 1) := by decide +kernel
theorem dX12_numeral_60 : decode cX12_numeral 60 = .ok (.aload_n 0, 1) := by decide +kernel
theorem dX12_numeral_61 : decode cX12_numeral 61 = .ok (.invokevirtual 216, 3) := by decide +kernel
theorem dX12_numeral_64 : decode cX12_numeral 64 = .ok (.iload_n 3, 1) := by decide +kernel
theorem dX12_numeral_65 : decode cX12_numeral 65 = .ok (.ireturn, 1) := by decide +kernel
theorem dX12_found_0 : decode cX12_found 0 = .ok (.iconst 0, 1) := by decide +kernel
theorem dX12_found_1 : decode cX12_found 1 = .ok (.istore 4, 2) := by decide +kernel
theorem dX12_found_3 : decode cX12_found 3 = .ok (.iload 4, 2) := by decide +kernel
theorem dX12_found_5 : decode cX12_found 5 = .ok (.iload_n 2, 1) := by decide +kernel
theorem dX12_found_6 : decode cX12_found 6 = .ok (.if_icmp .ge 22, 3) := by decide +kernel
theorem dX12_found_9 : decode cX12_found 9 = .ok (.aload_n 0, 1) := by decide +kernel
theorem dX12_found_10 : decode cX12_found 10 = .ok (.iload_n 1, 1) := by decide +kernel
theorem dX12_found_11 : decode cX12_found 11 = .ok (.iload 4, 2) := by decide +kernel
theorem dX12_found_13 : decode cX12_found 13 = .ok (.iadd, 1) := by decide +kernel
theorem dX12_found_14 : decode cX12_found 14 = .ok (.iaload, 1) := by decide +kernel
theorem dX12_found_15 : decode cX12_found 15 = .ok (.iload_n 3, 1) := by decide +kernel
theorem dX12_found_16 : decode cX12_found 16 = .ok (.if_icmp .ne 6, 3) := by decide +kernel
theorem dX12_found_19 : decode cX12_found 19 = .ok (.iload 4, 2) := by decide +kernel
theorem dX12_found_21 : decode cX12_found 21 = .ok (.ireturn, 1) := by decide +kernel
theorem dX12_found_22 : decode cX12_found 22 = .ok (.iinc 4 1, 3) := by decide +kernel
theorem dX12_found_25 : decode cX12_found 25 = .ok (.goto (-22), 3) := by decide +kernel
theorem dX12_found_28 : decode cX12_found 28 = .ok (.iconst (-1), 1) := by decide +kernel
theorem dX12_found_29 : decode cX12_found 29 = .ok (.ireturn, 1) := by decide +kernel
theorem dX12_fresh_0 : decode cX12_fresh 0 = .ok (.aload_n 0, 1) := by decide +kernel
theorem dX12_fresh_1 : decode cX12_fresh 1 = .ok (.getfield 210, 3) := by decide +kernel
theorem dX12_fresh_4 : decode cX12_fresh 4 = .ok (.ifCond .eq 5, 3) := by decide +kernel
theorem dX12_fresh_7 : decode cX12_fresh 7 = .ok (.iconst 0, 1) := by decide +kernel
theorem dX12_fresh_8 : decode cX12_fresh 8 = .ok (.ireturn, 1) := by decide +kernel
theorem dX12_fresh_9 : decode cX12_fresh 9 = .ok (.aload_n 0, 1) := by decide +kernel
theorem dX12_fresh_10 : decode cX12_fresh 10 = .ok (.getfield 176, 3) := by decide +kernel
theorem dX12_fresh_13 : decode cX12_fresh 13 = .ok (.iconst 1, 1) := by decide +kernel
theorem dX12_fresh_14 : decode cX12_fresh 14 = .ok (.if_icmp .eq 11, 3) := by decide +kernel
theorem dX12_fresh_17 : decode cX12_fresh 17 = .ok (.aload_n 0, 1) := by decide +kernel
theorem dX12_fresh_18 : decode cX12_fresh 18 = .ok (.iconst 1, 1) := by decide +kernel
theorem dX12_fresh_19 : decode cX12_fresh 19 = .ok (.invokevirtual 219, 3) := by decide +kernel
theorem dX12_fresh_22 : decode cX12_fresh 22 = .ok (.goto 22, 3) := by decide +kernel
theorem dX12_fresh_25 : decode cX12_fresh 25 = .ok (.aload_n 1, 1) := by decide +kernel
theorem dX12_fresh_26 : decode cX12_fresh 26 = .ok (.iload_n 2, 1) := by decide +kernel
theorem dX12_fresh_27 : decode cX12_fresh 27 = .ok (.iload_n 3, 1) := by decide +kernel
theorem dX12_fresh_28 : decode cX12_fresh 28 = .ok (.aload_n 0, 1) := by decide +kernel
theorem dX12_fresh_29 : decode cX12_fresh 29 = .ok (.getfield 186, 3) := by decide +kernel
theorem dX12_fresh_32 : decode cX12_fresh 32 = .ok (.invokestatic 222, 3) := by decide +kernel
theorem dX12_fresh_35 : decode cX12_fresh 35 = .ok (.iconst (-1), 1) := by decide +kernel
theorem dX12_fresh_36 : decode cX12_fresh 36 = .ok (.if_icmp .eq 8, 3) := by decide +kernel
theorem dX12_fresh_39 : decode cX12_fresh 39 = .ok (.aload_n 0, 1) := by decide +kernel
theorem dX12_fresh_40 : decode cX12_fresh 40 = .ok (.iconst 3, 1) := by decide +kernel
theorem dX12_fresh_41 : decode cX12_fresh 41 = .ok (.invokevirtual 219, 3) := by decide +kernel
theorem dX12_fresh_44 : decode cX12_fresh 44 = .ok (.aload_n 0, 1) := by decide +kernel
theorem dX12_fresh_45 : decode cX12_fresh 45 = .ok (.getfield 210, 3) := by decide +kernel
theorem dX12_fresh_48 : decode cX12_fresh 48 = .ok (.ifCond .eq 5, 3) := by decide +kernel
theorem dX12_fresh_51 : decode cX12_fresh 51 = .ok (.iconst 0, 1) := by decide +kernel
theorem dX12_fresh_52 : decode cX12_fresh 52 = .ok (.ireturn, 1) := by decide +kernel
theorem dX12_fresh_53 : decode cX12_fresh 53 = .ok (.aload_n 0, 1) := by decide +kernel
theorem dX12_fresh_54 : decode cX12_fresh 54 = .ok (.getfield 186, 3) := by decide +kernel
theorem dX12_fresh_57 : decode cX12_fresh 57 = .ok (.istore 4, 2) := by decide +kernel
theorem dX12_fresh_59 : decode cX12_fresh 59 = .ok (.aload_n 0, 1) := by decide +kernel
theorem dX12_fresh_60 : decode cX12_fresh 60 = .ok (.invokevirtual 216, 3) := by decide +kernel
theorem dX12_fresh_63 : decode cX12_fresh 63 = .ok (.iload 4, 2) := by decide +kernel
theorem dX12_fresh_65 : decode cX12_fresh 65 = .ok (.ireturn, 1) := by decide +kernel
theorem dX12_fresher_0 : decode cX12_fresher 0 = .ok (.aload_n 0, 1) := by decide +kernel
theorem dX12_fresher_1 : decode cX12_fresher 1 = .ok (.getfield 13, 3) := by decide +kernel
theorem dX12_fresher_4 : decode cX12_fresher 4 = .ok (.bipush 9, 2) := by decide +kernel
theorem dX12_fresher_6 : decode cX12_fresher 6 = .ok (.iload_n 1, 1) := by decide +kernel
theorem dX12_fresher_7 : decode cX12_fresher 7 = .ok (.iadd, 1) := by decide +kernel
theorem dX12_fresher_8 : decode cX12_fresher 8 = .ok (.iaload, 1) := by decide +kernel
theorem dX12_fresher_9 : decode cX12_fresher 9 = .ok (.ireturn, 1) := by decide +kernel
theorem dX12_reads_0 : decode cX12_reads 0 = .ok (.aload_n 0, 1) := by decide +kernel
theorem dX12_reads_1 : decode cX12_reads 1 = .ok (.getfield 13, 3) := by decide +kernel
theorem dX12_reads_4 : decode cX12_reads 4 = .ok (.bipush 9, 2) := by decide +kernel
theorem dX12_reads_6 : decode cX12_reads 6 = .ok (.iload_n 1, 1) := by decide +kernel
theorem dX12_reads_7 : decode cX12_reads 7 = .ok (.iadd, 1) := by decide +kernel
theorem dX12_reads_8 : decode cX12_reads 8 = .ok (.iload_n 2, 1) := by decide +kernel
theorem dX12_reads_9 : decode cX12_reads 9 = .ok (.iastore, 1) := by decide +kernel
theorem dX12_reads_10 : decode cX12_reads 10 = .ok (.return_, 1) := by decide +kernel
theorem dX12_line_0 : decode cX12_line 0 = .ok (.aload_n 0, 1) := by decide +kernel
theorem dX12_line_1 : decode cX12_line 1 = .ok (.getfield 176, 3) := by decide +kernel
theorem dX12_line_4 : decode cX12_line 4 = .ok (.ifCond .ne 12, 3) := by decide +kernel
theorem dX12_line_7 : decode cX12_line 7 = .ok (.aload_n 0, 1) := by decide +kernel
theorem dX12_line_8 : decode cX12_line 8 = .ok (.getfield 186, 3) := by decide +kernel
theorem dX12_line_11 : decode cX12_line 11 = .ok (.bipush 8, 2) := by decide +kernel
theorem dX12_line_13 : decode cX12_line 13 = .ok (.if_icmp .le 9, 3) := by decide +kernel
theorem dX12_line_16 : decode cX12_line 16 = .ok (.aload_n 0, 1) := by decide +kernel
theorem dX12_line_17 : decode cX12_line 17 = .ok (.iconst 1, 1) := by decide +kernel
theorem dX12_line_18 : decode cX12_line 18 = .ok (.invokevirtual 219, 3) := by decide +kernel
theorem dX12_line_21 : decode cX12_line 21 = .ok (.return_, 1) := by decide +kernel
theorem dX12_line_22 : decode cX12_line 22 = .ok (.aload_n 0, 1) := by decide +kernel
theorem dX12_line_23 : decode cX12_line 23 = .ok (.getfield 186, 3) := by decide +kernel
theorem dX12_line_26 : decode cX12_line 26 = .ok (.istore_n 1, 1) := by decide +kernel
theorem dX12_line_27 : decode cX12_line 27 = .ok (.iload_n 1, 1) := by decide +kernel
theorem dX12_line_28 : decode cX12_line 28 = .ok (.ifCond .eq 18, 3) := by decide +kernel
theorem dX12_line_31 : decode cX12_line 31 = .ok (.iload_n 1, 1) := by decide +kernel
theorem dX12_line_32 : decode cX12_line 32 = .ok (.iconst 2, 1) := by decide +kernel
theorem dX12_line_33 : decode cX12_line 33 = .ok (.if_icmp .eq 13, 3) := by decide +kernel
theorem dX12_line_36 : decode cX12_line 36 = .ok (.iload_n 1, 1) := by decide +kernel
theorem dX12_line_37 : decode cX12_line 37 = .ok (.bipush 8, 2) := by decide +kernel
theorem dX12_line_39 : decode cX12_line 39 = .ok (.if_icmp .eq 7, 3) := by decide +kernel
theorem dX12_line_42 : decode cX12_line 42 = .ok (.iconst 1, 1) := by decide +kernel
theorem dX12_line_43 : decode cX12_line 43 = .ok (.goto 4, 3) := by decide +kernel
theorem dX12_line_46 : decode cX12_line 46 = .ok (.iconst 0, 1) := by decide +kernel
theorem dX12_line_47 : decode cX12_line 47 = .ok (.istore_n 2, 1) := by decide +kernel
theorem dX12_line_48 : decode cX12_line 48 = .ok (.iload_n 1, 1) := by decide +kernel
theorem dX12_line_49 : decode cX12_line 49 = .ok (.ifCond .ne 13, 3) := by decide +kernel
theorem dX12_line_52 : decode cX12_line 52 = .ok (.aload_n 0, 1) := by decide +kernel
theorem dX12_line_53 : decode cX12_line 53 = .ok (.iconst 0, 1) := by decide +kernel
theorem dX12_line_54 : decode cX12_line 54 = .ok (.invokevirtual 226, 3) := by decide +kernel
theorem dX12_line_57 : decode cX12_line 57 = .ok (.bipush 8, 2) := by decide +kernel
theorem dX12_line_59 : decode cX12_line 59 = .ok (.if_icmp .eq 17, 3) := by decide +kernel
theorem dX12_line_62 : decode cX12_line 62 = .ok (.iload_n 1, 1) := by decide +kernel
theorem dX12_line_63 : decode cX12_line 63 = .ok (.iconst 2, 1) := by decide +kernel
theorem dX12_line_64 : decode cX12_line 64 = .ok (.if_icmp .ne 20, 3) := by decide +kernel
theorem dX12_line_67 : decode cX12_line 67 = .ok (.aload_n 0, 1) := by decide +kernel
theorem dX12_line_68 : decode cX12_line 68 = .ok (.iconst 2, 1) := by decide +kernel
theorem dX12_line_69 : decode cX12_line 69 = .ok (.invokevirtual 226, 3) := by decide +kernel
theorem dX12_line_72 : decode cX12_line 72 = .ok (.iconst 3, 1) := by decide +kernel
theorem dX12_line_73 : decode cX12_line 73 = .ok (.if_icmp .ne 11, 3) := by decide +kernel
theorem dX12_line_76 : decode cX12_line 76 = .ok (.aload_n 0, 1) := by decide +kernel
theorem dX12_line_77 : decode cX12_line 77 = .ok (.iconst 2, 1) := by decide +kernel
theorem dX12_line_78 : decode cX12_line 78 = .ok (.invokevirtual 219, 3) := by decide +kernel
theorem dX12_line_81 : decode cX12_line 81 = .ok (.goto 24, 3) := by decide +kernel
theorem dX12_line_84 : decode cX12_line 84 = .ok (.iload_n 2, 1) := by decide +kernel
theorem dX12_line_85 : decode cX12_line 85 = .ok (.ifCond .eq 20, 3) := by decide +kernel
theorem dX12_line_88 : decode cX12_line 88 = .ok (.aload_n 0, 1) := by decide +kernel
theorem dX12_line_89 : decode cX12_line 89 = .ok (.getfield 230, 3) := by decide +kernel
theorem dX12_line_92 : decode cX12_line 92 = .ok (.iload_n 1, 1) := by decide +kernel
theorem dX12_line_93 : decode cX12_line 93 = .ok (.ishr, 1) := by decide +kernel
theorem dX12_line_94 : decode cX12_line 94 = .ok (.iconst 1, 1) := by decide +kernel
theorem dX12_line_95 : decode cX12_line 95 = .ok (.iand, 1) := by decide +kernel
theorem dX12_line_96 : decode cX12_line 96 = .ok (.iconst 1, 1) := by decide +kernel
theorem dX12_line_97 : decode cX12_line 97 = .ok (.if_icmp .ne 8, 3) := by decide +kernel
theorem dX12_line_100 : decode cX12_line 100 = .ok (.aload_n 0, 1) := by decide +kernel
theorem dX12_line_101 : decode cX12_line 101 = .ok (.iconst 3, 1) := by decide +kernel
theorem dX12_line_102 : decode cX12_line 102 = .ok (.invokevirtual 219, 3) := by decide +kernel
theorem dX12_line_105 : decode cX12_line 105 = .ok (.aload_n 0, 1) := by decide +kernel
theorem dX12_line_106 : decode cX12_line 106 = .ok (.getfield 210, 3) := by decide +kernel
theorem dX12_line_109 : decode cX12_line 109 = .ok (.ifCond .eq 4, 3) := by decide +kernel
theorem dX12_line_112 : decode cX12_line 112 = .ok (.return_, 1) := by decide +kernel
theorem dX12_line_113 : decode cX12_line 113 = .ok (.aload_n 0, 1) := by decide +kernel
theorem dX12_line_114 : decode cX12_line 114 = .ok (.dup, 1) := by decide +kernel
theorem dX12_line_115 : decode cX12_line 115 = .ok (.getfield 230, 3) := by decide +kernel
theorem dX12_line_118 : decode cX12_line 118 = .ok (.iconst 1, 1) := by decide +kernel
theorem dX12_line_119 : decode cX12_line 119 = .ok (.iload_n 1, 1) := by decide +kernel
theorem dX12_line_120 : decode cX12_line 120 = .ok (.ishl, 1) := by decide +kernel
theorem dX12_line_121 : decode cX12_line 121 = .ok (.ior, 1) := by decide +kernel
theorem dX12_line_122 : decode cX12_line 122 = .ok (.putfield 230, 3) := by decide +kernel
theorem dX12_line_125 : decode cX12_line 125 = .ok (.aload_n 0, 1) := by decide +kernel
theorem dX12_line_126 : decode cX12_line 126 = .ok (.invokevirtual 216, 3) := by decide +kernel
theorem dX12_line_129 : decode cX12_line 129 = .ok (.iload_n 1, 1) := by decide +kernel
theorem dX12_line_130 : decode cX12_line 130 = .ok (.tableswitch 221 0 7 #[46, 61, 76, 144, 159, 174, 189, 205], 46) := by decide +kernel
theorem dX12_line_176 : decode cX12_line 176 = .ok (.aload_n 0, 1) := by decide +kernel
theorem dX12_line_177 : decode cX12_line 177 = .ok (.bipush 8, 2) := by decide +kernel
theorem dX12_line_179 : decode cX12_line 179 = .ok (.aload_n 0, 1) := by decide +kernel
theorem dX12_line_180 : decode cX12_line 180 = .ok (.iconst 0, 1) := by decide +kernel
theorem dX12_line_181 : decode cX12_line 181 = .ok (.invokevirtual 226, 3) := by decide +kernel
theorem dX12_line_184 : decode cX12_line 184 = .ok (.iadd, 1) := by decide +kernel
theorem dX12_line_185 : decode cX12_line 185 = .ok (.invokevirtual 233, 3) := by decide +kernel
theorem dX12_line_188 : decode cX12_line 188 = .ok (.goto 167, 3) := by decide +kernel
theorem dX12_line_191 : decode cX12_line 191 = .ok (.aload_n 0, 1) := by decide +kernel
theorem dX12_line_192 : decode cX12_line 192 = .ok (.iconst 1, 1) := by decide +kernel
theorem dX12_line_193 : decode cX12_line 193 = .ok (.aload_n 0, 1) := by decide +kernel
theorem dX12_line_194 : decode cX12_line 194 = .ok (.iconst 1, 1) := by decide +kernel
theorem dX12_line_195 : decode cX12_line 195 = .ok (.bipush 99, 2) := by decide +kernel
theorem dX12_line_197 : decode cX12_line 197 = .ok (.invokevirtual 236, 3) := by decide +kernel
theorem dX12_line_200 : decode cX12_line 200 = .ok (.invokevirtual 240, 3) := by decide +kernel
theorem dX12_line_203 : decode cX12_line 203 = .ok (.goto 152, 3) := by decide +kernel
theorem dX12_line_206 : decode cX12_line 206 = .ok (.iconst 3, 1) := by decide +kernel
theorem dX12_line_207 : decode cX12_line 207 = .ok (.aload_n 0, 1) := by decide +kernel
theorem dX12_line_208 : decode cX12_line 208 = .ok (.iconst 2, 1) := by decide +kernel
theorem dX12_line_209 : decode cX12_line 209 = .ok (.invokevirtual 226, 3) := by decide +kernel
theorem dX12_line_212 : decode cX12_line 212 = .ok (.iadd, 1) := by decide +kernel
theorem dX12_line_213 : decode cX12_line 213 = .ok (.istore_n 3, 1) := by decide +kernel
theorem dX12_line_214 : decode cX12_line 214 = .ok (.aload_n 0, 1) := by decide +kernel
theorem dX12_line_215 : decode cX12_line 215 = .ok (.getfield 34, 3) := by decide +kernel
theorem dX12_line_218 : decode cX12_line 218 = .ok (.iload_n 3, 1) := by decide +kernel
theorem dX12_line_219 : decode cX12_line 219 = .ok (.aload_n 0, 1) := by decide +kernel
theorem dX12_line_220 : decode cX12_line 220 = .ok (.iload_n 3, 1) := by decide +kernel
theorem dX12_line_221 : decode cX12_line 221 = .ok (.iconst 3, 1) := by decide +kernel
theorem dX12_line_222 : decode cX12_line 222 = .ok (.if_icmp .ne 7, 3) := by decide +kernel
theorem dX12_line_225 : decode cX12_line 225 = .ok (.iconst 0, 1) := by decide +kernel
theorem dX12_line_226 : decode cX12_line 226 = .ok (.goto 13, 3) := by decide +kernel
theorem dX12_line_229 : decode cX12_line 229 = .ok (.aload_n 0, 1) := by decide +kernel
theorem dX12_line_230 : decode cX12_line 230 = .ok (.getfield 34, 3) := by decide +kernel
theorem dX12_line_233 : decode cX12_line 233 = .ok (.iload_n 3, 1) := by decide +kernel
theorem dX12_line_234 : decode cX12_line 234 = .ok (.iconst 1, 1) := by decide +kernel
theorem dX12_line_235 : decode cX12_line 235 = .ok (.isub, 1) := by decide +kernel
theorem dX12_line_236 : decode cX12_line 236 = .ok (.iaload, 1) := by decide +kernel
theorem dX12_line_237 : decode cX12_line 237 = .ok (.iconst 1, 1) := by decide +kernel
theorem dX12_line_238 : decode cX12_line 238 = .ok (.iadd, 1) := by decide +kernel
theorem dX12_line_239 : decode cX12_line 239 = .ok (.sipush 999, 3) := by decide +kernel
theorem dX12_line_242 : decode cX12_line 242 = .ok (.invokevirtual 236, 3) := by decide +kernel
theorem dX12_line_245 : decode cX12_line 245 = .ok (.iastore, 1) := by decide +kernel
theorem dX12_line_246 : decode cX12_line 246 = .ok (.aload_n 0, 1) := by decide +kernel
theorem dX12_line_247 : decode cX12_line 247 = .ok (.getfield 37, 3) := by decide +kernel
theorem dX12_line_250 : decode cX12_line 250 = .ok (.iload_n 3, 1) := by decide +kernel
theorem dX12_line_251 : decode cX12_line 251 = .ok (.aload_n 0, 1) := by decide +kernel
theorem dX12_line_252 : decode cX12_line 252 = .ok (.iconst 0, 1) := by decide +kernel
theorem dX12_line_253 : decode cX12_line 253 = .ok (.bipush 99, 2) := by decide +kernel
theorem dX12_line_255 : decode cX12_line 255 = .ok (.invokevirtual 236, 3) := by decide +kernel
theorem dX12_line_258 : decode cX12_line 258 = .ok (.iastore, 1) := by decide +kernel
theorem dX12_line_259 : decode cX12_line 259 = .ok (.aload_n 0, 1) := by decide +kernel
theorem dX12_line_260 : decode cX12_line 260 = .ok (.iconst 2, 1) := by decide +kernel
theorem dX12_line_261 : decode cX12_line 261 = .ok (.aload_n 0, 1) := by decide +kernel
theorem dX12_line_262 : decode cX12_line 262 = .ok (.iconst 2, 1) := by decide +kernel
theorem dX12_line_263 : decode cX12_line 263 = .ok (.invokevirtual 226, 3) := by decide +kernel
theorem dX12_line_266 : decode cX12_line 266 = .ok (.iconst 1, 1) := by decide +kernel
theorem dX12_line_267 : decode cX12_line 267 = .ok (.iadd, 1) := by decide +kernel
theorem dX12_line_268 : decode cX12_line 268 = .ok (.invokevirtual 240, 3) := by decide +kernel
theorem dX12_line_271 : decode cX12_line 271 = .ok (.goto 84, 3) := by decide +kernel
theorem dX12_line_274 : decode cX12_line 274 = .ok (.aload_n 0, 1) := by decide +kernel
theorem dX12_line_275 : decode cX12_line 275 = .ok (.iconst 3, 1) := by decide +kernel
theorem dX12_line_276 : decode cX12_line 276 = .ok (.aload_n 0, 1) := by decide +kernel
theorem dX12_line_277 : decode cX12_line 277 = .ok (.iconst 1, 1) := by decide +kernel
theorem dX12_line_278 : decode cX12_line 278 = .ok (.bipush 99, 2) := by decide +kernel
theorem dX12_line_280 : decode cX12_line 280 = .ok (.invokevirtual 236, 3) := by decide +kernel
theorem dX12_line_283 : decode cX12_line 283 = .ok (.invokevirtual 240, 3) := by decide +kernel
theorem dX12_line_286 : decode cX12_line 286 = .ok (.goto 69, 3) := by decide +kernel
theorem dX12_line_289 : decode cX12_line 289 = .ok (.aload_n 0, 1) := by decide +kernel
theorem dX12_line_290 : decode cX12_line 290 = .ok (.iconst 4, 1) := by decide +kernel
theorem dX12_line_291 : decode cX12_line 291 = .ok (.aload_n 0, 1) := by decide +kernel
theorem dX12_line_292 : decode cX12_line 292 = .ok (.iconst 0, 1) := by decide +kernel
theorem dX12_line_293 : decode cX12_line 293 = .ok (.bipush 99, 2) := by decide +kernel
theorem dX12_line_295 : decode cX12_line 295 = .ok (.invokevirtual 236, 3) := by decide +kernel
theorem dX12_line_298 : decode cX12_line 298 = .ok (.invokevirtual 240, 3) := by decide +kernel
theorem dX12_line_301 : decode cX12_line 301 = .ok (.goto 54, 3) := by decide +kernel
theorem dX12_line_304 : decode cX12_line 304 = .ok (.aload_n 0, 1) := by decide +kernel
theorem dX12_line_305 : decode cX12_line 305 = .ok (.iconst 5, 1) := by decide +kernel
theorem dX12_line_306 : decode cX12_line 306 = .ok (.aload_n 0, 1) := by decide +kernel
theorem dX12_line_307 : decode cX12_line 307 = .ok (.iconst 1, 1) := by decide +kernel
theorem dX12_line_308 : decode cX12_line 308 = .ok (.bipush 9, 2) := by decide +kernel
theorem dX12_line_310 : decode cX12_line 310 = .ok (.invokevirtual 236, 3) := by decide +kernel
theorem dX12_line_313 : decode cX12_line 313 = .ok (.invokevirtual 240, 3) := by decide +kernel
theorem dX12_line_316 : decode cX12_line 316 = .ok (.goto 39, 3) := by decide +kernel
theorem dX12_line_319 : decode cX12_line 319 = .ok (.aload_n 0, 1) := by decide +kernel
theorem dX12_line_320 : decode cX12_line 320 = .ok (.bipush 6, 2) := by decide +kernel
theorem dX12_line_322 : decode cX12_line 322 = .ok (.aload_n 0, 1) := by decide +kernel
theorem dX12_line_323 : decode cX12_line 323 = .ok (.iconst 0, 1) := by decide +kernel
theorem dX12_line_324 : decode cX12_line 324 = .ok (.bipush 99, 2) := by decide +kernel
theorem dX12_line_326 : decode cX12_line 326 = .ok (.invokevirtual 236, 3) := by decide +kernel
theorem dX12_line_329 : decode cX12_line 329 = .ok (.invokevirtual 240, 3) := by decide +kernel
theorem dX12_line_332 : decode cX12_line 332 = .ok (.goto 23, 3) := by decide +kernel
theorem dX12_line_335 : decode cX12_line 335 = .ok (.aload_n 0, 1) := by decide +kernel
theorem dX12_line_336 : decode cX12_line 336 = .ok (.bipush 7, 2) := by decide +kernel
theorem dX12_line_338 : decode cX12_line 338 = .ok (.aload_n 0, 1) := by decide +kernel
theorem dX12_line_339 : decode cX12_line 339 = .ok (.iconst 0, 1) := by decide +kernel
theorem dX12_line_340 : decode cX12_line 340 = .ok (.ldc 195, 2) := by decide +kernel
theorem dX12_line_342 : decode cX12_line 342 = .ok (.invokevirtual 236, 3) := by decide +kernel
theorem dX12_line_345 : decode cX12_line 345 = .ok (.invokevirtual 240, 3) := by decide +kernel
theorem dX12_line_348 : decode cX12_line 348 = .ok (.goto 7, 3) := by decide +kernel
theorem dX12_line_351 : decode cX12_line 351 = .ok (.aload_n 0, 1) := by decide +kernel
theorem dX12_line_352 : decode cX12_line 352 = .ok (.invokevirtual 244, 3) := by decide +kernel
theorem dX12_line_355 : decode cX12_line 355 = .ok (.aload_n 0, 1) := by decide +kernel
theorem dX12_line_356 : decode cX12_line 356 = .ok (.getfield 210, 3) := by decide +kernel
theorem dX12_line_359 : decode cX12_line 359 = .ok (.ifCond .eq 4, 3) := by decide +kernel
theorem dX12_line_362 : decode cX12_line 362 = .ok (.return_, 1) := by decide +kernel
theorem dX12_line_363 : decode cX12_line 363 = .ok (.aload_n 0, 1) := by decide +kernel
theorem dX12_line_364 : decode cX12_line 364 = .ok (.bipush 59, 2) := by decide +kernel
theorem dX12_line_366 : decode cX12_line 366 = .ok (.invokevirtual 247, 3) := by decide +kernel
theorem dX12_line_369 : decode cX12_line 369 = .ok (.ifCond .ne 11, 3) := by decide +kernel
theorem dX12_line_372 : decode cX12_line 372 = .ok (.aload_n 0, 1) := by decide +kernel
theorem dX12_line_373 : decode cX12_line 373 = .ok (.iconst 1, 1) := by decide +kernel
theorem dX12_line_374 : decode cX12_line 374 = .ok (.invokevirtual 219, 3) := by decide +kernel
theorem dX12_line_377 : decode cX12_line 377 = .ok (.goto 7, 3) := by decide +kernel
theorem dX12_line_380 : decode cX12_line 380 = .ok (.aload_n 0, 1) := by decide +kernel
theorem dX12_line_381 : decode cX12_line 381 = .ok (.invokevirtual 216, 3) := by decide +kernel
theorem dX12_line_384 : decode cX12_line 384 = .ok (.aload_n 0, 1) := by decide +kernel
theorem dX12_line_385 : decode cX12_line 385 = .ok (.dup, 1) := by decide +kernel
theorem dX12_line_386 : decode cX12_line 386 = .ok (.getfield 250, 3) := by decide +kernel
theorem dX12_line_389 : decode cX12_line 389 = .ok (.iconst 1, 1) := by decide +kernel
theorem dX12_line_390 : decode cX12_line 390 = .ok (.iadd, 1) := by decide +kernel
theorem dX12_line_391 : decode cX12_line 391 = .ok (.putfield 250, 3) := by decide +kernel
theorem dX12_line_394 : decode cX12_line 394 = .ok (.return_, 1) := by decide +kernel
theorem dX12_partyLine_0 : decode cX12_partyLine 0 = .ok (.aload_n 0, 1) := by decide +kernel
theorem dX12_partyLine_1 : decode cX12_partyLine 1 = .ok (.getfield 16, 3) := by decide +kernel
theorem dX12_partyLine_4 : decode cX12_partyLine 4 = .ok (.iload_n 1, 1) := by decide +kernel
theorem dX12_partyLine_5 : decode cX12_partyLine 5 = .ok (.aload_n 0, 1) := by decide +kernel
theorem dX12_partyLine_6 : decode cX12_partyLine 6 = .ok (.aload_n 0, 1) := by decide +kernel
theorem dX12_partyLine_7 : decode cX12_partyLine 7 = .ok (.getfield 16, 3) := by decide +kernel
theorem dX12_partyLine_10 : decode cX12_partyLine 10 = .ok (.bipush 8, 2) := by decide +kernel
theorem dX12_partyLine_12 : decode cX12_partyLine 12 = .ok (.aload_n 0, 1) := by decide +kernel
theorem dX12_partyLine_13 : decode cX12_partyLine 13 = .ok (.iconst 0, 1) := by decide +kernel
theorem dX12_partyLine_14 : decode cX12_partyLine 14 = .ok (.invokevirtual 226, 3) := by decide +kernel
theorem dX12_partyLine_17 : decode cX12_partyLine 17 = .ok (.invokevirtual 253, 3) := by decide +kernel
theorem dX12_partyLine_20 : decode cX12_partyLine 20 = .ok (.iastore, 1) := by decide +kernel
theorem dX12_partyLine_21 : decode cX12_partyLine 21 = .ok (.aload_n 0, 1) := by decide +kernel
theorem dX12_partyLine_22 : decode cX12_partyLine 22 = .ok (.getfield 19, 3) := by decide +kernel
theorem dX12_partyLine_25 : decode cX12_partyLine 25 = .ok (.iload_n 1, 1) := by decide +kernel
theorem dX12_partyLine_26 : decode cX12_partyLine 26 = .ok (.aload_n 0, 1) := by decide +kernel
theorem dX12_partyLine_27 : decode cX12_partyLine 27 = .ok (.iconst 1, 1) := by decide +kernel
theorem dX12_partyLine_28 : decode cX12_partyLine 28 = .ok (.bipush 9, 2) := by decide +kernel
theorem dX12_partyLine_30 : decode cX12_partyLine 30 = .ok (.invokevirtual 236, 3) := by decide +kernel
theorem dX12_partyLine_33 : decode cX12_partyLine 33 = .ok (.iastore, 1) := by decide +kernel
theorem dX12_partyLine_34 : decode cX12_partyLine 34 = .ok (.iconst 0, 1) := by decide +kernel
theorem dX12_partyLine_35 : decode cX12_partyLine 35 = .ok (.istore_n 2, 1) := by decide +kernel
theorem dX12_partyLine_36 : decode cX12_partyLine 36 = .ok (.iload_n 2, 1) := by decide +kernel
theorem dX12_partyLine_37 : decode cX12_partyLine 37 = .ok (.iconst 3, 1) := by decide +kernel
theorem dX12_partyLine_38 : decode cX12_partyLine 38 = .ok (.if_icmp .ge 26, 3) := by decide +kernel
theorem dX12_partyLine_41 : decode cX12_partyLine 41 = .ok (.aload_n 0, 1) := by decide +kernel
theorem dX12_partyLine_42 : decode cX12_partyLine 42 = .ok (.getfield 22, 3) := by decide +kernel
theorem dX12_partyLine_45 : decode cX12_partyLine 45 = .ok (.iconst 3, 1) := by decide +kernel
theorem dX12_partyLine_46 : decode cX12_partyLine 46 = .ok (.iload_n 1, 1) := by decide +kernel
theorem dX12_partyLine_47 : decode cX12_partyLine 47 = .ok (.imul, 1) := by decide +kernel
theorem dX12_partyLine_48 : decode cX12_partyLine 48 = .ok (.iload_n 2, 1) := by decide +kernel
theorem dX12_partyLine_49 : decode cX12_partyLine 49 = .ok (.iadd, 1) := by decide +kernel
theorem dX12_partyLine_50 : decode cX12_partyLine 50 = .ok (.aload_n 0, 1) := by decide +kernel
theorem dX12_partyLine_51 : decode cX12_partyLine 51 = .ok (.iconst 0, 1) := by decide +kernel
theorem dX12_partyLine_52 : decode cX12_partyLine 52 = .ok (.bipush 9, 2) := by decide +kernel
theorem dX12_partyLine_54 : decode cX12_partyLine 54 = .ok (.invokevirtual 236, 3) := by decide +kernel
theorem dX12_partyLine_57 : decode cX12_partyLine 57 = .ok (.iastore, 1) := by decide +kernel
theorem dX12_partyLine_58 : decode cX12_partyLine 58 = .ok (.iinc 2 1, 3) := by decide +kernel
theorem dX12_partyLine_61 : decode cX12_partyLine 61 = .ok (.goto (-25), 3) := by decide +kernel
theorem dX12_partyLine_64 : decode cX12_partyLine 64 = .ok (.aload_n 0, 1) := by decide +kernel
theorem dX12_partyLine_65 : decode cX12_partyLine 65 = .ok (.getfield 25, 3) := by decide +kernel
theorem dX12_partyLine_68 : decode cX12_partyLine 68 = .ok (.iload_n 1, 1) := by decide +kernel
theorem dX12_partyLine_69 : decode cX12_partyLine 69 = .ok (.aload_n 0, 1) := by decide +kernel
theorem dX12_partyLine_70 : decode cX12_partyLine 70 = .ok (.iconst 0, 1) := by decide +kernel
theorem dX12_partyLine_71 : decode cX12_partyLine 71 = .ok (.sipush 999, 3) := by decide +kernel
theorem dX12_partyLine_74 : decode cX12_partyLine 74 = .ok (.invokevirtual 236, 3) := by decide +kernel
theorem dX12_partyLine_77 : decode cX12_partyLine 77 = .ok (.iastore, 1) := by decide +kernel
theorem dX12_partyLine_78 : decode cX12_partyLine 78 = .ok (.aload_n 0, 1) := by decide +kernel
theorem dX12_partyLine_79 : decode cX12_partyLine 79 = .ok (.getfield 28, 3) := by decide +kernel
theorem dX12_partyLine_82 : decode cX12_partyLine 82 = .ok (.iload_n 1, 1) := by decide +kernel
theorem dX12_partyLine_83 : decode cX12_partyLine 83 = .ok (.aload_n 0, 1) := by decide +kernel
theorem dX12_partyLine_84 : decode cX12_partyLine 84 = .ok (.iconst 0, 1) := by decide +kernel
theorem dX12_partyLine_85 : decode cX12_partyLine 85 = .ok (.bipush 99, 2) := by decide +kernel
theorem dX12_partyLine_87 : decode cX12_partyLine 87 = .ok (.invokevirtual 236, 3) := by decide +kernel
theorem dX12_partyLine_90 : decode cX12_partyLine 90 = .ok (.iastore, 1) := by decide +kernel
theorem dX12_partyLine_91 : decode cX12_partyLine 91 = .ok (.aload_n 0, 1) := by decide +kernel
theorem dX12_partyLine_92 : decode cX12_partyLine 92 = .ok (.getfield 31, 3) := by decide +kernel
theorem dX12_partyLine_95 : decode cX12_partyLine 95 = .ok (.iload_n 1, 1) := by decide +kernel
theorem dX12_partyLine_96 : decode cX12_partyLine 96 = .ok (.aload_n 0, 1) := by decide +kernel
theorem dX12_partyLine_97 : decode cX12_partyLine 97 = .ok (.iconst 0, 1) := by decide +kernel
theorem dX12_partyLine_98 : decode cX12_partyLine 98 = .ok (.bipush 100, 2) := by decide +kernel
theorem dX12_partyLine_100 : decode cX12_partyLine 100 = .ok (.invokevirtual 236, 3) := by decide +kernel
theorem dX12_partyLine_103 : decode cX12_partyLine 103 = .ok (.iastore, 1) := by decide +kernel
theorem dX12_partyLine_104 : decode cX12_partyLine 104 = .ok (.aload_n 0, 1) := by decide +kernel
theorem dX12_partyLine_105 : decode cX12_partyLine 105 = .ok (.iconst 0, 1) := by decide +kernel
theorem dX12_partyLine_106 : decode cX12_partyLine 106 = .ok (.aload_n 0, 1) := by decide +kernel
theorem dX12_partyLine_107 : decode cX12_partyLine 107 = .ok (.iconst 0, 1) := by decide +kernel
theorem dX12_partyLine_108 : decode cX12_partyLine 108 = .ok (.invokevirtual 226, 3) := by decide +kernel
theorem dX12_partyLine_111 : decode cX12_partyLine 111 = .ok (.iconst 1, 1) := by decide +kernel
theorem dX12_partyLine_112 : decode cX12_partyLine 112 = .ok (.iadd, 1) := by decide +kernel
theorem dX12_partyLine_113 : decode cX12_partyLine 113 = .ok (.invokevirtual 240, 3) := by decide +kernel
theorem dX12_partyLine_116 : decode cX12_partyLine 116 = .ok (.return_, 1) := by decide +kernel
theorem dX12_lawLine_0 : decode cX12_lawLine 0 = .ok (.aload_n 0, 1) := by decide +kernel
theorem dX12_lawLine_1 : decode cX12_lawLine 1 = .ok (.getfield 176, 3) := by decide +kernel
theorem dX12_lawLine_4 : decode cX12_lawLine 4 = .ok (.ifCond .ne 21, 3) := by decide +kernel
theorem dX12_lawLine_7 : decode cX12_lawLine 7 = .ok (.aload_n 0, 1) := by decide +kernel
theorem dX12_lawLine_8 : decode cX12_lawLine 8 = .ok (.getfield 186, 3) := by decide +kernel
theorem dX12_lawLine_11 : decode cX12_lawLine 11 = .ok (.bipush 9, 2) := by decide +kernel
theorem dX12_lawLine_13 : decode cX12_lawLine 13 = .ok (.if_icmp .lt 12, 3) := by decide +kernel
theorem dX12_lawLine_16 : decode cX12_lawLine 16 = .ok (.aload_n 0, 1) := by decide +kernel
theorem dX12_lawLine_17 : decode cX12_lawLine 17 = .ok (.getfield 186, 3) := by decide +kernel
theorem dX12_lawLine_20 : decode cX12_lawLine 20 = .ok (.bipush 11, 2) := by decide +kernel
theorem dX12_lawLine_22 : decode cX12_lawLine 22 = .ok (.if_icmp .le 8, 3) := by decide +kernel
theorem dX12_lawLine_25 : decode cX12_lawLine 25 = .ok (.aload_n 0, 1) := by decide +kernel
theorem dX12_lawLine_26 : decode cX12_lawLine 26 = .ok (.iconst 1, 1) := by decide +kernel
theorem dX12_lawLine_27 : decode cX12_lawLine 27 = .ok (.invokevirtual 219, 3) := by decide +kernel
theorem dX12_lawLine_30 : decode cX12_lawLine 30 = .ok (.aload_n 0, 1) := by decide +kernel
theorem dX12_lawLine_31 : decode cX12_lawLine 31 = .ok (.getfield 186, 3) := by decide +kernel
theorem dX12_lawLine_34 : decode cX12_lawLine 34 = .ok (.bipush 9, 2) := by decide +kernel
theorem dX12_lawLine_36 : decode cX12_lawLine 36 = .ok (.isub, 1) := by decide +kernel
theorem dX12_lawLine_37 : decode cX12_lawLine 37 = .ok (.istore_n 1, 1) := by decide +kernel
theorem dX12_lawLine_38 : decode cX12_lawLine 38 = .ok (.aload_n 0, 1) := by decide +kernel
theorem dX12_lawLine_39 : decode cX12_lawLine 39 = .ok (.getfield 210, 3) := by decide +kernel
theorem dX12_lawLine_42 : decode cX12_lawLine 42 = .ok (.ifCond .ne 23, 3) := by decide +kernel
theorem dX12_lawLine_45 : decode cX12_lawLine 45 = .ok (.aload_n 0, 1) := by decide +kernel
theorem dX12_lawLine_46 : decode cX12_lawLine 46 = .ok (.getfield 230, 3) := by decide +kernel
theorem dX12_lawLine_49 : decode cX12_lawLine 49 = .ok (.bipush 16, 2) := by decide +kernel
theorem dX12_lawLine_51 : decode cX12_lawLine 51 = .ok (.iload_n 1, 1) := by decide +kernel
theorem dX12_lawLine_52 : decode cX12_lawLine 52 = .ok (.iadd, 1) := by decide +kernel
theorem dX12_lawLine_53 : decode cX12_lawLine 53 = .ok (.ishr, 1) := by decide +kernel
theorem dX12_lawLine_54 : decode cX12_lawLine 54 = .ok (.iconst 1, 1) := by decide +kernel
theorem dX12_lawLine_55 : decode cX12_lawLine 55 = .ok (.iand, 1) := by decide +kernel
theorem dX12_lawLine_56 : decode cX12_lawLine 56 = .ok (.iconst 1, 1) := by decide +kernel
theorem dX12_lawLine_57 : decode cX12_lawLine 57 = .ok (.if_icmp .ne 8, 3) := by decide +kernel
theorem dX12_lawLine_60 : decode cX12_lawLine 60 = .ok (.aload_n 0, 1) := by decide +kernel
theorem dX12_lawLine_61 : decode cX12_lawLine 61 = .ok (.iconst 3, 1) := by decide +kernel
theorem dX12_lawLine_62 : decode cX12_lawLine 62 = .ok (.invokevirtual 219, 3) := by decide +kernel
theorem dX12_lawLine_65 : decode cX12_lawLine 65 = .ok (.aload_n 0, 1) := by decide +kernel
theorem dX12_lawLine_66 : decode cX12_lawLine 66 = .ok (.getfield 210, 3) := by decide +kernel
theorem dX12_lawLine_69 : decode cX12_lawLine 69 = .ok (.ifCond .eq 4, 3) := by decide +kernel
theorem dX12_lawLine_72 : decode cX12_lawLine 72 = .ok (.return_, 1) := by decide +kernel
theorem dX12_lawLine_73 : decode cX12_lawLine 73 = .ok (.aload_n 0, 1) := by decide +kernel
theorem dX12_lawLine_74 : decode cX12_lawLine 74 = .ok (.dup, 1) := by decide +kernel
theorem dX12_lawLine_75 : decode cX12_lawLine 75 = .ok (.getfield 230, 3) := by decide +kernel
theorem dX12_lawLine_78 : decode cX12_lawLine 78 = .ok (.iconst 1, 1) := by decide +kernel
theorem dX12_lawLine_79 : decode cX12_lawLine 79 = .ok (.bipush 16, 2) := by decide +kernel
theorem dX12_lawLine_81 : decode cX12_lawLine 81 = .ok (.iload_n 1, 1) := by decide +kernel
theorem dX12_lawLine_82 : decode cX12_lawLine 82 = .ok (.iadd, 1) := by decide +kernel
theorem dX12_lawLine_83 : decode cX12_lawLine 83 = .ok (.ishl, 1) := by decide +kernel
theorem dX12_lawLine_84 : decode cX12_lawLine 84 = .ok (.ior, 1) := by decide +kernel
theorem dX12_lawLine_85 : decode cX12_lawLine 85 = .ok (.putfield 230, 3) := by decide +kernel
theorem dX12_lawLine_88 : decode cX12_lawLine 88 = .ok (.aload_n 0, 1) := by decide +kernel
theorem dX12_lawLine_89 : decode cX12_lawLine 89 = .ok (.invokevirtual 216, 3) := by decide +kernel
theorem dX12_lawLine_92 : decode cX12_lawLine 92 = .ok (.aload_n 0, 1) := by decide +kernel
theorem dX12_lawLine_93 : decode cX12_lawLine 93 = .ok (.getfield 40, 3) := by decide +kernel
theorem dX12_lawLine_96 : decode cX12_lawLine 96 = .ok (.iconst 3, 1) := by decide +kernel
theorem dX12_lawLine_97 : decode cX12_lawLine 97 = .ok (.iload_n 1, 1) := by decide +kernel
theorem dX12_lawLine_98 : decode cX12_lawLine 98 = .ok (.iadd, 1) := by decide +kernel
theorem dX12_lawLine_99 : decode cX12_lawLine 99 = .ok (.aload_n 0, 1) := by decide +kernel
theorem dX12_lawLine_100 : decode cX12_lawLine 100 = .ok (.bipush 8, 2) := by decide +kernel
theorem dX12_lawLine_102 : decode cX12_lawLine 102 = .ok (.invokevirtual 226, 3) := by decide +kernel
theorem dX12_lawLine_105 : decode cX12_lawLine 105 = .ok (.iastore, 1) := by decide +kernel
theorem dX12_lawLine_106 : decode cX12_lawLine 106 = .ok (.aload_n 0, 1) := by decide +kernel
theorem dX12_lawLine_107 : decode cX12_lawLine 107 = .ok (.invokevirtual 257, 3) := by decide +kernel
theorem dX12_lawLine_110 : decode cX12_lawLine 110 = .ok (.aload_n 0, 1) := by decide +kernel
theorem dX12_lawLine_111 : decode cX12_lawLine 111 = .ok (.getfield 43, 3) := by decide +kernel
theorem dX12_lawLine_114 : decode cX12_lawLine 114 = .ok (.iconst 3, 1) := by decide +kernel
theorem dX12_lawLine_115 : decode cX12_lawLine 115 = .ok (.iload_n 1, 1) := by decide +kernel
theorem dX12_lawLine_116 : decode cX12_lawLine 116 = .ok (.iadd, 1) := by decide +kernel
theorem dX12_lawLine_117 : decode cX12_lawLine 117 = .ok (.aload_n 0, 1) := by decide +kernel
theorem dX12_lawLine_118 : decode cX12_lawLine 118 = .ok (.bipush 8, 2) := by decide +kernel
theorem dX12_lawLine_120 : decode cX12_lawLine 120 = .ok (.invokevirtual 226, 3) := by decide +kernel
theorem dX12_lawLine_123 : decode cX12_lawLine 123 = .ok (.iastore, 1) := by decide +kernel
theorem dX12_lawLine_124 : decode cX12_lawLine 124 = .ok (.return_, 1) := by decide +kernel
theorem dX12_puts_0 : decode cX12_puts 0 = .ok (.aload_n 0, 1) := by decide +kernel
theorem dX12_puts_1 : decode cX12_puts 1 = .ok (.getfield 210, 3) := by decide +kernel
theorem dX12_puts_4 : decode cX12_puts 4 = .ok (.ifCond .eq 4, 3) := by decide +kernel
theorem dX12_puts_7 : decode cX12_puts 7 = .ok (.return_, 1) := by decide +kernel
theorem dX12_puts_8 : decode cX12_puts 8 = .ok (.aload_n 0, 1) := by decide +kernel
theorem dX12_puts_9 : decode cX12_puts 9 = .ok (.getfield 46, 3) := by decide +kernel
theorem dX12_puts_12 : decode cX12_puts 12 = .ok (.bipush 64, 2) := by decide +kernel
theorem dX12_puts_14 : decode cX12_puts 14 = .ok (.aload_n 0, 1) := by decide +kernel
theorem dX12_puts_15 : decode cX12_puts 15 = .ok (.bipush 8, 2) := by decide +kernel
theorem dX12_puts_17 : decode cX12_puts 17 = .ok (.invokevirtual 226, 3) := by decide +kernel
theorem dX12_puts_20 : decode cX12_puts 20 = .ok (.iadd, 1) := by decide +kernel
theorem dX12_puts_21 : decode cX12_puts 21 = .ok (.iload_n 1, 1) := by decide +kernel
theorem dX12_puts_22 : decode cX12_puts 22 = .ok (.iastore, 1) := by decide +kernel
theorem dX12_puts_23 : decode cX12_puts 23 = .ok (.aload_n 0, 1) := by decide +kernel
theorem dX12_puts_24 : decode cX12_puts 24 = .ok (.getfield 49, 3) := by decide +kernel
theorem dX12_puts_27 : decode cX12_puts 27 = .ok (.bipush 64, 2) := by decide +kernel
theorem dX12_puts_29 : decode cX12_puts 29 = .ok (.aload_n 0, 1) := by decide +kernel
theorem dX12_puts_30 : decode cX12_puts 30 = .ok (.bipush 8, 2) := by decide +kernel
theorem dX12_puts_32 : decode cX12_puts 32 = .ok (.invokevirtual 226, 3) := by decide +kernel
theorem dX12_puts_35 : decode cX12_puts 35 = .ok (.iadd, 1) := by decide +kernel
theorem dX12_puts_36 : decode cX12_puts 36 = .ok (.iload_n 2, 1) := by decide +kernel
theorem dX12_puts_37 : decode cX12_puts 37 = .ok (.iastore, 1) := by decide +kernel
theorem dX12_puts_38 : decode cX12_puts 38 = .ok (.aload_n 0, 1) := by decide +kernel
theorem dX12_puts_39 : decode cX12_puts 39 = .ok (.bipush 8, 2) := by decide +kernel
theorem dX12_puts_41 : decode cX12_puts 41 = .ok (.aload_n 0, 1) := by decide +kernel
theorem dX12_puts_42 : decode cX12_puts 42 = .ok (.bipush 8, 2) := by decide +kernel
theorem dX12_puts_44 : decode cX12_puts 44 = .ok (.invokevirtual 226, 3) := by decide +kernel
theorem dX12_puts_47 : decode cX12_puts 47 = .ok (.iconst 1, 1) := by decide +kernel
theorem dX12_puts_48 : decode cX12_puts 48 = .ok (.iadd, 1) := by decide +kernel
theorem dX12_puts_49 : decode cX12_puts 49 = .ok (.invokevirtual 240, 3) := by decide +kernel
theorem dX12_puts_52 : decode cX12_puts 52 = .ok (.return_, 1) := by decide +kernel
theorem dX12_knot_0 : decode cX12_knot 0 = .ok (.aload_n 0, 1) := by decide +kernel
theorem dX12_knot_1 : decode cX12_knot 1 = .ok (.getfield 210, 3) := by decide +kernel
theorem dX12_knot_4 : decode cX12_knot 4 = .ok (.ifCond .eq 4, 3) := by decide +kernel
theorem dX12_knot_7 : decode cX12_knot 7 = .ok (.return_, 1) := by decide +kernel
theorem dX12_knot_8 : decode cX12_knot 8 = .ok (.aload_n 0, 1) := by decide +kernel
theorem dX12_knot_9 : decode cX12_knot 9 = .ok (.getfield 260, 3) := by decide +kernel
theorem dX12_knot_12 : decode cX12_knot 12 = .ok (.bipush 64, 2) := by decide +kernel
theorem dX12_knot_14 : decode cX12_knot 14 = .ok (.if_icmp .ne 11, 3) := by decide +kernel
theorem dX12_knot_17 : decode cX12_knot 17 = .ok (.aload_n 0, 1) := by decide +kernel
theorem dX12_knot_18 : decode cX12_knot 18 = .ok (.iconst 2, 1) := by decide +kernel
theorem dX12_knot_19 : decode cX12_knot 19 = .ok (.invokevirtual 219, 3) := by decide +kernel
theorem dX12_knot_22 : decode cX12_knot 22 = .ok (.goto 13, 3) := by decide +kernel
theorem dX12_knot_25 : decode cX12_knot 25 = .ok (.aload_n 0, 1) := by decide +kernel
theorem dX12_knot_26 : decode cX12_knot 26 = .ok (.dup, 1) := by decide +kernel
theorem dX12_knot_27 : decode cX12_knot 27 = .ok (.getfield 260, 3) := by decide +kernel
theorem dX12_knot_30 : decode cX12_knot 30 = .ok (.iconst 1, 1) := by decide +kernel
theorem dX12_knot_31 : decode cX12_knot 31 = .ok (.iadd, 1) := by decide +kernel
theorem dX12_knot_32 : decode cX12_knot 32 = .ok (.putfield 260, 3) := by decide +kernel
theorem dX12_knot_35 : decode cX12_knot 35 = .ok (.return_, 1) := by decide +kernel
theorem dX12_expression_0 : decode cX12_expression 0 = .ok (.aload_n 0, 1) := by decide +kernel
theorem dX12_expression_1 : decode cX12_expression 1 = .ok (.invokevirtual 263, 3) := by decide +kernel
theorem dX12_expression_4 : decode cX12_expression 4 = .ok (.aload_n 0, 1) := by decide +kernel
theorem dX12_expression_5 : decode cX12_expression 5 = .ok (.bipush 12, 2) := by decide +kernel
theorem dX12_expression_7 : decode cX12_expression 7 = .ok (.invokevirtual 266, 3) := by decide +kernel
theorem dX12_expression_10 : decode cX12_expression 10 = .ok (.ifCond .eq 26, 3) := by decide +kernel
theorem dX12_expression_13 : decode cX12_expression 13 = .ok (.aload_n 0, 1) := by decide +kernel
theorem dX12_expression_14 : decode cX12_expression 14 = .ok (.invokevirtual 269, 3) := by decide +kernel
theorem dX12_expression_17 : decode cX12_expression 17 = .ok (.aload_n 0, 1) := by decide +kernel
theorem dX12_expression_18 : decode cX12_expression 18 = .ok (.invokevirtual 272, 3) := by decide +kernel
theorem dX12_expression_21 : decode cX12_expression 21 = .ok (.aload_n 0, 1) := by decide +kernel
theorem dX12_expression_22 : decode cX12_expression 22 = .ok (.invokevirtual 263, 3) := by decide +kernel
theorem dX12_expression_25 : decode cX12_expression 25 = .ok (.aload_n 0, 1) := by decide +kernel
theorem dX12_expression_26 : decode cX12_expression 26 = .ok (.iconst 2, 1) := by decide +kernel
theorem dX12_expression_27 : decode cX12_expression 27 = .ok (.sipush 262, 3) := by decide +kernel
theorem dX12_expression_30 : decode cX12_expression 30 = .ok (.invokevirtual 275, 3) := by decide +kernel
theorem dX12_expression_33 : decode cX12_expression 33 = .ok (.goto (-29), 3) := by decide +kernel
theorem dX12_expression_36 : decode cX12_expression 36 = .ok (.return_, 1) := by decide +kernel
theorem dX12_conjunction_0 : decode cX12_conjunction 0 = .ok (.aload_n 0, 1) := by decide +kernel
theorem dX12_conjunction_1 : decode cX12_conjunction 1 = .ok (.invokevirtual 278, 3) := by decide +kernel
theorem dX12_conjunction_4 : decode cX12_conjunction 4 = .ok (.aload_n 0, 1) := by decide +kernel
theorem dX12_conjunction_5 : decode cX12_conjunction 5 = .ok (.bipush 13, 2) := by decide +kernel
theorem dX12_conjunction_7 : decode cX12_conjunction 7 = .ok (.invokevirtual 266, 3) := by decide +kernel
theorem dX12_conjunction_10 : decode cX12_conjunction 10 = .ok (.ifCond .eq 26, 3) := by decide +kernel
theorem dX12_conjunction_13 : decode cX12_conjunction 13 = .ok (.aload_n 0, 1) := by decide +kernel
theorem dX12_conjunction_14 : decode cX12_conjunction 14 = .ok (.invokevirtual 269, 3) := by decide +kernel
theorem dX12_conjunction_17 : decode cX12_conjunction 17 = .ok (.aload_n 0, 1) := by decide +kernel
theorem dX12_conjunction_18 : decode cX12_conjunction 18 = .ok (.invokevirtual 272, 3) := by decide +kernel
theorem dX12_conjunction_21 : decode cX12_conjunction 21 = .ok (.aload_n 0, 1) := by decide +kernel
theorem dX12_conjunction_22 : decode cX12_conjunction 22 = .ok (.invokevirtual 278, 3) := by decide +kernel
theorem dX12_conjunction_25 : decode cX12_conjunction 25 = .ok (.aload_n 0, 1) := by decide +kernel
theorem dX12_conjunction_26 : decode cX12_conjunction 26 = .ok (.iconst 2, 1) := by decide +kernel
theorem dX12_conjunction_27 : decode cX12_conjunction 27 = .ok (.sipush 261, 3) := by decide +kernel
theorem dX12_conjunction_30 : decode cX12_conjunction 30 = .ok (.invokevirtual 275, 3) := by decide +kernel
theorem dX12_conjunction_33 : decode cX12_conjunction 33 = .ok (.goto (-29), 3) := by decide +kernel
theorem dX12_conjunction_36 : decode cX12_conjunction 36 = .ok (.return_, 1) := by decide +kernel
theorem dX12_negation_0 : decode cX12_negation 0 = .ok (.aload_n 0, 1) := by decide +kernel
theorem dX12_negation_1 : decode cX12_negation 1 = .ok (.bipush 14, 2) := by decide +kernel
theorem dX12_negation_3 : decode cX12_negation 3 = .ok (.invokevirtual 266, 3) := by decide +kernel
theorem dX12_negation_6 : decode cX12_negation 6 = .ok (.ifCond .eq 24, 3) := by decide +kernel
theorem dX12_negation_9 : decode cX12_negation 9 = .ok (.aload_n 0, 1) := by decide +kernel
theorem dX12_negation_10 : decode cX12_negation 10 = .ok (.invokevirtual 269, 3) := by decide +kernel
theorem dX12_negation_13 : decode cX12_negation 13 = .ok (.aload_n 0, 1) := by decide +kernel
theorem dX12_negation_14 : decode cX12_negation 14 = .ok (.invokevirtual 272, 3) := by decide +kernel
theorem dX12_negation_17 : decode cX12_negation 17 = .ok (.aload_n 0, 1) := by decide +kernel
theorem dX12_negation_18 : decode cX12_negation 18 = .ok (.invokevirtual 278, 3) := by decide +kernel
theorem dX12_negation_21 : decode cX12_negation 21 = .ok (.aload_n 0, 1) := by decide +kernel
theorem dX12_negation_22 : decode cX12_negation 22 = .ok (.iconst 2, 1) := by decide +kernel
theorem dX12_negation_23 : decode cX12_negation 23 = .ok (.sipush 260, 3) := by decide +kernel
theorem dX12_negation_26 : decode cX12_negation 26 = .ok (.invokevirtual 275, 3) := by decide +kernel
theorem dX12_negation_29 : decode cX12_negation 29 = .ok (.return_, 1) := by decide +kernel
theorem dX12_negation_30 : decode cX12_negation 30 = .ok (.aload_n 0, 1) := by decide +kernel
theorem dX12_negation_31 : decode cX12_negation 31 = .ok (.invokevirtual 281, 3) := by decide +kernel
theorem dX12_negation_34 : decode cX12_negation 34 = .ok (.aload_n 0, 1) := by decide +kernel
theorem dX12_negation_35 : decode cX12_negation 35 = .ok (.getfield 210, 3) := by decide +kernel
theorem dX12_negation_38 : decode cX12_negation 38 = .ok (.ifCond .ne 48, 3) := by decide +kernel
theorem dX12_negation_41 : decode cX12_negation 41 = .ok (.aload_n 0, 1) := by decide +kernel
theorem dX12_negation_42 : decode cX12_negation 42 = .ok (.getfield 176, 3) := by decide +kernel
theorem dX12_negation_45 : decode cX12_negation 45 = .ok (.iconst 3, 1) := by decide +kernel
theorem dX12_negation_46 : decode cX12_negation 46 = .ok (.if_icmp .ne 40, 3) := by decide +kernel
theorem dX12_negation_49 : decode cX12_negation 49 = .ok (.aload_n 0, 1) := by decide +kernel
theorem dX12_negation_50 : decode cX12_negation 50 = .ok (.getfield 186, 3) := by decide +kernel
theorem dX12_negation_53 : decode cX12_negation 53 = .ok (.bipush 60, 2) := by decide +kernel
theorem dX12_negation_55 : decode cX12_negation 55 = .ok (.if_icmp .eq 32, 3) := by decide +kernel
theorem dX12_negation_58 : decode cX12_negation 58 = .ok (.aload_n 0, 1) := by decide +kernel
theorem dX12_negation_59 : decode cX12_negation 59 = .ok (.getfield 186, 3) := by decide +kernel
theorem dX12_negation_62 : decode cX12_negation 62 = .ok (.bipush 62, 2) := by decide +kernel
theorem dX12_negation_64 : decode cX12_negation 64 = .ok (.if_icmp .eq 23, 3) := by decide +kernel
theorem dX12_negation_67 : decode cX12_negation 67 = .ok (.aload_n 0, 1) := by decide +kernel
theorem dX12_negation_68 : decode cX12_negation 68 = .ok (.getfield 186, 3) := by decide +kernel
theorem dX12_negation_71 : decode cX12_negation 71 = .ok (.bipush 61, 2) := by decide +kernel
theorem dX12_negation_73 : decode cX12_negation 73 = .ok (.if_icmp .eq 14, 3) := by decide +kernel
theorem dX12_negation_76 : decode cX12_negation 76 = .ok (.aload_n 0, 1) := by decide +kernel
theorem dX12_negation_77 : decode cX12_negation 77 = .ok (.getfield 186, 3) := by decide +kernel
theorem dX12_negation_80 : decode cX12_negation 80 = .ok (.sipush 256, 3) := by decide +kernel
theorem dX12_negation_83 : decode cX12_negation 83 = .ok (.if_icmp .ge 4, 3) := by decide +kernel
theorem dX12_negation_86 : decode cX12_negation 86 = .ok (.return_, 1) := by decide +kernel
theorem dX12_negation_87 : decode cX12_negation 87 = .ok (.aload_n 0, 1) := by decide +kernel
theorem dX12_negation_88 : decode cX12_negation 88 = .ok (.getfield 186, 3) := by decide +kernel
theorem dX12_negation_91 : decode cX12_negation 91 = .ok (.istore_n 1, 1) := by decide +kernel
theorem dX12_negation_92 : decode cX12_negation 92 = .ok (.aload_n 0, 1) := by decide +kernel
theorem dX12_negation_93 : decode cX12_negation 93 = .ok (.invokevirtual 269, 3) := by decide +kernel
theorem dX12_negation_96 : decode cX12_negation 96 = .ok (.aload_n 0, 1) := by decide +kernel
theorem dX12_negation_97 : decode cX12_negation 97 = .ok (.invokevirtual 272, 3) := by decide +kernel
theorem dX12_negation_100 : decode cX12_negation 100 = .ok (.aload_n 0, 1) := by decide +kernel
theorem dX12_negation_101 : decode cX12_negation 101 = .ok (.invokevirtual 281, 3) := by decide +kernel
theorem dX12_negation_104 : decode cX12_negation 104 = .ok (.aload_n 0, 1) := by decide +kernel
theorem dX12_negation_105 : decode cX12_negation 105 = .ok (.iconst 2, 1) := by decide +kernel
theorem dX12_negation_106 : decode cX12_negation 106 = .ok (.iload_n 1, 1) := by decide +kernel
theorem dX12_negation_107 : decode cX12_negation 107 = .ok (.invokevirtual 275, 3) := by decide +kernel
theorem dX12_negation_110 : decode cX12_negation 110 = .ok (.return_, 1) := by decide +kernel
theorem dX12_sum_0 : decode cX12_sum 0 = .ok (.aload_n 0, 1) := by decide +kernel
theorem dX12_sum_1 : decode cX12_sum 1 = .ok (.invokevirtual 284, 3) := by decide +kernel
theorem dX12_sum_4 : decode cX12_sum 4 = .ok (.aload_n 0, 1) := by decide +kernel
theorem dX12_sum_5 : decode cX12_sum 5 = .ok (.bipush 43, 2) := by decide +kernel
theorem dX12_sum_7 : decode cX12_sum 7 = .ok (.invokevirtual 247, 3) := by decide +kernel
theorem dX12_sum_10 : decode cX12_sum 10 = .ok (.ifCond .ne 12, 3) := by decide +kernel
theorem dX12_sum_13 : decode cX12_sum 13 = .ok (.aload_n 0, 1) := by decide +kernel
theorem dX12_sum_14 : decode cX12_sum 14 = .ok (.bipush 45, 2) := by decide +kernel
theorem dX12_sum_16 : decode cX12_sum 16 = .ok (.invokevirtual 247, 3) := by decide +kernel
theorem dX12_sum_19 : decode cX12_sum 19 = .ok (.ifCond .eq 29, 3) := by decide +kernel
theorem dX12_sum_22 : decode cX12_sum 22 = .ok (.aload_n 0, 1) := by decide +kernel
theorem dX12_sum_23 : decode cX12_sum 23 = .ok (.getfield 186, 3) := by decide +kernel
theorem dX12_sum_26 : decode cX12_sum 26 = .ok (.istore_n 1, 1) := by decide +kernel
theorem dX12_sum_27 : decode cX12_sum 27 = .ok (.aload_n 0, 1) := by decide +kernel
theorem dX12_sum_28 : decode cX12_sum 28 = .ok (.invokevirtual 269, 3) := by decide +kernel
theorem dX12_sum_31 : decode cX12_sum 31 = .ok (.aload_n 0, 1) := by decide +kernel
theorem dX12_sum_32 : decode cX12_sum 32 = .ok (.invokevirtual 272, 3) := by decide +kernel
theorem dX12_sum_35 : decode cX12_sum 35 = .ok (.aload_n 0, 1) := by decide +kernel
theorem dX12_sum_36 : decode cX12_sum 36 = .ok (.invokevirtual 284, 3) := by decide +kernel
theorem dX12_sum_39 : decode cX12_sum 39 = .ok (.aload_n 0, 1) := by decide +kernel
theorem dX12_sum_40 : decode cX12_sum 40 = .ok (.iconst 2, 1) := by decide +kernel
theorem dX12_sum_41 : decode cX12_sum 41 = .ok (.iload_n 1, 1) := by decide +kernel
theorem dX12_sum_42 : decode cX12_sum 42 = .ok (.invokevirtual 275, 3) := by decide +kernel
theorem dX12_sum_45 : decode cX12_sum 45 = .ok (.goto (-41), 3) := by decide +kernel
theorem dX12_sum_48 : decode cX12_sum 48 = .ok (.return_, 1) := by decide +kernel
theorem dX12_product_0 : decode cX12_product 0 = .ok (.aload_n 0, 1) := by decide +kernel
theorem dX12_product_1 : decode cX12_product 1 = .ok (.invokevirtual 287, 3) := by decide +kernel
theorem dX12_product_4 : decode cX12_product 4 = .ok (.aload_n 0, 1) := by decide +kernel
theorem dX12_product_5 : decode cX12_product 5 = .ok (.bipush 42, 2) := by decide +kernel
theorem dX12_product_7 : decode cX12_product 7 = .ok (.invokevirtual 247, 3) := by decide +kernel
theorem dX12_product_10 : decode cX12_product 10 = .ok (.ifCond .ne 12, 3) := by decide +kernel
theorem dX12_product_13 : decode cX12_product 13 = .ok (.aload_n 0, 1) := by decide +kernel
theorem dX12_product_14 : decode cX12_product 14 = .ok (.bipush 47, 2) := by decide +kernel
theorem dX12_product_16 : decode cX12_product 16 = .ok (.invokevirtual 247, 3) := by decide +kernel
theorem dX12_product_19 : decode cX12_product 19 = .ok (.ifCond .eq 29, 3) := by decide +kernel
theorem dX12_product_22 : decode cX12_product 22 = .ok (.aload_n 0, 1) := by decide +kernel
theorem dX12_product_23 : decode cX12_product 23 = .ok (.getfield 186, 3) := by decide +kernel
theorem dX12_product_26 : decode cX12_product 26 = .ok (.istore_n 1, 1) := by decide +kernel
theorem dX12_product_27 : decode cX12_product 27 = .ok (.aload_n 0, 1) := by decide +kernel
theorem dX12_product_28 : decode cX12_product 28 = .ok (.invokevirtual 269, 3) := by decide +kernel
theorem dX12_product_31 : decode cX12_product 31 = .ok (.aload_n 0, 1) := by decide +kernel
theorem dX12_product_32 : decode cX12_product 32 = .ok (.invokevirtual 272, 3) := by decide +kernel
theorem dX12_product_35 : decode cX12_product 35 = .ok (.aload_n 0, 1) := by decide +kernel
theorem dX12_product_36 : decode cX12_product 36 = .ok (.invokevirtual 287, 3) := by decide +kernel
theorem dX12_product_39 : decode cX12_product 39 = .ok (.aload_n 0, 1) := by decide +kernel
theorem dX12_product_40 : decode cX12_product 40 = .ok (.iconst 2, 1) := by decide +kernel
theorem dX12_product_41 : decode cX12_product 41 = .ok (.iload_n 1, 1) := by decide +kernel
theorem dX12_product_42 : decode cX12_product 42 = .ok (.invokevirtual 275, 3) := by decide +kernel
theorem dX12_product_45 : decode cX12_product 45 = .ok (.goto (-41), 3) := by decide +kernel
theorem dX12_product_48 : decode cX12_product 48 = .ok (.return_, 1) := by decide +kernel
theorem dX12_primary_0 : decode cX12_primary 0 = .ok (.aload_n 0, 1) := by decide +kernel
theorem dX12_primary_1 : decode cX12_primary 1 = .ok (.getfield 210, 3) := by decide +kernel
theorem dX12_primary_4 : decode cX12_primary 4 = .ok (.ifCond .eq 4, 3) := by decide +kernel
theorem dX12_primary_7 : decode cX12_primary 7 = .ok (.return_, 1) := by decide +kernel
theorem dX12_primary_8 : decode cX12_primary 8 = .ok (.aload_n 0, 1) := by decide +kernel
theorem dX12_primary_9 : decode cX12_primary 9 = .ok (.bipush 40, 2) := by decide +kernel
theorem dX12_primary_11 : decode cX12_primary 11 = .ok (.invokevirtual 247, 3) := by decide +kernel
theorem dX12_primary_14 : decode cX12_primary 14 = .ok (.ifCond .eq 87, 3) := by decide +kernel
theorem dX12_primary_17 : decode cX12_primary 17 = .ok (.aload_n 0, 1) := by decide +kernel
theorem dX12_primary_18 : decode cX12_primary 18 = .ok (.getfield 290, 3) := by decide +kernel
theorem dX12_primary_21 : decode cX12_primary 21 = .ok (.bipush 8, 2) := by decide +kernel
theorem dX12_primary_23 : decode cX12_primary 23 = .ok (.if_icmp .ne 8, 3) := by decide +kernel
theorem dX12_primary_26 : decode cX12_primary 26 = .ok (.aload_n 0, 1) := by decide +kernel
theorem dX12_primary_27 : decode cX12_primary 27 = .ok (.iconst 2, 1) := by decide +kernel
theorem dX12_primary_28 : decode cX12_primary 28 = .ok (.invokevirtual 219, 3) := by decide +kernel
theorem dX12_primary_31 : decode cX12_primary 31 = .ok (.aload_n 0, 1) := by decide +kernel
theorem dX12_primary_32 : decode cX12_primary 32 = .ok (.getfield 210, 3) := by decide +kernel
theorem dX12_primary_35 : decode cX12_primary 35 = .ok (.ifCond .eq 4, 3) := by decide +kernel
theorem dX12_primary_38 : decode cX12_primary 38 = .ok (.return_, 1) := by decide +kernel
theorem dX12_primary_39 : decode cX12_primary 39 = .ok (.aload_n 0, 1) := by decide +kernel
theorem dX12_primary_40 : decode cX12_primary 40 = .ok (.dup, 1) := by decide +kernel
theorem dX12_primary_41 : decode cX12_primary 41 = .ok (.getfield 290, 3) := by decide +kernel
theorem dX12_primary_44 : decode cX12_primary 44 = .ok (.iconst 1, 1) := by decide +kernel
theorem dX12_primary_45 : decode cX12_primary 45 = .ok (.iadd, 1) := by decide +kernel
theorem dX12_primary_46 : decode cX12_primary 46 = .ok (.putfield 290, 3) := by decide +kernel
theorem dX12_primary_49 : decode cX12_primary 49 = .ok (.aload_n 0, 1) := by decide +kernel
theorem dX12_primary_50 : decode cX12_primary 50 = .ok (.invokevirtual 216, 3) := by decide +kernel
theorem dX12_primary_53 : decode cX12_primary 53 = .ok (.aload_n 0, 1) := by decide +kernel
theorem dX12_primary_54 : decode cX12_primary 54 = .ok (.invokevirtual 257, 3) := by decide +kernel
theorem dX12_primary_57 : decode cX12_primary 57 = .ok (.aload_n 0, 1) := by decide +kernel
theorem dX12_primary_58 : decode cX12_primary 58 = .ok (.getfield 210, 3) := by decide +kernel
theorem dX12_primary_61 : decode cX12_primary 61 = .ok (.ifCond .ne 17, 3) := by decide +kernel
theorem dX12_primary_64 : decode cX12_primary 64 = .ok (.aload_n 0, 1) := by decide +kernel
theorem dX12_primary_65 : decode cX12_primary 65 = .ok (.bipush 41, 2) := by decide +kernel
theorem dX12_primary_67 : decode cX12_primary 67 = .ok (.invokevirtual 247, 3) := by decide +kernel
theorem dX12_primary_70 : decode cX12_primary 70 = .ok (.ifCond .ne 8, 3) := by decide +kernel
theorem dX12_primary_73 : decode cX12_primary 73 = .ok (.aload_n 0, 1) := by decide +kernel
theorem dX12_primary_74 : decode cX12_primary 74 = .ok (.iconst 1, 1) := by decide +kernel
theorem dX12_primary_75 : decode cX12_primary 75 = .ok (.invokevirtual 219, 3) := by decide +kernel
theorem dX12_primary_78 : decode cX12_primary 78 = .ok (.aload_n 0, 1) := by decide +kernel
theorem dX12_primary_79 : decode cX12_primary 79 = .ok (.getfield 210, 3) := by decide +kernel
theorem dX12_primary_82 : decode cX12_primary 82 = .ok (.ifCond .eq 4, 3) := by decide +kernel
theorem dX12_primary_85 : decode cX12_primary 85 = .ok (.return_, 1) := by decide +kernel
theorem dX12_primary_86 : decode cX12_primary 86 = .ok (.aload_n 0, 1) := by decide +kernel
theorem dX12_primary_87 : decode cX12_primary 87 = .ok (.dup, 1) := by decide +kernel
theorem dX12_primary_88 : decode cX12_primary 88 = .ok (.getfield 290, 3) := by decide +kernel
theorem dX12_primary_91 : decode cX12_primary 91 = .ok (.iconst 1, 1) := by decide +kernel
theorem dX12_primary_92 : decode cX12_primary 92 = .ok (.isub, 1) := by decide +kernel
theorem dX12_primary_93 : decode cX12_primary 93 = .ok (.putfield 290, 3) := by decide +kernel
theorem dX12_primary_96 : decode cX12_primary 96 = .ok (.aload_n 0, 1) := by decide +kernel
theorem dX12_primary_97 : decode cX12_primary 97 = .ok (.invokevirtual 216, 3) := by decide +kernel
theorem dX12_primary_100 : decode cX12_primary 100 = .ok (.return_, 1) := by decide +kernel
theorem dX12_primary_101 : decode cX12_primary 101 = .ok (.aload_n 0, 1) := by decide +kernel
theorem dX12_primary_102 : decode cX12_primary 102 = .ok (.getfield 176, 3) := by decide +kernel
theorem dX12_primary_105 : decode cX12_primary 105 = .ok (.iconst 2, 1) := by decide +kernel
theorem dX12_primary_106 : decode cX12_primary 106 = .ok (.if_icmp .ne 7, 3) := by decide +kernel
theorem dX12_primary_109 : decode cX12_primary 109 = .ok (.iconst 1, 1) := by decide +kernel
theorem dX12_primary_110 : decode cX12_primary 110 = .ok (.goto 4, 3) := by decide +kernel
theorem dX12_primary_113 : decode cX12_primary 113 = .ok (.iconst 0, 1) := by decide +kernel
theorem dX12_primary_114 : decode cX12_primary 114 = .ok (.istore_n 1, 1) := by decide +kernel
theorem dX12_primary_115 : decode cX12_primary 115 = .ok (.iload_n 1, 1) := by decide +kernel
theorem dX12_primary_116 : decode cX12_primary 116 = .ok (.ifCond .eq 21, 3) := by decide +kernel
theorem dX12_primary_119 : decode cX12_primary 119 = .ok (.aload_n 0, 1) := by decide +kernel
theorem dX12_primary_120 : decode cX12_primary 120 = .ok (.getfield 186, 3) := by decide +kernel
theorem dX12_primary_123 : decode cX12_primary 123 = .ok (.sipush 9999, 3) := by decide +kernel
theorem dX12_primary_126 : decode cX12_primary 126 = .ok (.if_icmp .le 11, 3) := by decide +kernel
theorem dX12_primary_129 : decode cX12_primary 129 = .ok (.aload_n 0, 1) := by decide +kernel
theorem dX12_primary_130 : decode cX12_primary 130 = .ok (.iconst 2, 1) := by decide +kernel
theorem dX12_primary_131 : decode cX12_primary 131 = .ok (.invokevirtual 219, 3) := by decide +kernel
theorem dX12_primary_134 : decode cX12_primary 134 = .ok (.goto 28, 3) := by decide +kernel
theorem dX12_primary_137 : decode cX12_primary 137 = .ok (.iload_n 1, 1) := by decide +kernel
theorem dX12_primary_138 : decode cX12_primary 138 = .ok (.ifCond .ne 24, 3) := by decide +kernel
theorem dX12_primary_141 : decode cX12_primary 141 = .ok (.aload_n 0, 1) := by decide +kernel
theorem dX12_primary_142 : decode cX12_primary 142 = .ok (.getfield 176, 3) := by decide +kernel
theorem dX12_primary_145 : decode cX12_primary 145 = .ok (.ifCond .ne 12, 3) := by decide +kernel
theorem dX12_primary_148 : decode cX12_primary 148 = .ok (.aload_n 0, 1) := by decide +kernel
theorem dX12_primary_149 : decode cX12_primary 149 = .ok (.getfield 186, 3) := by decide +kernel
theorem dX12_primary_152 : decode cX12_primary 152 = .ok (.bipush 15, 2) := by decide +kernel
theorem dX12_primary_154 : decode cX12_primary 154 = .ok (.if_icmp .ge 8, 3) := by decide +kernel
theorem dX12_primary_157 : decode cX12_primary 157 = .ok (.aload_n 0, 1) := by decide +kernel
theorem dX12_primary_158 : decode cX12_primary 158 = .ok (.iconst 1, 1) := by decide +kernel
theorem dX12_primary_159 : decode cX12_primary 159 = .ok (.invokevirtual 219, 3) := by decide +kernel
theorem dX12_primary_162 : decode cX12_primary 162 = .ok (.aload_n 0, 1) := by decide +kernel
theorem dX12_primary_163 : decode cX12_primary 163 = .ok (.invokevirtual 269, 3) := by decide +kernel
theorem dX12_primary_166 : decode cX12_primary 166 = .ok (.aload_n 0, 1) := by decide +kernel
theorem dX12_primary_167 : decode cX12_primary 167 = .ok (.iload_n 1, 1) := by decide +kernel
theorem dX12_primary_168 : decode cX12_primary 168 = .ok (.ifCond .eq 7, 3) := by decide +kernel
theorem dX12_primary_171 : decode cX12_primary 171 = .ok (.iconst 0, 1) := by decide +kernel
theorem dX12_primary_172 : decode cX12_primary 172 = .ok (.goto 4, 3) := by decide +kernel
theorem dX12_primary_175 : decode cX12_primary 175 = .ok (.iconst 1, 1) := by decide +kernel
theorem dX12_primary_176 : decode cX12_primary 176 = .ok (.iload_n 1, 1) := by decide +kernel
theorem dX12_primary_177 : decode cX12_primary 177 = .ok (.ifCond .eq 10, 3) := by decide +kernel
theorem dX12_primary_180 : decode cX12_primary 180 = .ok (.aload_n 0, 1) := by decide +kernel
theorem dX12_primary_181 : decode cX12_primary 181 = .ok (.getfield 186, 3) := by decide +kernel
theorem dX12_primary_184 : decode cX12_primary 184 = .ok (.goto 10, 3) := by decide +kernel
theorem dX12_primary_187 : decode cX12_primary 187 = .ok (.aload_n 0, 1) := by decide +kernel
theorem dX12_primary_188 : decode cX12_primary 188 = .ok (.getfield 186, 3) := by decide +kernel
theorem dX12_primary_191 : decode cX12_primary 191 = .ok (.bipush 15, 2) := by decide +kernel
theorem dX12_primary_193 : decode cX12_primary 193 = .ok (.isub, 1) := by decide +kernel
theorem dX12_primary_194 : decode cX12_primary 194 = .ok (.invokevirtual 275, 3) := by decide +kernel
theorem dX12_primary_197 : decode cX12_primary 197 = .ok (.aload_n 0, 1) := by decide +kernel
theorem dX12_primary_198 : decode cX12_primary 198 = .ok (.invokevirtual 272, 3) := by decide +kernel
theorem dX12_primary_201 : decode cX12_primary 201 = .ok (.return_, 1) := by decide +kernel
theorem dX12_half_0 : decode cX12_half 0 = .ok (.aload_n 0, 1) := by decide +kernel
theorem dX12_half_1 : decode cX12_half 1 = .ok (.arraylength, 1) := by decide +kernel
theorem dX12_half_2 : decode cX12_half 2 = .ok (.iconst 2, 1) := by decide +kernel
theorem dX12_half_3 : decode cX12_half 3 = .ok (.idiv, 1) := by decide +kernel
theorem dX12_half_4 : decode cX12_half 4 = .ok (.istore_n 1, 1) := by decide +kernel
theorem dX12_half_5 : decode cX12_half 5 = .ok (.iconst 0, 1) := by decide +kernel
theorem dX12_half_6 : decode cX12_half 6 = .ok (.istore_n 2, 1) := by decide +kernel
theorem dX12_half_7 : decode cX12_half 7 = .ok (.iload_n 2, 1) := by decide +kernel
theorem dX12_half_8 : decode cX12_half 8 = .ok (.iload_n 1, 1) := by decide +kernel
theorem dX12_half_9 : decode cX12_half 9 = .ok (.if_icmp .ge 17, 3) := by decide +kernel
theorem dX12_half_12 : decode cX12_half 12 = .ok (.aload_n 0, 1) := by decide +kernel
theorem dX12_half_13 : decode cX12_half 13 = .ok (.iload_n 2, 1) := by decide +kernel
theorem dX12_half_14 : decode cX12_half 14 = .ok (.aload_n 0, 1) := by decide +kernel
theorem dX12_half_15 : decode cX12_half 15 = .ok (.iload_n 1, 1) := by decide +kernel
theorem dX12_half_16 : decode cX12_half 16 = .ok (.iload_n 2, 1) := by decide +kernel
theorem dX12_half_17 : decode cX12_half 17 = .ok (.iadd, 1) := by decide +kernel
theorem dX12_half_18 : decode cX12_half 18 = .ok (.iaload, 1) := by decide +kernel
theorem dX12_half_19 : decode cX12_half 19 = .ok (.iastore, 1) := by decide +kernel
theorem dX12_half_20 : decode cX12_half 20 = .ok (.iinc 2 1, 3) := by decide +kernel
theorem dX12_half_23 : decode cX12_half 23 = .ok (.goto (-16), 3) := by decide +kernel
theorem dX12_half_26 : decode cX12_half 26 = .ok (.return_, 1) := by decide +kernel
theorem dX12_text_0 : decode cX12_text 0 = .ok (.aload_n 0, 1) := by decide +kernel
theorem dX12_text_1 : decode cX12_text 1 = .ok (.iconst 0, 1) := by decide +kernel
theorem dX12_text_2 : decode cX12_text 2 = .ok (.putfield 157, 3) := by decide +kernel
theorem dX12_text_5 : decode cX12_text 5 = .ok (.iload_n 1, 1) := by decide +kernel
theorem dX12_text_6 : decode cX12_text 6 = .ok (.ifCond .lt 11, 3) := by decide +kernel
theorem dX12_text_9 : decode cX12_text 9 = .ok (.iload_n 1, 1) := by decide +kernel
theorem dX12_text_10 : decode cX12_text 10 = .ok (.aload_n 0, 1) := by decide +kernel
theorem dX12_text_11 : decode cX12_text 11 = .ok (.getfield 160, 3) := by decide +kernel
theorem dX12_text_14 : decode cX12_text 14 = .ok (.if_icmp .le 6, 3) := by decide +kernel
theorem dX12_text_17 : decode cX12_text 17 = .ok (.bipush (-2), 2) := by decide +kernel
theorem dX12_text_19 : decode cX12_text 19 = .ok (.ireturn, 1) := by decide +kernel
theorem dX12_text_20 : decode cX12_text 20 = .ok (.aload_n 0, 1) := by decide +kernel
theorem dX12_text_21 : decode cX12_text 21 = .ok (.iload_n 1, 1) := by decide +kernel
theorem dX12_text_22 : decode cX12_text 22 = .ok (.putfield 166, 3) := by decide +kernel
theorem dX12_text_25 : decode cX12_text 25 = .ok (.aload_n 0, 1) := by decide +kernel
theorem dX12_text_26 : decode cX12_text 26 = .ok (.iconst 0, 1) := by decide +kernel
theorem dX12_text_27 : decode cX12_text 27 = .ok (.putfield 160, 3) := by decide +kernel
theorem dX12_text_30 : decode cX12_text 30 = .ok (.aload_n 0, 1) := by decide +kernel
theorem dX12_text_31 : decode cX12_text 31 = .ok (.iconst 0, 1) := by decide +kernel
theorem dX12_text_32 : decode cX12_text 32 = .ok (.putfield 163, 3) := by decide +kernel
theorem dX12_text_35 : decode cX12_text 35 = .ok (.aload_n 0, 1) := by decide +kernel
theorem dX12_text_36 : decode cX12_text 36 = .ok (.iconst 0, 1) := by decide +kernel
theorem dX12_text_37 : decode cX12_text 37 = .ok (.putfield 210, 3) := by decide +kernel
theorem dX12_text_40 : decode cX12_text 40 = .ok (.aload_n 0, 1) := by decide +kernel
theorem dX12_text_41 : decode cX12_text 41 = .ok (.iconst (-1), 1) := by decide +kernel
theorem dX12_text_42 : decode cX12_text 42 = .ok (.putfield 213, 3) := by decide +kernel
theorem dX12_text_45 : decode cX12_text 45 = .ok (.iconst 0, 1) := by decide +kernel
theorem dX12_text_46 : decode cX12_text 46 = .ok (.istore_n 2, 1) := by decide +kernel
theorem dX12_text_47 : decode cX12_text 47 = .ok (.iload_n 2, 1) := by decide +kernel
theorem dX12_text_48 : decode cX12_text 48 = .ok (.bipush 9, 2) := by decide +kernel
theorem dX12_text_50 : decode cX12_text 50 = .ok (.if_icmp .ge 54, 3) := by decide +kernel
theorem dX12_text_53 : decode cX12_text 53 = .ok (.aload_n 0, 1) := by decide +kernel
theorem dX12_text_54 : decode cX12_text 54 = .ok (.iload_n 2, 1) := by decide +kernel
theorem dX12_text_55 : decode cX12_text 55 = .ok (.iload_n 2, 1) := by decide +kernel
theorem dX12_text_56 : decode cX12_text 56 = .ok (.iconst 1, 1) := by decide +kernel
theorem dX12_text_57 : decode cX12_text 57 = .ok (.if_icmp .ne 8, 3) := by decide +kernel
theorem dX12_text_60 : decode cX12_text 60 = .ok (.bipush 12, 2) := by decide +kernel
theorem dX12_text_62 : decode cX12_text 62 = .ok (.goto 33, 3) := by decide +kernel
theorem dX12_text_65 : decode cX12_text 65 = .ok (.iload_n 2, 1) := by decide +kernel
theorem dX12_text_66 : decode cX12_text 66 = .ok (.iconst 3, 1) := by decide +kernel
theorem dX12_text_67 : decode cX12_text 67 = .ok (.if_icmp .ne 8, 3) := by decide +kernel
theorem dX12_text_70 : decode cX12_text 70 = .ok (.bipush 30, 2) := by decide +kernel
theorem dX12_text_72 : decode cX12_text 72 = .ok (.goto 23, 3) := by decide +kernel
theorem dX12_text_75 : decode cX12_text 75 = .ok (.iload_n 2, 1) := by decide +kernel
theorem dX12_text_76 : decode cX12_text 76 = .ok (.iconst 4, 1) := by decide +kernel
theorem dX12_text_77 : decode cX12_text 77 = .ok (.if_icmp .ne 8, 3) := by decide +kernel
theorem dX12_text_80 : decode cX12_text 80 = .ok (.bipush 20, 2) := by decide +kernel
theorem dX12_text_82 : decode cX12_text 82 = .ok (.goto 13, 3) := by decide +kernel
theorem dX12_text_85 : decode cX12_text 85 = .ok (.iload_n 2, 1) := by decide +kernel
theorem dX12_text_86 : decode cX12_text 86 = .ok (.iconst 5, 1) := by decide +kernel
theorem dX12_text_87 : decode cX12_text 87 = .ok (.if_icmp .ne 7, 3) := by decide +kernel
theorem dX12_text_90 : decode cX12_text 90 = .ok (.iconst 2, 1) := by decide +kernel
theorem dX12_text_91 : decode cX12_text 91 = .ok (.goto 4, 3) := by decide +kernel
theorem dX12_text_94 : decode cX12_text 94 = .ok (.iconst 0, 1) := by decide +kernel
theorem dX12_text_95 : decode cX12_text 95 = .ok (.invokevirtual 240, 3) := by decide +kernel
theorem dX12_text_98 : decode cX12_text 98 = .ok (.iinc 2 1, 3) := by decide +kernel
theorem dX12_text_101 : decode cX12_text 101 = .ok (.goto (-54), 3) := by decide +kernel
theorem dX12_text_104 : decode cX12_text 104 = .ok (.iconst 3, 1) := by decide +kernel
theorem dX12_text_105 : decode cX12_text 105 = .ok (.istore_n 2, 1) := by decide +kernel
theorem dX12_text_106 : decode cX12_text 106 = .ok (.iload_n 2, 1) := by decide +kernel
theorem dX12_text_107 : decode cX12_text 107 = .ok (.bipush 6, 2) := by decide +kernel
theorem dX12_text_109 : decode cX12_text 109 = .ok (.if_icmp .ge 23, 3) := by decide +kernel
theorem dX12_text_112 : decode cX12_text 112 = .ok (.aload_n 0, 1) := by decide +kernel
theorem dX12_text_113 : decode cX12_text 113 = .ok (.getfield 40, 3) := by decide +kernel
theorem dX12_text_116 : decode cX12_text 116 = .ok (.iload_n 2, 1) := by decide +kernel
theorem dX12_text_117 : decode cX12_text 117 = .ok (.iconst 0, 1) := by decide +kernel
theorem dX12_text_118 : decode cX12_text 118 = .ok (.iastore, 1) := by decide +kernel
theorem dX12_text_119 : decode cX12_text 119 = .ok (.aload_n 0, 1) := by decide +kernel
theorem dX12_text_120 : decode cX12_text 120 = .ok (.getfield 43, 3) := by decide +kernel
theorem dX12_text_123 : decode cX12_text 123 = .ok (.iload_n 2, 1) := by decide +kernel
theorem dX12_text_124 : decode cX12_text 124 = .ok (.iconst 0, 1) := by decide +kernel
theorem dX12_text_125 : decode cX12_text 125 = .ok (.iastore, 1) := by decide +kernel
theorem dX12_text_126 : decode cX12_text 126 = .ok (.iinc 2 1, 3) := by decide +kernel
theorem dX12_text_129 : decode cX12_text 129 = .ok (.goto (-23), 3) := by decide +kernel
theorem dX12_text_132 : decode cX12_text 132 = .ok (.aload_n 0, 1) := by decide +kernel
theorem dX12_text_133 : decode cX12_text 133 = .ok (.iconst 0, 1) := by decide +kernel
theorem dX12_text_134 : decode cX12_text 134 = .ok (.putfield 230, 3) := by decide +kernel
theorem dX12_text_137 : decode cX12_text 137 = .ok (.aload_n 0, 1) := by decide +kernel
theorem dX12_text_138 : decode cX12_text 138 = .ok (.iconst 0, 1) := by decide +kernel
theorem dX12_text_139 : decode cX12_text 139 = .ok (.putfield 250, 3) := by decide +kernel
theorem dX12_text_142 : decode cX12_text 142 = .ok (.aload_n 0, 1) := by decide +kernel
theorem dX12_text_143 : decode cX12_text 143 = .ok (.iconst 0, 1) := by decide +kernel
theorem dX12_text_144 : decode cX12_text 144 = .ok (.putfield 290, 3) := by decide +kernel
theorem dX12_text_147 : decode cX12_text 147 = .ok (.aload_n 0, 1) := by decide +kernel
theorem dX12_text_148 : decode cX12_text 148 = .ok (.iconst 0, 1) := by decide +kernel
theorem dX12_text_149 : decode cX12_text 149 = .ok (.putfield 260, 3) := by decide +kernel
theorem dX12_text_152 : decode cX12_text 152 = .ok (.aload_n 0, 1) := by decide +kernel
theorem dX12_text_153 : decode cX12_text 153 = .ok (.invokevirtual 216, 3) := by decide +kernel
theorem dX12_text_156 : decode cX12_text 156 = .ok (.aload_n 0, 1) := by decide +kernel
theorem dX12_text_157 : decode cX12_text 157 = .ok (.getfield 210, 3) := by decide +kernel
theorem dX12_text_160 : decode cX12_text 160 = .ok (.ifCond .ne 18, 3) := by decide +kernel
theorem dX12_text_163 : decode cX12_text 163 = .ok (.aload_n 0, 1) := by decide +kernel
theorem dX12_text_164 : decode cX12_text 164 = .ok (.getfield 176, 3) := by decide +kernel
theorem dX12_text_167 : decode cX12_text 167 = .ok (.iconst 4, 1) := by decide +kernel
theorem dX12_text_168 : decode cX12_text 168 = .ok (.if_icmp .eq 10, 3) := by decide +kernel
theorem dX12_text_171 : decode cX12_text 171 = .ok (.aload_n 0, 1) := by decide +kernel
theorem dX12_text_172 : decode cX12_text 172 = .ok (.invokevirtual 293, 3) := by decide +kernel
theorem dX12_text_175 : decode cX12_text 175 = .ok (.goto (-19), 3) := by decide +kernel
theorem dX12_text_178 : decode cX12_text 178 = .ok (.aload_n 0, 1) := by decide +kernel
theorem dX12_text_179 : decode cX12_text 179 = .ok (.aload_n 0, 1) := by decide +kernel
theorem dX12_text_180 : decode cX12_text 180 = .ok (.getfield 210, 3) := by decide +kernel
theorem dX12_text_183 : decode cX12_text 183 = .ok (.putfield 296, 3) := by decide +kernel
theorem dX12_text_186 : decode cX12_text 186 = .ok (.aload_n 0, 1) := by decide +kernel
theorem dX12_text_187 : decode cX12_text 187 = .ok (.aload_n 0, 1) := by decide +kernel
theorem dX12_text_188 : decode cX12_text 188 = .ok (.getfield 213, 3) := by decide +kernel
theorem dX12_text_191 : decode cX12_text 191 = .ok (.putfield 52, 3) := by decide +kernel
theorem dX12_text_194 : decode cX12_text 194 = .ok (.aload_n 0, 1) := by decide +kernel
theorem dX12_text_195 : decode cX12_text 195 = .ok (.getfield 210, 3) := by decide +kernel
theorem dX12_text_198 : decode cX12_text 198 = .ok (.ifCond .eq 5, 3) := by decide +kernel
theorem dX12_text_201 : decode cX12_text 201 = .ok (.iconst (-1), 1) := by decide +kernel
theorem dX12_text_202 : decode cX12_text 202 = .ok (.ireturn, 1) := by decide +kernel
theorem dX12_text_203 : decode cX12_text 203 = .ok (.aload_n 0, 1) := by decide +kernel
theorem dX12_text_204 : decode cX12_text 204 = .ok (.getfield 13, 3) := by decide +kernel
theorem dX12_text_207 : decode cX12_text 207 = .ok (.invokestatic 299, 3) := by decide +kernel
theorem dX12_text_210 : decode cX12_text 210 = .ok (.aload_n 0, 1) := by decide +kernel
theorem dX12_text_211 : decode cX12_text 211 = .ok (.getfield 16, 3) := by decide +kernel
theorem dX12_text_214 : decode cX12_text 214 = .ok (.invokestatic 299, 3) := by decide +kernel
theorem dX12_text_217 : decode cX12_text 217 = .ok (.aload_n 0, 1) := by decide +kernel
theorem dX12_text_218 : decode cX12_text 218 = .ok (.getfield 19, 3) := by decide +kernel
theorem dX12_text_221 : decode cX12_text 221 = .ok (.invokestatic 299, 3) := by decide +kernel
theorem dX12_text_224 : decode cX12_text 224 = .ok (.aload_n 0, 1) := by decide +kernel
theorem dX12_text_225 : decode cX12_text 225 = .ok (.getfield 22, 3) := by decide +kernel
theorem dX12_text_228 : decode cX12_text 228 = .ok (.invokestatic 299, 3) := by decide +kernel
theorem dX12_text_231 : decode cX12_text 231 = .ok (.aload_n 0, 1) := by decide +kernel
theorem dX12_text_232 : decode cX12_text 232 = .ok (.getfield 25, 3) := by decide +kernel
theorem dX12_text_235 : decode cX12_text 235 = .ok (.invokestatic 299, 3) := by decide +kernel
theorem dX12_text_238 : decode cX12_text 238 = .ok (.aload_n 0, 1) := by decide +kernel
theorem dX12_text_239 : decode cX12_text 239 = .ok (.getfield 28, 3) := by decide +kernel
theorem dX12_text_242 : decode cX12_text 242 = .ok (.invokestatic 299, 3) := by decide +kernel
theorem dX12_text_245 : decode cX12_text 245 = .ok (.aload_n 0, 1) := by decide +kernel
theorem dX12_text_246 : decode cX12_text 246 = .ok (.getfield 31, 3) := by decide +kernel
theorem dX12_text_249 : decode cX12_text 249 = .ok (.invokestatic 299, 3) := by decide +kernel
theorem dX12_text_252 : decode cX12_text 252 = .ok (.aload_n 0, 1) := by decide +kernel
theorem dX12_text_253 : decode cX12_text 253 = .ok (.getfield 34, 3) := by decide +kernel
theorem dX12_text_256 : decode cX12_text 256 = .ok (.invokestatic 299, 3) := by decide +kernel
theorem dX12_text_259 : decode cX12_text 259 = .ok (.aload_n 0, 1) := by decide +kernel
theorem dX12_text_260 : decode cX12_text 260 = .ok (.getfield 37, 3) := by decide +kernel
theorem dX12_text_263 : decode cX12_text 263 = .ok (.invokestatic 299, 3) := by decide +kernel
theorem dX12_text_266 : decode cX12_text 266 = .ok (.aload_n 0, 1) := by decide +kernel
theorem dX12_text_267 : decode cX12_text 267 = .ok (.getfield 40, 3) := by decide +kernel
theorem dX12_text_270 : decode cX12_text 270 = .ok (.invokestatic 299, 3) := by decide +kernel
theorem dX12_text_273 : decode cX12_text 273 = .ok (.aload_n 0, 1) := by decide +kernel
theorem dX12_text_274 : decode cX12_text 274 = .ok (.getfield 43, 3) := by decide +kernel
theorem dX12_text_277 : decode cX12_text 277 = .ok (.invokestatic 299, 3) := by decide +kernel
theorem dX12_text_280 : decode cX12_text 280 = .ok (.aload_n 0, 1) := by decide +kernel
theorem dX12_text_281 : decode cX12_text 281 = .ok (.getfield 46, 3) := by decide +kernel
theorem dX12_text_284 : decode cX12_text 284 = .ok (.invokestatic 299, 3) := by decide +kernel
theorem dX12_text_287 : decode cX12_text 287 = .ok (.aload_n 0, 1) := by decide +kernel
theorem dX12_text_288 : decode cX12_text 288 = .ok (.getfield 49, 3) := by decide +kernel
theorem dX12_text_291 : decode cX12_text 291 = .ok (.invokestatic 299, 3) := by decide +kernel
theorem dX12_text_294 : decode cX12_text 294 = .ok (.aload_n 0, 1) := by decide +kernel
theorem dX12_text_295 : decode cX12_text 295 = .ok (.iconst 0, 1) := by decide +kernel
theorem dX12_text_296 : decode cX12_text 296 = .ok (.putfield 303, 3) := by decide +kernel
theorem dX12_text_299 : decode cX12_text 299 = .ok (.aload_n 0, 1) := by decide +kernel
theorem dX12_text_300 : decode cX12_text 300 = .ok (.iconst (-1), 1) := by decide +kernel
theorem dX12_text_301 : decode cX12_text 301 = .ok (.putfield 135, 3) := by decide +kernel
theorem dX12_text_304 : decode cX12_text 304 = .ok (.aload_n 0, 1) := by decide +kernel
theorem dX12_text_305 : decode cX12_text 305 = .ok (.iconst 0, 1) := by decide +kernel
theorem dX12_text_306 : decode cX12_text 306 = .ok (.putfield 306, 3) := by decide +kernel
theorem dX12_text_309 : decode cX12_text 309 = .ok (.aload_n 0, 1) := by decide +kernel
theorem dX12_text_310 : decode cX12_text 310 = .ok (.iconst 0, 1) := by decide +kernel
theorem dX12_text_311 : decode cX12_text 311 = .ok (.putfield 310, 3) := by decide +kernel
theorem dX12_text_314 : decode cX12_text 314 = .ok (.aload_n 0, 1) := by decide +kernel
theorem dX12_text_315 : decode cX12_text 315 = .ok (.invokevirtual 154, 3) := by decide +kernel
theorem dX12_text_318 : decode cX12_text 318 = .ok (.aload_n 0, 1) := by decide +kernel
theorem dX12_text_319 : decode cX12_text 319 = .ok (.getfield 250, 3) := by decide +kernel
theorem dX12_text_322 : decode cX12_text 322 = .ok (.ireturn, 1) := by decide +kernel
theorem dX12_fault_0 : decode cX12_fault 0 = .ok (.aload_n 0, 1) := by decide +kernel
theorem dX12_fault_1 : decode cX12_fault 1 = .ok (.iconst 0, 1) := by decide +kernel
theorem dX12_fault_2 : decode cX12_fault 2 = .ok (.putfield 157, 3) := by decide +kernel
theorem dX12_fault_5 : decode cX12_fault 5 = .ok (.iload_n 1, 1) := by decide +kernel
theorem dX12_fault_6 : decode cX12_fault 6 = .ok (.ifCond .ne 10, 3) := by decide +kernel
theorem dX12_fault_9 : decode cX12_fault 9 = .ok (.aload_n 0, 1) := by decide +kernel
theorem dX12_fault_10 : decode cX12_fault 10 = .ok (.getfield 296, 3) := by decide +kernel
theorem dX12_fault_13 : decode cX12_fault 13 = .ok (.goto 16, 3) := by decide +kernel
theorem dX12_fault_16 : decode cX12_fault 16 = .ok (.iload_n 1, 1) := by decide +kernel
theorem dX12_fault_17 : decode cX12_fault 17 = .ok (.iconst 1, 1) := by decide +kernel
theorem dX12_fault_18 : decode cX12_fault 18 = .ok (.if_icmp .ne 10, 3) := by decide +kernel
theorem dX12_fault_21 : decode cX12_fault 21 = .ok (.aload_n 0, 1) := by decide +kernel
theorem dX12_fault_22 : decode cX12_fault 22 = .ok (.getfield 52, 3) := by decide +kernel
theorem dX12_fault_25 : decode cX12_fault 25 = .ok (.goto 4, 3) := by decide +kernel
theorem dX12_fault_28 : decode cX12_fault 28 = .ok (.iconst (-1), 1) := by decide +kernel
theorem dX12_fault_29 : decode cX12_fault 29 = .ok (.ireturn, 1) := by decide +kernel
theorem dX12_named_0 : decode cX12_named 0 = .ok (.aload_n 0, 1) := by decide +kernel
theorem dX12_named_1 : decode cX12_named 1 = .ok (.iconst 0, 1) := by decide +kernel
theorem dX12_named_2 : decode cX12_named 2 = .ok (.putfield 157, 3) := by decide +kernel
theorem dX12_named_5 : decode cX12_named 5 = .ok (.aload_n 0, 1) := by decide +kernel
theorem dX12_named_6 : decode cX12_named 6 = .ok (.getfield 16, 3) := by decide +kernel
theorem dX12_named_9 : decode cX12_named 9 = .ok (.iconst 0, 1) := by decide +kernel
theorem dX12_named_10 : decode cX12_named 10 = .ok (.aload_n 0, 1) := by decide +kernel
theorem dX12_named_11 : decode cX12_named 11 = .ok (.getfield 13, 3) := by decide +kernel
theorem dX12_named_14 : decode cX12_named 14 = .ok (.iconst 0, 1) := by decide +kernel
theorem dX12_named_15 : decode cX12_named 15 = .ok (.iaload, 1) := by decide +kernel
theorem dX12_named_16 : decode cX12_named 16 = .ok (.iload_n 1, 1) := by decide +kernel
theorem dX12_named_17 : decode cX12_named 17 = .ok (.invokestatic 222, 3) := by decide +kernel
theorem dX12_named_20 : decode cX12_named 20 = .ok (.ireturn, 1) := by decide +kernel
theorem dX12_is_0 : decode cX12_is 0 = .ok (.iload_n 0, 1) := by decide +kernel
theorem dX12_is_1 : decode cX12_is 1 = .ok (.ifCond .eq 7, 3) := by decide +kernel
theorem dX12_is_4 : decode cX12_is 4 = .ok (.lconst 1, 1) := by decide +kernel
theorem dX12_is_5 : decode cX12_is 5 = .ok (.goto 4, 3) := by decide +kernel
theorem dX12_is_8 : decode cX12_is 8 = .ok (.lconst 0, 1) := by decide +kernel
theorem dX12_is_9 : decode cX12_is 9 = .ok (.lreturn, 1) := by decide +kernel
theorem dX12_works_0 : decode cX12_works 0 = .ok (.aload_n 0, 1) := by decide +kernel
theorem dX12_works_1 : decode cX12_works 1 = .ok (.getfield 60, 3) := by decide +kernel
theorem dX12_works_4 : decode cX12_works 4 = .ok (.aload_n 0, 1) := by decide +kernel
theorem dX12_works_5 : decode cX12_works 5 = .ok (.getfield 313, 3) := by decide +kernel
theorem dX12_works_8 : decode cX12_works 8 = .ok (.iconst 1, 1) := by decide +kernel
theorem dX12_works_9 : decode cX12_works 9 = .ok (.isub, 1) := by decide +kernel
theorem dX12_works_10 : decode cX12_works 10 = .ok (.laload, 1) := by decide +kernel
theorem dX12_works_11 : decode cX12_works 11 = .ok (.lstore_n 2, 1) := by decide +kernel
theorem dX12_works_12 : decode cX12_works 12 = .ok (.iload_n 1, 1) := by decide +kernel
theorem dX12_works_13 : decode cX12_works 13 = .ok (.sipush 260, 3) := by decide +kernel
theorem dX12_works_16 : decode cX12_works 16 = .ok (.if_icmp .ne 30, 3) := by decide +kernel
theorem dX12_works_19 : decode cX12_works 19 = .ok (.aload_n 0, 1) := by decide +kernel
theorem dX12_works_20 : decode cX12_works 20 = .ok (.getfield 60, 3) := by decide +kernel
theorem dX12_works_23 : decode cX12_works 23 = .ok (.aload_n 0, 1) := by decide +kernel
theorem dX12_works_24 : decode cX12_works 24 = .ok (.getfield 313, 3) := by decide +kernel
theorem dX12_works_27 : decode cX12_works 27 = .ok (.iconst 1, 1) := by decide +kernel
theorem dX12_works_28 : decode cX12_works 28 = .ok (.isub, 1) := by decide +kernel
theorem dX12_works_29 : decode cX12_works 29 = .ok (.lload_n 2, 1) := by decide +kernel
theorem dX12_works_30 : decode cX12_works 30 = .ok (.lconst 0, 1) := by decide +kernel
theorem dX12_works_31 : decode cX12_works 31 = .ok (.lcmp, 1) := by decide +kernel
theorem dX12_works_32 : decode cX12_works 32 = .ok (.ifCond .ne 7, 3) := by decide +kernel
theorem dX12_works_35 : decode cX12_works 35 = .ok (.iconst 1, 1) := by decide +kernel
theorem dX12_works_36 : decode cX12_works 36 = .ok (.goto 4, 3) := by decide +kernel
theorem dX12_works_39 : decode cX12_works 39 = .ok (.iconst 0, 1) := by decide +kernel
theorem dX12_works_40 : decode cX12_works 40 = .ok (.invokestatic 316, 3) := by decide +kernel
theorem dX12_works_43 : decode cX12_works 43 = .ok (.lastore, 1) := by decide +kernel
theorem dX12_works_44 : decode cX12_works 44 = .ok (.iconst 1, 1) := by decide +kernel
theorem dX12_works_45 : decode cX12_works 45 = .ok (.ireturn, 1) := by decide +kernel
theorem dX12_works_46 : decode cX12_works 46 = .ok (.aload_n 0, 1) := by decide +kernel
theorem dX12_works_47 : decode cX12_works 47 = .ok (.getfield 60, 3) := by decide +kernel
theorem dX12_works_50 : decode cX12_works 50 = .ok (.aload_n 0, 1) := by decide +kernel
theorem dX12_works_51 : decode cX12_works 51 = .ok (.getfield 313, 3) := by decide +kernel
theorem dX12_works_54 : decode cX12_works 54 = .ok (.iconst 2, 1) := by decide +kernel
theorem dX12_works_55 : decode cX12_works 55 = .ok (.isub, 1) := by decide +kernel
theorem dX12_works_56 : decode cX12_works 56 = .ok (.laload, 1) := by decide +kernel
theorem dX12_works_57 : decode cX12_works 57 = .ok (.lstore 4, 2) := by decide +kernel
theorem dX12_works_59 : decode cX12_works 59 = .ok (.aload_n 0, 1) := by decide +kernel
theorem dX12_works_60 : decode cX12_works 60 = .ok (.dup, 1) := by decide +kernel
theorem dX12_works_61 : decode cX12_works 61 = .ok (.getfield 313, 3) := by decide +kernel
theorem dX12_works_64 : decode cX12_works 64 = .ok (.iconst 1, 1) := by decide +kernel
theorem dX12_works_65 : decode cX12_works 65 = .ok (.isub, 1) := by decide +kernel
theorem dX12_works_66 : decode cX12_works 66 = .ok (.putfield 313, 3) := by decide +kernel
theorem dX12_works_69 : decode cX12_works 69 = .ok (.iload_n 1, 1) := by decide +kernel
theorem dX12_works_70 : decode cX12_works 70 = .ok (.lookupswitch 314 #[(42, 116), (43, 98), (45, 107), (47, 151), (60, 168), (61, 208), (62, 188), (256, 228), (257, 268), (258, 248), (261, 288)], 98) := by decide +kernel
theorem dX12_works_168 : decode cX12_works 168 = .ok (.lload 4, 2) := by decide +kernel
theorem dX12_works_170 : decode cX12_works 170 = .ok (.lload_n 2, 1) := by decide +kernel
theorem dX12_works_171 : decode cX12_works 171 = .ok (.ladd, 1) := by decide +kernel
theorem dX12_works_172 : decode cX12_works 172 = .ok (.lstore 6, 2) := by decide +kernel
theorem dX12_works_174 : decode cX12_works 174 = .ok (.goto 233, 3) := by decide +kernel
theorem dX12_works_177 : decode cX12_works 177 = .ok (.lload 4, 2) := by decide +kernel
theorem dX12_works_179 : decode cX12_works 179 = .ok (.lload_n 2, 1) := by decide +kernel
theorem dX12_works_180 : decode cX12_works 180 = .ok (.lsub, 1) := by decide +kernel
theorem dX12_works_181 : decode cX12_works 181 = .ok (.lstore 6, 2) := by decide +kernel
theorem dX12_works_183 : decode cX12_works 183 = .ok (.goto 224, 3) := by decide +kernel
theorem dX12_works_186 : decode cX12_works 186 = .ok (.lload 4, 2) := by decide +kernel
theorem dX12_works_188 : decode cX12_works 188 = .ok (.lconst 0, 1) := by decide +kernel
theorem dX12_works_189 : decode cX12_works 189 = .ok (.lcmp, 1) := by decide +kernel
theorem dX12_works_190 : decode cX12_works 190 = .ok (.ifCond .eq 22, 3) := by decide +kernel
theorem dX12_works_193 : decode cX12_works 193 = .ok (.lload_n 2, 1) := by decide +kernel
theorem dX12_works_194 : decode cX12_works 194 = .ok (.invokestatic 320, 3) := by decide +kernel
theorem dX12_works_197 : decode cX12_works 197 = .ok (.ldc2_w 326, 3) := by decide +kernel
theorem dX12_works_200 : decode cX12_works 200 = .ok (.lload 4, 2) := by decide +kernel
theorem dX12_works_202 : decode cX12_works 202 = .ok (.invokestatic 320, 3) := by decide +kernel
theorem dX12_works_205 : decode cX12_works 205 = .ok (.ldiv, 1) := by decide +kernel
theorem dX12_works_206 : decode cX12_works 206 = .ok (.lcmp, 1) := by decide +kernel
theorem dX12_works_207 : decode cX12_works 207 = .ok (.ifCond .le 5, 3) := by decide +kernel
theorem dX12_works_210 : decode cX12_works 210 = .ok (.iconst 0, 1) := by decide +kernel
theorem dX12_works_211 : decode cX12_works 211 = .ok (.ireturn, 1) := by decide +kernel
theorem dX12_works_212 : decode cX12_works 212 = .ok (.lload 4, 2) := by decide +kernel
theorem dX12_works_214 : decode cX12_works 214 = .ok (.lload_n 2, 1) := by decide +kernel
theorem dX12_works_215 : decode cX12_works 215 = .ok (.lmul, 1) := by decide +kernel
theorem dX12_works_216 : decode cX12_works 216 = .ok (.lstore 6, 2) := by decide +kernel
theorem dX12_works_218 : decode cX12_works 218 = .ok (.goto 189, 3) := by decide +kernel
theorem dX12_works_221 : decode cX12_works 221 = .ok (.lload_n 2, 1) := by decide +kernel
theorem dX12_works_222 : decode cX12_works 222 = .ok (.lconst 0, 1) := by decide +kernel
theorem dX12_works_223 : decode cX12_works 223 = .ok (.lcmp, 1) := by decide +kernel
theorem dX12_works_224 : decode cX12_works 224 = .ok (.ifCond .ne 5, 3) := by decide +kernel
theorem dX12_works_227 : decode cX12_works 227 = .ok (.iconst 0, 1) := by decide +kernel
theorem dX12_works_228 : decode cX12_works 228 = .ok (.ireturn, 1) := by decide +kernel
theorem dX12_works_229 : decode cX12_works 229 = .ok (.lload 4, 2) := by decide +kernel
theorem dX12_works_231 : decode cX12_works 231 = .ok (.lload_n 2, 1) := by decide +kernel
theorem dX12_works_232 : decode cX12_works 232 = .ok (.ldiv, 1) := by decide +kernel
theorem dX12_works_233 : decode cX12_works 233 = .ok (.lstore 6, 2) := by decide +kernel
theorem dX12_works_235 : decode cX12_works 235 = .ok (.goto 172, 3) := by decide +kernel
theorem dX12_works_238 : decode cX12_works 238 = .ok (.lload 4, 2) := by decide +kernel
theorem dX12_works_240 : decode cX12_works 240 = .ok (.lload_n 2, 1) := by decide +kernel
theorem dX12_works_241 : decode cX12_works 241 = .ok (.lcmp, 1) := by decide +kernel
theorem dX12_works_242 : decode cX12_works 242 = .ok (.ifCond .ge 7, 3) := by decide +kernel
theorem dX12_works_245 : decode cX12_works 245 = .ok (.iconst 1, 1) := by decide +kernel
theorem dX12_works_246 : decode cX12_works 246 = .ok (.goto 4, 3) := by decide +kernel
theorem dX12_works_249 : decode cX12_works 249 = .ok (.iconst 0, 1) := by decide +kernel
theorem dX12_works_250 : decode cX12_works 250 = .ok (.invokestatic 316, 3) := by decide +kernel
theorem dX12_works_253 : decode cX12_works 253 = .ok (.lstore 6, 2) := by decide +kernel
theorem dX12_works_255 : decode cX12_works 255 = .ok (.goto 152, 3) := by decide +kernel
theorem dX12_works_258 : decode cX12_works 258 = .ok (.lload 4, 2) := by decide +kernel
theorem dX12_works_260 : decode cX12_works 260 = .ok (.lload_n 2, 1) := by decide +kernel
theorem dX12_works_261 : decode cX12_works 261 = .ok (.lcmp, 1) := by decide +kernel
theorem dX12_works_262 : decode cX12_works 262 = .ok (.ifCond .le 7, 3) := by decide +kernel
theorem dX12_works_265 : decode cX12_works 265 = .ok (.iconst 1, 1) := by decide +kernel
theorem dX12_works_266 : decode cX12_works 266 = .ok (.goto 4, 3) := by decide +kernel
theorem dX12_works_269 : decode cX12_works 269 = .ok (.iconst 0, 1) := by decide +kernel
theorem dX12_works_270 : decode cX12_works 270 = .ok (.invokestatic 316, 3) := by decide +kernel
theorem dX12_works_273 : decode cX12_works 273 = .ok (.lstore 6, 2) := by decide +kernel
theorem dX12_works_275 : decode cX12_works 275 = .ok (.goto 132, 3) := by decide +kernel
theorem dX12_works_278 : decode cX12_works 278 = .ok (.lload 4, 2) := by decide +kernel
theorem dX12_works_280 : decode cX12_works 280 = .ok (.lload_n 2, 1) := by decide +kernel
theorem dX12_works_281 : decode cX12_works 281 = .ok (.lcmp, 1) := by decide +kernel
theorem dX12_works_282 : decode cX12_works 282 = .ok (.ifCond .ne 7, 3) := by decide +kernel
theorem dX12_works_285 : decode cX12_works 285 = .ok (.iconst 1, 1) := by decide +kernel
theorem dX12_works_286 : decode cX12_works 286 = .ok (.goto 4, 3) := by decide +kernel
theorem dX12_works_289 : decode cX12_works 289 = .ok (.iconst 0, 1) := by decide +kernel
theorem dX12_works_290 : decode cX12_works 290 = .ok (.invokestatic 316, 3) := by decide +kernel
theorem dX12_works_293 : decode cX12_works 293 = .ok (.lstore 6, 2) := by decide +kernel
theorem dX12_works_295 : decode cX12_works 295 = .ok (.goto 112, 3) := by decide +kernel
theorem dX12_works_298 : decode cX12_works 298 = .ok (.lload 4, 2) := by decide +kernel
theorem dX12_works_300 : decode cX12_works 300 = .ok (.lload_n 2, 1) := by decide +kernel
theorem dX12_works_301 : decode cX12_works 301 = .ok (.lcmp, 1) := by decide +kernel
theorem dX12_works_302 : decode cX12_works 302 = .ok (.ifCond .gt 7, 3) := by decide +kernel
theorem dX12_works_305 : decode cX12_works 305 = .ok (.iconst 1, 1) := by decide +kernel
theorem dX12_works_306 : decode cX12_works 306 = .ok (.goto 4, 3) := by decide +kernel
theorem dX12_works_309 : decode cX12_works 309 = .ok (.iconst 0, 1) := by decide +kernel
theorem dX12_works_310 : decode cX12_works 310 = .ok (.invokestatic 316, 3) := by decide +kernel
theorem dX12_works_313 : decode cX12_works 313 = .ok (.lstore 6, 2) := by decide +kernel
theorem dX12_works_315 : decode cX12_works 315 = .ok (.goto 92, 3) := by decide +kernel
theorem dX12_works_318 : decode cX12_works 318 = .ok (.lload 4, 2) := by decide +kernel
theorem dX12_works_320 : decode cX12_works 320 = .ok (.lload_n 2, 1) := by decide +kernel
theorem dX12_works_321 : decode cX12_works 321 = .ok (.lcmp, 1) := by decide +kernel
theorem dX12_works_322 : decode cX12_works 322 = .ok (.ifCond .lt 7, 3) := by decide +kernel
theorem dX12_works_325 : decode cX12_works 325 = .ok (.iconst 1, 1) := by decide +kernel
theorem dX12_works_326 : decode cX12_works 326 = .ok (.goto 4, 3) := by decide +kernel
theorem dX12_works_329 : decode cX12_works 329 = .ok (.iconst 0, 1) := by decide +kernel
theorem dX12_works_330 : decode cX12_works 330 = .ok (.invokestatic 316, 3) := by decide +kernel
theorem dX12_works_333 : decode cX12_works 333 = .ok (.lstore 6, 2) := by decide +kernel
theorem dX12_works_335 : decode cX12_works 335 = .ok (.goto 72, 3) := by decide +kernel
theorem dX12_works_338 : decode cX12_works 338 = .ok (.lload 4, 2) := by decide +kernel
theorem dX12_works_340 : decode cX12_works 340 = .ok (.lload_n 2, 1) := by decide +kernel
theorem dX12_works_341 : decode cX12_works 341 = .ok (.lcmp, 1) := by decide +kernel
theorem dX12_works_342 : decode cX12_works 342 = .ok (.ifCond .eq 7, 3) := by decide +kernel
theorem dX12_works_345 : decode cX12_works 345 = .ok (.iconst 1, 1) := by decide +kernel
theorem dX12_works_346 : decode cX12_works 346 = .ok (.goto 4, 3) := by decide +kernel
theorem dX12_works_349 : decode cX12_works 349 = .ok (.iconst 0, 1) := by decide +kernel
theorem dX12_works_350 : decode cX12_works 350 = .ok (.invokestatic 316, 3) := by decide +kernel
theorem dX12_works_353 : decode cX12_works 353 = .ok (.lstore 6, 2) := by decide +kernel
theorem dX12_works_355 : decode cX12_works 355 = .ok (.goto 52, 3) := by decide +kernel
theorem dX12_works_358 : decode cX12_works 358 = .ok (.lload 4, 2) := by decide +kernel
theorem dX12_works_360 : decode cX12_works 360 = .ok (.lconst 0, 1) := by decide +kernel
theorem dX12_works_361 : decode cX12_works 361 = .ok (.lcmp, 1) := by decide +kernel
theorem dX12_works_362 : decode cX12_works 362 = .ok (.ifCond .eq 13, 3) := by decide +kernel
theorem dX12_works_365 : decode cX12_works 365 = .ok (.lload_n 2, 1) := by decide +kernel
theorem dX12_works_366 : decode cX12_works 366 = .ok (.lconst 0, 1) := by decide +kernel
theorem dX12_works_367 : decode cX12_works 367 = .ok (.lcmp, 1) := by decide +kernel
theorem dX12_works_368 : decode cX12_works 368 = .ok (.ifCond .eq 7, 3) := by decide +kernel
theorem dX12_works_371 : decode cX12_works 371 = .ok (.iconst 1, 1) := by decide +kernel
theorem dX12_works_372 : decode cX12_works 372 = .ok (.goto 4, 3) := by decide +kernel
theorem dX12_works_375 : decode cX12_works 375 = .ok (.iconst 0, 1) := by decide +kernel
theorem dX12_works_376 : decode cX12_works 376 = .ok (.invokestatic 316, 3) := by decide +kernel
theorem dX12_works_379 : decode cX12_works 379 = .ok (.lstore 6, 2) := by decide +kernel
theorem dX12_works_381 : decode cX12_works 381 = .ok (.goto 26, 3) := by decide +kernel
theorem dX12_works_384 : decode cX12_works 384 = .ok (.lload 4, 2) := by decide +kernel
theorem dX12_works_386 : decode cX12_works 386 = .ok (.lconst 0, 1) := by decide +kernel
theorem dX12_works_387 : decode cX12_works 387 = .ok (.lcmp, 1) := by decide +kernel
theorem dX12_works_388 : decode cX12_works 388 = .ok (.ifCond .ne 9, 3) := by decide +kernel
theorem dX12_works_391 : decode cX12_works 391 = .ok (.lload_n 2, 1) := by decide +kernel
theorem dX12_works_392 : decode cX12_works 392 = .ok (.lconst 0, 1) := by decide +kernel
theorem dX12_works_393 : decode cX12_works 393 = .ok (.lcmp, 1) := by decide +kernel
theorem dX12_works_394 : decode cX12_works 394 = .ok (.ifCond .eq 7, 3) := by decide +kernel
theorem dX12_works_397 : decode cX12_works 397 = .ok (.iconst 1, 1) := by decide +kernel
theorem dX12_works_398 : decode cX12_works 398 = .ok (.goto 4, 3) := by decide +kernel
theorem dX12_works_401 : decode cX12_works 401 = .ok (.iconst 0, 1) := by decide +kernel
theorem dX12_works_402 : decode cX12_works 402 = .ok (.invokestatic 316, 3) := by decide +kernel
theorem dX12_works_405 : decode cX12_works 405 = .ok (.lstore 6, 2) := by decide +kernel
theorem dX12_works_407 : decode cX12_works 407 = .ok (.aload_n 0, 1) := by decide +kernel
theorem dX12_works_408 : decode cX12_works 408 = .ok (.getfield 60, 3) := by decide +kernel
theorem dX12_works_411 : decode cX12_works 411 = .ok (.aload_n 0, 1) := by decide +kernel
theorem dX12_works_412 : decode cX12_works 412 = .ok (.getfield 313, 3) := by decide +kernel
theorem dX12_works_415 : decode cX12_works 415 = .ok (.iconst 1, 1) := by decide +kernel
theorem dX12_works_416 : decode cX12_works 416 = .ok (.isub, 1) := by decide +kernel
theorem dX12_works_417 : decode cX12_works 417 = .ok (.lload 6, 2) := by decide +kernel
theorem dX12_works_419 : decode cX12_works 419 = .ok (.lastore, 1) := by decide +kernel
theorem dX12_works_420 : decode cX12_works 420 = .ok (.lload 6, 2) := by decide +kernel
theorem dX12_works_422 : decode cX12_works 422 = .ok (.ldc2_w 326, 3) := by decide +kernel
theorem dX12_works_425 : decode cX12_works 425 = .ok (.lcmp, 1) := by decide +kernel
theorem dX12_works_426 : decode cX12_works 426 = .ok (.ifCond .gt 16, 3) := by decide +kernel
theorem dX12_works_429 : decode cX12_works 429 = .ok (.lload 6, 2) := by decide +kernel
theorem dX12_works_431 : decode cX12_works 431 = .ok (.ldc2_w 328, 3) := by decide +kernel
theorem dX12_works_434 : decode cX12_works 434 = .ok (.lcmp, 1) := by decide +kernel
theorem dX12_works_435 : decode cX12_works 435 = .ok (.ifCond .lt 7, 3) := by decide +kernel
theorem dX12_works_438 : decode cX12_works 438 = .ok (.iconst 1, 1) := by decide +kernel
theorem dX12_works_439 : decode cX12_works 439 = .ok (.goto 4, 3) := by decide +kernel
theorem dX12_works_442 : decode cX12_works 442 = .ok (.iconst 0, 1) := by decide +kernel
theorem dX12_works_443 : decode cX12_works 443 = .ok (.ireturn, 1) := by decide +kernel
theorem dX12_goes_0 : decode cX12_goes 0 = .ok (.aload_n 0, 1) := by decide +kernel
theorem dX12_goes_1 : decode cX12_goes 1 = .ok (.iconst 0, 1) := by decide +kernel
theorem dX12_goes_2 : decode cX12_goes 2 = .ok (.putfield 313, 3) := by decide +kernel
theorem dX12_goes_5 : decode cX12_goes 5 = .ok (.aload_n 0, 1) := by decide +kernel
theorem dX12_goes_6 : decode cX12_goes 6 = .ok (.getfield 40, 3) := by decide +kernel
theorem dX12_goes_9 : decode cX12_goes 9 = .ok (.iload_n 1, 1) := by decide +kernel
theorem dX12_goes_10 : decode cX12_goes 10 = .ok (.iaload, 1) := by decide +kernel
theorem dX12_goes_11 : decode cX12_goes 11 = .ok (.istore_n 2, 1) := by decide +kernel
theorem dX12_goes_12 : decode cX12_goes 12 = .ok (.iload_n 2, 1) := by decide +kernel
theorem dX12_goes_13 : decode cX12_goes 13 = .ok (.aload_n 0, 1) := by decide +kernel
theorem dX12_goes_14 : decode cX12_goes 14 = .ok (.getfield 43, 3) := by decide +kernel
theorem dX12_goes_17 : decode cX12_goes 17 = .ok (.iload_n 1, 1) := by decide +kernel
theorem dX12_goes_18 : decode cX12_goes 18 = .ok (.iaload, 1) := by decide +kernel
theorem dX12_goes_19 : decode cX12_goes 19 = .ok (.if_icmp .ge 83, 3) := by decide +kernel
theorem dX12_goes_22 : decode cX12_goes 22 = .ok (.aload_n 0, 1) := by decide +kernel
theorem dX12_goes_23 : decode cX12_goes 23 = .ok (.getfield 46, 3) := by decide +kernel
theorem dX12_goes_26 : decode cX12_goes 26 = .ok (.iload_n 2, 1) := by decide +kernel
theorem dX12_goes_27 : decode cX12_goes 27 = .ok (.iaload, 1) := by decide +kernel
theorem dX12_goes_28 : decode cX12_goes 28 = .ok (.iconst 2, 1) := by decide +kernel
theorem dX12_goes_29 : decode cX12_goes 29 = .ok (.if_icmp .ne 18, 3) := by decide +kernel
theorem dX12_goes_32 : decode cX12_goes 32 = .ok (.aload_n 0, 1) := by decide +kernel
theorem dX12_goes_33 : decode cX12_goes 33 = .ok (.aload_n 0, 1) := by decide +kernel
theorem dX12_goes_34 : decode cX12_goes 34 = .ok (.getfield 49, 3) := by decide +kernel
theorem dX12_goes_37 : decode cX12_goes 37 = .ok (.iload_n 2, 1) := by decide +kernel
theorem dX12_goes_38 : decode cX12_goes 38 = .ok (.iaload, 1) := by decide +kernel
theorem dX12_goes_39 : decode cX12_goes 39 = .ok (.invokevirtual 330, 3) := by decide +kernel
theorem dX12_goes_42 : decode cX12_goes 42 = .ok (.ifCond .ne 54, 3) := by decide +kernel
theorem dX12_goes_45 : decode cX12_goes 45 = .ok (.iconst 0, 1) := by decide +kernel
theorem dX12_goes_46 : decode cX12_goes 46 = .ok (.ireturn, 1) := by decide +kernel
theorem dX12_goes_47 : decode cX12_goes 47 = .ok (.aload_n 0, 1) := by decide +kernel
theorem dX12_goes_48 : decode cX12_goes 48 = .ok (.getfield 60, 3) := by decide +kernel
theorem dX12_goes_51 : decode cX12_goes 51 = .ok (.aload_n 0, 1) := by decide +kernel
theorem dX12_goes_52 : decode cX12_goes 52 = .ok (.getfield 313, 3) := by decide +kernel
theorem dX12_goes_55 : decode cX12_goes 55 = .ok (.aload_n 0, 1) := by decide +kernel
theorem dX12_goes_56 : decode cX12_goes 56 = .ok (.getfield 46, 3) := by decide +kernel
theorem dX12_goes_59 : decode cX12_goes 59 = .ok (.iload_n 2, 1) := by decide +kernel
theorem dX12_goes_60 : decode cX12_goes 60 = .ok (.iaload, 1) := by decide +kernel
theorem dX12_goes_61 : decode cX12_goes 61 = .ok (.ifCond .ne 13, 3) := by decide +kernel
theorem dX12_goes_64 : decode cX12_goes 64 = .ok (.aload_n 0, 1) := by decide +kernel
theorem dX12_goes_65 : decode cX12_goes 65 = .ok (.getfield 49, 3) := by decide +kernel
theorem dX12_goes_68 : decode cX12_goes 68 = .ok (.iload_n 2, 1) := by decide +kernel
theorem dX12_goes_69 : decode cX12_goes 69 = .ok (.iaload, 1) := by decide +kernel
theorem dX12_goes_70 : decode cX12_goes 70 = .ok (.i2l, 1) := by decide +kernel
theorem dX12_goes_71 : decode cX12_goes 71 = .ok (.goto 14, 3) := by decide +kernel
theorem dX12_goes_74 : decode cX12_goes 74 = .ok (.aload_n 0, 1) := by decide +kernel
theorem dX12_goes_75 : decode cX12_goes 75 = .ok (.getfield 56, 3) := by decide +kernel
theorem dX12_goes_78 : decode cX12_goes 78 = .ok (.aload_n 0, 1) := by decide +kernel
theorem dX12_goes_79 : decode cX12_goes 79 = .ok (.getfield 49, 3) := by decide +kernel
theorem dX12_goes_82 : decode cX12_goes 82 = .ok (.iload_n 2, 1) := by decide +kernel
theorem dX12_goes_83 : decode cX12_goes 83 = .ok (.iaload, 1) := by decide +kernel
theorem dX12_goes_84 : decode cX12_goes 84 = .ok (.laload, 1) := by decide +kernel
theorem dX12_goes_85 : decode cX12_goes 85 = .ok (.lastore, 1) := by decide +kernel
theorem dX12_goes_86 : decode cX12_goes 86 = .ok (.aload_n 0, 1) := by decide +kernel
theorem dX12_goes_87 : decode cX12_goes 87 = .ok (.dup, 1) := by decide +kernel
theorem dX12_goes_88 : decode cX12_goes 88 = .ok (.getfield 313, 3) := by decide +kernel
theorem dX12_goes_91 : decode cX12_goes 91 = .ok (.iconst 1, 1) := by decide +kernel
theorem dX12_goes_92 : decode cX12_goes 92 = .ok (.iadd, 1) := by decide +kernel
theorem dX12_goes_93 : decode cX12_goes 93 = .ok (.putfield 313, 3) := by decide +kernel
theorem dX12_goes_96 : decode cX12_goes 96 = .ok (.iinc 2 1, 3) := by decide +kernel
theorem dX12_goes_99 : decode cX12_goes 99 = .ok (.goto (-87), 3) := by decide +kernel
theorem dX12_goes_102 : decode cX12_goes 102 = .ok (.iconst 1, 1) := by decide +kernel
theorem dX12_goes_103 : decode cX12_goes 103 = .ok (.ireturn, 1) := by decide +kernel
theorem dX12_hasLaw_0 : decode cX12_hasLaw 0 = .ok (.aload_n 0, 1) := by decide +kernel
theorem dX12_hasLaw_1 : decode cX12_hasLaw 1 = .ok (.getfield 43, 3) := by decide +kernel
theorem dX12_hasLaw_4 : decode cX12_hasLaw 4 = .ok (.iload_n 1, 1) := by decide +kernel
theorem dX12_hasLaw_5 : decode cX12_hasLaw 5 = .ok (.iaload, 1) := by decide +kernel
theorem dX12_hasLaw_6 : decode cX12_hasLaw 6 = .ok (.aload_n 0, 1) := by decide +kernel
theorem dX12_hasLaw_7 : decode cX12_hasLaw 7 = .ok (.getfield 40, 3) := by decide +kernel
theorem dX12_hasLaw_10 : decode cX12_hasLaw 10 = .ok (.iload_n 1, 1) := by decide +kernel
theorem dX12_hasLaw_11 : decode cX12_hasLaw 11 = .ok (.iaload, 1) := by decide +kernel
theorem dX12_hasLaw_12 : decode cX12_hasLaw 12 = .ok (.if_icmp .le 7, 3) := by decide +kernel
theorem dX12_hasLaw_15 : decode cX12_hasLaw 15 = .ok (.iconst 1, 1) := by decide +kernel
theorem dX12_hasLaw_16 : decode cX12_hasLaw 16 = .ok (.goto 4, 3) := by decide +kernel
theorem dX12_hasLaw_19 : decode cX12_hasLaw 19 = .ok (.iconst 0, 1) := by decide +kernel
theorem dX12_hasLaw_20 : decode cX12_hasLaw 20 = .ok (.ireturn, 1) := by decide +kernel
theorem dX12_begins_0 : decode cX12_begins 0 = .ok (.aload_n 0, 1) := by decide +kernel
theorem dX12_begins_1 : decode cX12_begins 1 = .ok (.getfield 63, 3) := by decide +kernel
theorem dX12_begins_4 : decode cX12_begins 4 = .ok (.iconst 0, 1) := by decide +kernel
theorem dX12_begins_5 : decode cX12_begins 5 = .ok (.iconst 0, 1) := by decide +kernel
theorem dX12_begins_6 : decode cX12_begins 6 = .ok (.iastore, 1) := by decide +kernel
theorem dX12_begins_7 : decode cX12_begins 7 = .ok (.aload_n 0, 1) := by decide +kernel
theorem dX12_begins_8 : decode cX12_begins 8 = .ok (.getfield 66, 3) := by decide +kernel
theorem dX12_begins_11 : decode cX12_begins 11 = .ok (.iconst 0, 1) := by decide +kernel
theorem dX12_begins_12 : decode cX12_begins 12 = .ok (.iconst 0, 1) := by decide +kernel
theorem dX12_begins_13 : decode cX12_begins 13 = .ok (.iastore, 1) := by decide +kernel
theorem dX12_begins_14 : decode cX12_begins 14 = .ok (.aload_n 0, 1) := by decide +kernel
theorem dX12_begins_15 : decode cX12_begins 15 = .ok (.getfield 69, 3) := by decide +kernel
theorem dX12_begins_18 : decode cX12_begins 18 = .ok (.iconst 0, 1) := by decide +kernel
theorem dX12_begins_19 : decode cX12_begins 19 = .ok (.iconst 0, 1) := by decide +kernel
theorem dX12_begins_20 : decode cX12_begins 20 = .ok (.iastore, 1) := by decide +kernel
theorem dX12_begins_21 : decode cX12_begins 21 = .ok (.aload_n 0, 1) := by decide +kernel
theorem dX12_begins_22 : decode cX12_begins 22 = .ok (.getfield 72, 3) := by decide +kernel
theorem dX12_begins_25 : decode cX12_begins 25 = .ok (.iconst 0, 1) := by decide +kernel
theorem dX12_begins_26 : decode cX12_begins 26 = .ok (.iconst 0, 1) := by decide +kernel
theorem dX12_begins_27 : decode cX12_begins 27 = .ok (.iastore, 1) := by decide +kernel
theorem dX12_begins_28 : decode cX12_begins 28 = .ok (.aload_n 0, 1) := by decide +kernel
theorem dX12_begins_29 : decode cX12_begins 29 = .ok (.getfield 75, 3) := by decide +kernel
theorem dX12_begins_32 : decode cX12_begins 32 = .ok (.iconst 0, 1) := by decide +kernel
theorem dX12_begins_33 : decode cX12_begins 33 = .ok (.aload_n 0, 1) := by decide +kernel
theorem dX12_begins_34 : decode cX12_begins 34 = .ok (.getfield 13, 3) := by decide +kernel
theorem dX12_begins_37 : decode cX12_begins 37 = .ok (.bipush 7, 2) := by decide +kernel
theorem dX12_begins_39 : decode cX12_begins 39 = .ok (.iaload, 1) := by decide +kernel
theorem dX12_begins_40 : decode cX12_begins 40 = .ok (.iastore, 1) := by decide +kernel
theorem dX12_begins_41 : decode cX12_begins 41 = .ok (.iconst 0, 1) := by decide +kernel
theorem dX12_begins_42 : decode cX12_begins 42 = .ok (.istore_n 1, 1) := by decide +kernel
theorem dX12_begins_43 : decode cX12_begins 43 = .ok (.iload_n 1, 1) := by decide +kernel
theorem dX12_begins_44 : decode cX12_begins 44 = .ok (.bipush 8, 2) := by decide +kernel
theorem dX12_begins_46 : decode cX12_begins 46 = .ok (.if_icmp .ge 44, 3) := by decide +kernel
theorem dX12_begins_49 : decode cX12_begins 49 = .ok (.aload_n 0, 1) := by decide +kernel
theorem dX12_begins_50 : decode cX12_begins 50 = .ok (.getfield 78, 3) := by decide +kernel
theorem dX12_begins_53 : decode cX12_begins 53 = .ok (.iload_n 1, 1) := by decide +kernel
theorem dX12_begins_54 : decode cX12_begins 54 = .ok (.iconst (-1), 1) := by decide +kernel
theorem dX12_begins_55 : decode cX12_begins 55 = .ok (.iastore, 1) := by decide +kernel
theorem dX12_begins_56 : decode cX12_begins 56 = .ok (.aload_n 0, 1) := by decide +kernel
theorem dX12_begins_57 : decode cX12_begins 57 = .ok (.getfield 81, 3) := by decide +kernel
theorem dX12_begins_60 : decode cX12_begins 60 = .ok (.iload_n 1, 1) := by decide +kernel
theorem dX12_begins_61 : decode cX12_begins 61 = .ok (.iconst 0, 1) := by decide +kernel
theorem dX12_begins_62 : decode cX12_begins 62 = .ok (.iastore, 1) := by decide +kernel
theorem dX12_begins_63 : decode cX12_begins 63 = .ok (.aload_n 0, 1) := by decide +kernel
theorem dX12_begins_64 : decode cX12_begins 64 = .ok (.getfield 84, 3) := by decide +kernel
theorem dX12_begins_67 : decode cX12_begins 67 = .ok (.iload_n 1, 1) := by decide +kernel
theorem dX12_begins_68 : decode cX12_begins 68 = .ok (.iconst 0, 1) := by decide +kernel
theorem dX12_begins_69 : decode cX12_begins 69 = .ok (.iastore, 1) := by decide +kernel
theorem dX12_begins_70 : decode cX12_begins 70 = .ok (.aload_n 0, 1) := by decide +kernel
theorem dX12_begins_71 : decode cX12_begins 71 = .ok (.getfield 87, 3) := by decide +kernel
theorem dX12_begins_74 : decode cX12_begins 74 = .ok (.iload_n 1, 1) := by decide +kernel
theorem dX12_begins_75 : decode cX12_begins 75 = .ok (.iconst 0, 1) := by decide +kernel
theorem dX12_begins_76 : decode cX12_begins 76 = .ok (.iastore, 1) := by decide +kernel
theorem dX12_begins_77 : decode cX12_begins 77 = .ok (.aload_n 0, 1) := by decide +kernel
theorem dX12_begins_78 : decode cX12_begins 78 = .ok (.getfield 90, 3) := by decide +kernel
theorem dX12_begins_81 : decode cX12_begins 81 = .ok (.iload_n 1, 1) := by decide +kernel
theorem dX12_begins_82 : decode cX12_begins 82 = .ok (.iconst 0, 1) := by decide +kernel
theorem dX12_begins_83 : decode cX12_begins 83 = .ok (.iastore, 1) := by decide +kernel
theorem dX12_begins_84 : decode cX12_begins 84 = .ok (.iinc 1 1, 3) := by decide +kernel
theorem dX12_begins_87 : decode cX12_begins 87 = .ok (.goto (-44), 3) := by decide +kernel
theorem dX12_begins_90 : decode cX12_begins 90 = .ok (.iconst 0, 1) := by decide +kernel
theorem dX12_begins_91 : decode cX12_begins 91 = .ok (.istore_n 1, 1) := by decide +kernel
theorem dX12_begins_92 : decode cX12_begins 92 = .ok (.iload_n 1, 1) := by decide +kernel
theorem dX12_begins_93 : decode cX12_begins 93 = .ok (.iconst 3, 1) := by decide +kernel
theorem dX12_begins_94 : decode cX12_begins 94 = .ok (.if_icmp .ge 70, 3) := by decide +kernel
theorem dX12_begins_97 : decode cX12_begins 97 = .ok (.aload_n 0, 1) := by decide +kernel
theorem dX12_begins_98 : decode cX12_begins 98 = .ok (.getfield 93, 3) := by decide +kernel
theorem dX12_begins_101 : decode cX12_begins 101 = .ok (.iload_n 1, 1) := by decide +kernel
theorem dX12_begins_102 : decode cX12_begins 102 = .ok (.iconst 0, 1) := by decide +kernel
theorem dX12_begins_103 : decode cX12_begins 103 = .ok (.iastore, 1) := by decide +kernel
theorem dX12_begins_104 : decode cX12_begins 104 = .ok (.aload_n 0, 1) := by decide +kernel
theorem dX12_begins_105 : decode cX12_begins 105 = .ok (.getfield 96, 3) := by decide +kernel
theorem dX12_begins_108 : decode cX12_begins 108 = .ok (.iload_n 1, 1) := by decide +kernel
theorem dX12_begins_109 : decode cX12_begins 109 = .ok (.iload_n 1, 1) := by decide +kernel
theorem dX12_begins_110 : decode cX12_begins 110 = .ok (.aload_n 0, 1) := by decide +kernel
theorem dX12_begins_111 : decode cX12_begins 111 = .ok (.getfield 13, 3) := by decide +kernel
theorem dX12_begins_114 : decode cX12_begins 114 = .ok (.iconst 2, 1) := by decide +kernel
theorem dX12_begins_115 : decode cX12_begins 115 = .ok (.iaload, 1) := by decide +kernel
theorem dX12_begins_116 : decode cX12_begins 116 = .ok (.if_icmp .ge 12, 3) := by decide +kernel
theorem dX12_begins_119 : decode cX12_begins 119 = .ok (.aload_n 0, 1) := by decide +kernel
theorem dX12_begins_120 : decode cX12_begins 120 = .ok (.getfield 37, 3) := by decide +kernel
theorem dX12_begins_123 : decode cX12_begins 123 = .ok (.iload_n 1, 1) := by decide +kernel
theorem dX12_begins_124 : decode cX12_begins 124 = .ok (.iaload, 1) := by decide +kernel
theorem dX12_begins_125 : decode cX12_begins 125 = .ok (.goto 4, 3) := by decide +kernel
theorem dX12_begins_128 : decode cX12_begins 128 = .ok (.iconst 0, 1) := by decide +kernel
theorem dX12_begins_129 : decode cX12_begins 129 = .ok (.iastore, 1) := by decide +kernel
theorem dX12_begins_130 : decode cX12_begins 130 = .ok (.aload_n 0, 1) := by decide +kernel
theorem dX12_begins_131 : decode cX12_begins 131 = .ok (.getfield 99, 3) := by decide +kernel
theorem dX12_begins_134 : decode cX12_begins 134 = .ok (.iload_n 1, 1) := by decide +kernel
theorem dX12_begins_135 : decode cX12_begins 135 = .ok (.iconst (-1), 1) := by decide +kernel
theorem dX12_begins_136 : decode cX12_begins 136 = .ok (.iastore, 1) := by decide +kernel
theorem dX12_begins_137 : decode cX12_begins 137 = .ok (.aload_n 0, 1) := by decide +kernel
theorem dX12_begins_138 : decode cX12_begins 138 = .ok (.getfield 102, 3) := by decide +kernel
theorem dX12_begins_141 : decode cX12_begins 141 = .ok (.iload_n 1, 1) := by decide +kernel
theorem dX12_begins_142 : decode cX12_begins 142 = .ok (.iconst (-1), 1) := by decide +kernel
theorem dX12_begins_143 : decode cX12_begins 143 = .ok (.iastore, 1) := by decide +kernel
theorem dX12_begins_144 : decode cX12_begins 144 = .ok (.aload_n 0, 1) := by decide +kernel
theorem dX12_begins_145 : decode cX12_begins 145 = .ok (.getfield 105, 3) := by decide +kernel
theorem dX12_begins_148 : decode cX12_begins 148 = .ok (.iload_n 1, 1) := by decide +kernel
theorem dX12_begins_149 : decode cX12_begins 149 = .ok (.iconst (-1), 1) := by decide +kernel
theorem dX12_begins_150 : decode cX12_begins 150 = .ok (.iastore, 1) := by decide +kernel
theorem dX12_begins_151 : decode cX12_begins 151 = .ok (.aload_n 0, 1) := by decide +kernel
theorem dX12_begins_152 : decode cX12_begins 152 = .ok (.getfield 108, 3) := by decide +kernel
theorem dX12_begins_155 : decode cX12_begins 155 = .ok (.iload_n 1, 1) := by decide +kernel
theorem dX12_begins_156 : decode cX12_begins 156 = .ok (.iconst (-1), 1) := by decide +kernel
theorem dX12_begins_157 : decode cX12_begins 157 = .ok (.iastore, 1) := by decide +kernel
theorem dX12_begins_158 : decode cX12_begins 158 = .ok (.iinc 1 1, 3) := by decide +kernel
theorem dX12_begins_161 : decode cX12_begins 161 = .ok (.goto (-69), 3) := by decide +kernel
theorem dX12_begins_164 : decode cX12_begins 164 = .ok (.return_, 1) := by decide +kernel
theorem dX12_copies_0 : decode cX12_copies 0 = .ok (.aload_n 0, 1) := by decide +kernel
theorem dX12_copies_1 : decode cX12_copies 1 = .ok (.getfield 63, 3) := by decide +kernel
theorem dX12_copies_4 : decode cX12_copies 4 = .ok (.iload_n 1, 1) := by decide +kernel
theorem dX12_copies_5 : decode cX12_copies 5 = .ok (.aload_n 0, 1) := by decide +kernel
theorem dX12_copies_6 : decode cX12_copies 6 = .ok (.getfield 63, 3) := by decide +kernel
theorem dX12_copies_9 : decode cX12_copies 9 = .ok (.iload_n 2, 1) := by decide +kernel
theorem dX12_copies_10 : decode cX12_copies 10 = .ok (.iaload, 1) := by decide +kernel
theorem dX12_copies_11 : decode cX12_copies 11 = .ok (.iastore, 1) := by decide +kernel
theorem dX12_copies_12 : decode cX12_copies 12 = .ok (.aload_n 0, 1) := by decide +kernel
theorem dX12_copies_13 : decode cX12_copies 13 = .ok (.getfield 66, 3) := by decide +kernel
theorem dX12_copies_16 : decode cX12_copies 16 = .ok (.iload_n 1, 1) := by decide +kernel
theorem dX12_copies_17 : decode cX12_copies 17 = .ok (.aload_n 0, 1) := by decide +kernel
theorem dX12_copies_18 : decode cX12_copies 18 = .ok (.getfield 66, 3) := by decide +kernel
theorem dX12_copies_21 : decode cX12_copies 21 = .ok (.iload_n 2, 1) := by decide +kernel
theorem dX12_copies_22 : decode cX12_copies 22 = .ok (.iaload, 1) := by decide +kernel
theorem dX12_copies_23 : decode cX12_copies 23 = .ok (.iastore, 1) := by decide +kernel
theorem dX12_copies_24 : decode cX12_copies 24 = .ok (.aload_n 0, 1) := by decide +kernel
theorem dX12_copies_25 : decode cX12_copies 25 = .ok (.getfield 69, 3) := by decide +kernel
theorem dX12_copies_28 : decode cX12_copies 28 = .ok (.iload_n 1, 1) := by decide +kernel
theorem dX12_copies_29 : decode cX12_copies 29 = .ok (.aload_n 0, 1) := by decide +kernel
theorem dX12_copies_30 : decode cX12_copies 30 = .ok (.getfield 69, 3) := by decide +kernel
theorem dX12_copies_33 : decode cX12_copies 33 = .ok (.iload_n 2, 1) := by decide +kernel
theorem dX12_copies_34 : decode cX12_copies 34 = .ok (.iaload, 1) := by decide +kernel
theorem dX12_copies_35 : decode cX12_copies 35 = .ok (.iastore, 1) := by decide +kernel
theorem dX12_copies_36 : decode cX12_copies 36 = .ok (.aload_n 0, 1) := by decide +kernel
theorem dX12_copies_37 : decode cX12_copies 37 = .ok (.getfield 72, 3) := by decide +kernel
theorem dX12_copies_40 : decode cX12_copies 40 = .ok (.iload_n 1, 1) := by decide +kernel
theorem dX12_copies_41 : decode cX12_copies 41 = .ok (.aload_n 0, 1) := by decide +kernel
theorem dX12_copies_42 : decode cX12_copies 42 = .ok (.getfield 72, 3) := by decide +kernel
theorem dX12_copies_45 : decode cX12_copies 45 = .ok (.iload_n 2, 1) := by decide +kernel
theorem dX12_copies_46 : decode cX12_copies 46 = .ok (.iaload, 1) := by decide +kernel
theorem dX12_copies_47 : decode cX12_copies 47 = .ok (.iastore, 1) := by decide +kernel
theorem dX12_copies_48 : decode cX12_copies 48 = .ok (.aload_n 0, 1) := by decide +kernel
theorem dX12_copies_49 : decode cX12_copies 49 = .ok (.getfield 75, 3) := by decide +kernel
theorem dX12_copies_52 : decode cX12_copies 52 = .ok (.iload_n 1, 1) := by decide +kernel
theorem dX12_copies_53 : decode cX12_copies 53 = .ok (.aload_n 0, 1) := by decide +kernel
theorem dX12_copies_54 : decode cX12_copies 54 = .ok (.getfield 75, 3) := by decide +kernel
theorem dX12_copies_57 : decode cX12_copies 57 = .ok (.iload_n 2, 1) := by decide +kernel
theorem dX12_copies_58 : decode cX12_copies 58 = .ok (.iaload, 1) := by decide +kernel
theorem dX12_copies_59 : decode cX12_copies 59 = .ok (.iastore, 1) := by decide +kernel
theorem dX12_copies_60 : decode cX12_copies 60 = .ok (.iconst 0, 1) := by decide +kernel
theorem dX12_copies_61 : decode cX12_copies 61 = .ok (.istore_n 3, 1) := by decide +kernel
theorem dX12_copies_62 : decode cX12_copies 62 = .ok (.iload_n 3, 1) := by decide +kernel
theorem dX12_copies_63 : decode cX12_copies 63 = .ok (.bipush 8, 2) := by decide +kernel
theorem dX12_copies_65 : decode cX12_copies 65 = .ok (.if_icmp .ge 95, 3) := by decide +kernel
theorem dX12_copies_68 : decode cX12_copies 68 = .ok (.bipush 8, 2) := by decide +kernel
theorem dX12_copies_70 : decode cX12_copies 70 = .ok (.iload_n 1, 1) := by decide +kernel
theorem dX12_copies_71 : decode cX12_copies 71 = .ok (.imul, 1) := by decide +kernel
theorem dX12_copies_72 : decode cX12_copies 72 = .ok (.iload_n 3, 1) := by decide +kernel
theorem dX12_copies_73 : decode cX12_copies 73 = .ok (.iadd, 1) := by decide +kernel
theorem dX12_copies_74 : decode cX12_copies 74 = .ok (.istore 4, 2) := by decide +kernel
theorem dX12_copies_76 : decode cX12_copies 76 = .ok (.bipush 8, 2) := by decide +kernel
theorem dX12_copies_78 : decode cX12_copies 78 = .ok (.iload_n 2, 1) := by decide +kernel
theorem dX12_copies_79 : decode cX12_copies 79 = .ok (.imul, 1) := by decide +kernel
theorem dX12_copies_80 : decode cX12_copies 80 = .ok (.iload_n 3, 1) := by decide +kernel
theorem dX12_copies_81 : decode cX12_copies 81 = .ok (.iadd, 1) := by decide +kernel
theorem dX12_copies_82 : decode cX12_copies 82 = .ok (.istore 5, 2) := by decide +kernel
theorem dX12_copies_84 : decode cX12_copies 84 = .ok (.aload_n 0, 1) := by decide +kernel
theorem dX12_copies_85 : decode cX12_copies 85 = .ok (.getfield 78, 3) := by decide +kernel
theorem dX12_copies_88 : decode cX12_copies 88 = .ok (.iload 4, 2) := by decide +kernel
theorem dX12_copies_90 : decode cX12_copies 90 = .ok (.aload_n 0, 1) := by decide +kernel
theorem dX12_copies_91 : decode cX12_copies 91 = .ok (.getfield 78, 3) := by decide +kernel
theorem dX12_copies_94 : decode cX12_copies 94 = .ok (.iload 5, 2) := by decide +kernel
theorem dX12_copies_96 : decode cX12_copies 96 = .ok (.iaload, 1) := by decide +kernel
theorem dX12_copies_97 : decode cX12_copies 97 = .ok (.iastore, 1) := by decide +kernel
theorem dX12_copies_98 : decode cX12_copies 98 = .ok (.aload_n 0, 1) := by decide +kernel
theorem dX12_copies_99 : decode cX12_copies 99 = .ok (.getfield 81, 3) := by decide +kernel
theorem dX12_copies_102 : decode cX12_copies 102 = .ok (.iload 4, 2) := by decide +kernel
theorem dX12_copies_104 : decode cX12_copies 104 = .ok (.aload_n 0, 1) := by decide +kernel
theorem dX12_copies_105 : decode cX12_copies 105 = .ok (.getfield 81, 3) := by decide +kernel
theorem dX12_copies_108 : decode cX12_copies 108 = .ok (.iload 5, 2) := by decide +kernel
theorem dX12_copies_110 : decode cX12_copies 110 = .ok (.iaload, 1) := by decide +kernel
theorem dX12_copies_111 : decode cX12_copies 111 = .ok (.iastore, 1) := by decide +kernel
theorem dX12_copies_112 : decode cX12_copies 112 = .ok (.aload_n 0, 1) := by decide +kernel
theorem dX12_copies_113 : decode cX12_copies 113 = .ok (.getfield 84, 3) := by decide +kernel
theorem dX12_copies_116 : decode cX12_copies 116 = .ok (.iload 4, 2) := by decide +kernel
theorem dX12_copies_118 : decode cX12_copies 118 = .ok (.aload_n 0, 1) := by decide +kernel
theorem dX12_copies_119 : decode cX12_copies 119 = .ok (.getfield 84, 3) := by decide +kernel
theorem dX12_copies_122 : decode cX12_copies 122 = .ok (.iload 5, 2) := by decide +kernel
theorem dX12_copies_124 : decode cX12_copies 124 = .ok (.iaload, 1) := by decide +kernel
theorem dX12_copies_125 : decode cX12_copies 125 = .ok (.iastore, 1) := by decide +kernel
theorem dX12_copies_126 : decode cX12_copies 126 = .ok (.aload_n 0, 1) := by decide +kernel
theorem dX12_copies_127 : decode cX12_copies 127 = .ok (.getfield 87, 3) := by decide +kernel
theorem dX12_copies_130 : decode cX12_copies 130 = .ok (.iload 4, 2) := by decide +kernel
theorem dX12_copies_132 : decode cX12_copies 132 = .ok (.aload_n 0, 1) := by decide +kernel
theorem dX12_copies_133 : decode cX12_copies 133 = .ok (.getfield 87, 3) := by decide +kernel
theorem dX12_copies_136 : decode cX12_copies 136 = .ok (.iload 5, 2) := by decide +kernel
theorem dX12_copies_138 : decode cX12_copies 138 = .ok (.iaload, 1) := by decide +kernel
theorem dX12_copies_139 : decode cX12_copies 139 = .ok (.iastore, 1) := by decide +kernel
theorem dX12_copies_140 : decode cX12_copies 140 = .ok (.aload_n 0, 1) := by decide +kernel
theorem dX12_copies_141 : decode cX12_copies 141 = .ok (.getfield 90, 3) := by decide +kernel
theorem dX12_copies_144 : decode cX12_copies 144 = .ok (.iload 4, 2) := by decide +kernel
theorem dX12_copies_146 : decode cX12_copies 146 = .ok (.aload_n 0, 1) := by decide +kernel
theorem dX12_copies_147 : decode cX12_copies 147 = .ok (.getfield 90, 3) := by decide +kernel
theorem dX12_copies_150 : decode cX12_copies 150 = .ok (.iload 5, 2) := by decide +kernel
theorem dX12_copies_152 : decode cX12_copies 152 = .ok (.iaload, 1) := by decide +kernel
theorem dX12_copies_153 : decode cX12_copies 153 = .ok (.iastore, 1) := by decide +kernel
theorem dX12_copies_154 : decode cX12_copies 154 = .ok (.iinc 3 1, 3) := by decide +kernel
theorem dX12_copies_157 : decode cX12_copies 157 = .ok (.goto (-95), 3) := by decide +kernel
theorem dX12_copies_160 : decode cX12_copies 160 = .ok (.iconst 0, 1) := by decide +kernel
theorem dX12_copies_161 : decode cX12_copies 161 = .ok (.istore_n 3, 1) := by decide +kernel
theorem dX12_copies_162 : decode cX12_copies 162 = .ok (.iload_n 3, 1) := by decide +kernel
theorem dX12_copies_163 : decode cX12_copies 163 = .ok (.iconst 3, 1) := by decide +kernel
theorem dX12_copies_164 : decode cX12_copies 164 = .ok (.if_icmp .ge 107, 3) := by decide +kernel
theorem dX12_copies_167 : decode cX12_copies 167 = .ok (.iconst 3, 1) := by decide +kernel
theorem dX12_copies_168 : decode cX12_copies 168 = .ok (.iload_n 1, 1) := by decide +kernel
theorem dX12_copies_169 : decode cX12_copies 169 = .ok (.imul, 1) := by decide +kernel
theorem dX12_copies_170 : decode cX12_copies 170 = .ok (.iload_n 3, 1) := by decide +kernel
theorem dX12_copies_171 : decode cX12_copies 171 = .ok (.iadd, 1) := by decide +kernel
theorem dX12_copies_172 : decode cX12_copies 172 = .ok (.istore 4, 2) := by decide +kernel
theorem dX12_copies_174 : decode cX12_copies 174 = .ok (.iconst 3, 1) := by decide +kernel
theorem dX12_copies_175 : decode cX12_copies 175 = .ok (.iload_n 2, 1) := by decide +kernel
theorem dX12_copies_176 : decode cX12_copies 176 = .ok (.imul, 1) := by decide +kernel
theorem dX12_copies_177 : decode cX12_copies 177 = .ok (.iload_n 3, 1) := by decide +kernel
theorem dX12_copies_178 : decode cX12_copies 178 = .ok (.iadd, 1) := by decide +kernel
theorem dX12_copies_179 : decode cX12_copies 179 = .ok (.istore 5, 2) := by decide +kernel
theorem dX12_copies_181 : decode cX12_copies 181 = .ok (.aload_n 0, 1) := by decide +kernel
theorem dX12_copies_182 : decode cX12_copies 182 = .ok (.getfield 93, 3) := by decide +kernel
theorem dX12_copies_185 : decode cX12_copies 185 = .ok (.iload 4, 2) := by decide +kernel
theorem dX12_copies_187 : decode cX12_copies 187 = .ok (.aload_n 0, 1) := by decide +kernel
theorem dX12_copies_188 : decode cX12_copies 188 = .ok (.getfield 93, 3) := by decide +kernel
theorem dX12_copies_191 : decode cX12_copies 191 = .ok (.iload 5, 2) := by decide +kernel
theorem dX12_copies_193 : decode cX12_copies 193 = .ok (.iaload, 1) := by decide +kernel
theorem dX12_copies_194 : decode cX12_copies 194 = .ok (.iastore, 1) := by decide +kernel
theorem dX12_copies_195 : decode cX12_copies 195 = .ok (.aload_n 0, 1) := by decide +kernel
theorem dX12_copies_196 : decode cX12_copies 196 = .ok (.getfield 96, 3) := by decide +kernel
theorem dX12_copies_199 : decode cX12_copies 199 = .ok (.iload 4, 2) := by decide +kernel
theorem dX12_copies_201 : decode cX12_copies 201 = .ok (.aload_n 0, 1) := by decide +kernel
theorem dX12_copies_202 : decode cX12_copies 202 = .ok (.getfield 96, 3) := by decide +kernel
theorem dX12_copies_205 : decode cX12_copies 205 = .ok (.iload 5, 2) := by decide +kernel
theorem dX12_copies_207 : decode cX12_copies 207 = .ok (.iaload, 1) := by decide +kernel
theorem dX12_copies_208 : decode cX12_copies 208 = .ok (.iastore, 1) := by decide +kernel
theorem dX12_copies_209 : decode cX12_copies 209 = .ok (.aload_n 0, 1) := by decide +kernel
theorem dX12_copies_210 : decode cX12_copies 210 = .ok (.getfield 99, 3) := by decide +kernel
theorem dX12_copies_213 : decode cX12_copies 213 = .ok (.iload 4, 2) := by decide +kernel
theorem dX12_copies_215 : decode cX12_copies 215 = .ok (.aload_n 0, 1) := by decide +kernel
theorem dX12_copies_216 : decode cX12_copies 216 = .ok (.getfield 99, 3) := by decide +kernel
theorem dX12_copies_219 : decode cX12_copies 219 = .ok (.iload 5, 2) := by decide +kernel
theorem dX12_copies_221 : decode cX12_copies 221 = .ok (.iaload, 1) := by decide +kernel
theorem dX12_copies_222 : decode cX12_copies 222 = .ok (.iastore, 1) := by decide +kernel
theorem dX12_copies_223 : decode cX12_copies 223 = .ok (.aload_n 0, 1) := by decide +kernel
theorem dX12_copies_224 : decode cX12_copies 224 = .ok (.getfield 102, 3) := by decide +kernel
theorem dX12_copies_227 : decode cX12_copies 227 = .ok (.iload 4, 2) := by decide +kernel
theorem dX12_copies_229 : decode cX12_copies 229 = .ok (.aload_n 0, 1) := by decide +kernel
theorem dX12_copies_230 : decode cX12_copies 230 = .ok (.getfield 102, 3) := by decide +kernel
theorem dX12_copies_233 : decode cX12_copies 233 = .ok (.iload 5, 2) := by decide +kernel
theorem dX12_copies_235 : decode cX12_copies 235 = .ok (.iaload, 1) := by decide +kernel
theorem dX12_copies_236 : decode cX12_copies 236 = .ok (.iastore, 1) := by decide +kernel
theorem dX12_copies_237 : decode cX12_copies 237 = .ok (.aload_n 0, 1) := by decide +kernel
theorem dX12_copies_238 : decode cX12_copies 238 = .ok (.getfield 105, 3) := by decide +kernel
theorem dX12_copies_241 : decode cX12_copies 241 = .ok (.iload 4, 2) := by decide +kernel
theorem dX12_copies_243 : decode cX12_copies 243 = .ok (.aload_n 0, 1) := by decide +kernel
theorem dX12_copies_244 : decode cX12_copies 244 = .ok (.getfield 105, 3) := by decide +kernel
theorem dX12_copies_247 : decode cX12_copies 247 = .ok (.iload 5, 2) := by decide +kernel
theorem dX12_copies_249 : decode cX12_copies 249 = .ok (.iaload, 1) := by decide +kernel
theorem dX12_copies_250 : decode cX12_copies 250 = .ok (.iastore, 1) := by decide +kernel
theorem dX12_copies_251 : decode cX12_copies 251 = .ok (.aload_n 0, 1) := by decide +kernel
theorem dX12_copies_252 : decode cX12_copies 252 = .ok (.getfield 108, 3) := by decide +kernel
theorem dX12_copies_255 : decode cX12_copies 255 = .ok (.iload 4, 2) := by decide +kernel
theorem dX12_copies_257 : decode cX12_copies 257 = .ok (.aload_n 0, 1) := by decide +kernel
theorem dX12_copies_258 : decode cX12_copies 258 = .ok (.getfield 108, 3) := by decide +kernel
theorem dX12_copies_261 : decode cX12_copies 261 = .ok (.iload 5, 2) := by decide +kernel
theorem dX12_copies_263 : decode cX12_copies 263 = .ok (.iaload, 1) := by decide +kernel
theorem dX12_copies_264 : decode cX12_copies 264 = .ok (.iastore, 1) := by decide +kernel
theorem dX12_copies_265 : decode cX12_copies 265 = .ok (.iinc 3 1, 3) := by decide +kernel
theorem dX12_copies_268 : decode cX12_copies 268 = .ok (.goto (-106), 3) := by decide +kernel
theorem dX12_copies_271 : decode cX12_copies 271 = .ok (.return_, 1) := by decide +kernel
theorem dX12_isParty_0 : decode cX12_isParty 0 = .ok (.iload_n 1, 1) := by decide +kernel
theorem dX12_isParty_1 : decode cX12_isParty 1 = .ok (.ifCond .lt 17, 3) := by decide +kernel
theorem dX12_isParty_4 : decode cX12_isParty 4 = .ok (.iload_n 1, 1) := by decide +kernel
theorem dX12_isParty_5 : decode cX12_isParty 5 = .ok (.aload_n 0, 1) := by decide +kernel
theorem dX12_isParty_6 : decode cX12_isParty 6 = .ok (.getfield 13, 3) := by decide +kernel
theorem dX12_isParty_9 : decode cX12_isParty 9 = .ok (.iconst 0, 1) := by decide +kernel
theorem dX12_isParty_10 : decode cX12_isParty 10 = .ok (.iaload, 1) := by decide +kernel
theorem dX12_isParty_11 : decode cX12_isParty 11 = .ok (.if_icmp .ge 7, 3) := by decide +kernel
theorem dX12_isParty_14 : decode cX12_isParty 14 = .ok (.iconst 1, 1) := by decide +kernel
theorem dX12_isParty_15 : decode cX12_isParty 15 = .ok (.goto 4, 3) := by decide +kernel
theorem dX12_isParty_18 : decode cX12_isParty 18 = .ok (.iconst 0, 1) := by decide +kernel
theorem dX12_isParty_19 : decode cX12_isParty 19 = .ok (.ireturn, 1) := by decide +kernel
theorem dX12_isSitting_0 : decode cX12_isSitting 0 = .ok (.iload_n 1, 1) := by decide +kernel
theorem dX12_isSitting_1 : decode cX12_isSitting 1 = .ok (.ifCond .lt 17, 3) := by decide +kernel
theorem dX12_isSitting_4 : decode cX12_isSitting 4 = .ok (.iload_n 1, 1) := by decide +kernel
theorem dX12_isSitting_5 : decode cX12_isSitting 5 = .ok (.aload_n 0, 1) := by decide +kernel
theorem dX12_isSitting_6 : decode cX12_isSitting 6 = .ok (.getfield 13, 3) := by decide +kernel
theorem dX12_isSitting_9 : decode cX12_isSitting 9 = .ok (.iconst 2, 1) := by decide +kernel
theorem dX12_isSitting_10 : decode cX12_isSitting 10 = .ok (.iaload, 1) := by decide +kernel
theorem dX12_isSitting_11 : decode cX12_isSitting 11 = .ok (.if_icmp .ge 7, 3) := by decide +kernel
theorem dX12_isSitting_14 : decode cX12_isSitting 14 = .ok (.iconst 1, 1) := by decide +kernel
theorem dX12_isSitting_15 : decode cX12_isSitting 15 = .ok (.goto 4, 3) := by decide +kernel
theorem dX12_isSitting_18 : decode cX12_isSitting 18 = .ok (.iconst 0, 1) := by decide +kernel
theorem dX12_isSitting_19 : decode cX12_isSitting 19 = .ok (.ireturn, 1) := by decide +kernel
theorem dX12_coffeeIn_0 : decode cX12_coffeeIn 0 = .ok (.iload_n 1, 1) := by decide +kernel
theorem dX12_coffeeIn_1 : decode cX12_coffeeIn 1 = .ok (.aload_n 0, 1) := by decide +kernel
theorem dX12_coffeeIn_2 : decode cX12_coffeeIn 2 = .ok (.getfield 114, 3) := by decide +kernel
theorem dX12_coffeeIn_5 : decode cX12_coffeeIn 5 = .ok (.if_icmp .ne 20, 3) := by decide +kernel
theorem dX12_coffeeIn_8 : decode cX12_coffeeIn 8 = .ok (.bipush 99, 2) := by decide +kernel
theorem dX12_coffeeIn_10 : decode cX12_coffeeIn 10 = .ok (.aload_n 0, 1) := by decide +kernel
theorem dX12_coffeeIn_11 : decode cX12_coffeeIn 11 = .ok (.getfield 28, 3) := by decide +kernel
theorem dX12_coffeeIn_14 : decode cX12_coffeeIn 14 = .ok (.iload_n 1, 1) := by decide +kernel
theorem dX12_coffeeIn_15 : decode cX12_coffeeIn 15 = .ok (.iaload, 1) := by decide +kernel
theorem dX12_coffeeIn_16 : decode cX12_coffeeIn 16 = .ok (.bipush 20, 2) := by decide +kernel
theorem dX12_coffeeIn_18 : decode cX12_coffeeIn 18 = .ok (.iadd, 1) := by decide +kernel
theorem dX12_coffeeIn_19 : decode cX12_coffeeIn 19 = .ok (.invokestatic 333, 3) := by decide +kernel
theorem dX12_coffeeIn_22 : decode cX12_coffeeIn 22 = .ok (.goto 9, 3) := by decide +kernel
theorem dX12_coffeeIn_25 : decode cX12_coffeeIn 25 = .ok (.aload_n 0, 1) := by decide +kernel
theorem dX12_coffeeIn_26 : decode cX12_coffeeIn 26 = .ok (.getfield 28, 3) := by decide +kernel
theorem dX12_coffeeIn_29 : decode cX12_coffeeIn 29 = .ok (.iload_n 1, 1) := by decide +kernel
theorem dX12_coffeeIn_30 : decode cX12_coffeeIn 30 = .ok (.iaload, 1) := by decide +kernel
theorem dX12_coffeeIn_31 : decode cX12_coffeeIn 31 = .ok (.ireturn, 1) := by decide +kernel
theorem dX12_calls_0 : decode cX12_calls 0 = .ok (.aload_n 0, 1) := by decide +kernel
theorem dX12_calls_1 : decode cX12_calls 1 = .ok (.getfield 56, 3) := by decide +kernel
theorem dX12_calls_4 : decode cX12_calls 4 = .ok (.iconst 0, 1) := by decide +kernel
theorem dX12_calls_5 : decode cX12_calls 5 = .ok (.aload_n 0, 1) := by decide +kernel
theorem dX12_calls_6 : decode cX12_calls 6 = .ok (.getfield 19, 3) := by decide +kernel
theorem dX12_calls_9 : decode cX12_calls 9 = .ok (.iload_n 2, 1) := by decide +kernel
theorem dX12_calls_10 : decode cX12_calls 10 = .ok (.iaload, 1) := by decide +kernel
theorem dX12_calls_11 : decode cX12_calls 11 = .ok (.i2l, 1) := by decide +kernel
theorem dX12_calls_12 : decode cX12_calls 12 = .ok (.lastore, 1) := by decide +kernel
theorem dX12_calls_13 : decode cX12_calls 13 = .ok (.aload_n 0, 1) := by decide +kernel
theorem dX12_calls_14 : decode cX12_calls 14 = .ok (.getfield 56, 3) := by decide +kernel
theorem dX12_calls_17 : decode cX12_calls 17 = .ok (.iconst 1, 1) := by decide +kernel
theorem dX12_calls_18 : decode cX12_calls 18 = .ok (.aload_n 0, 1) := by decide +kernel
theorem dX12_calls_19 : decode cX12_calls 19 = .ok (.getfield 22, 3) := by decide +kernel
theorem dX12_calls_22 : decode cX12_calls 22 = .ok (.iconst 3, 1) := by decide +kernel
theorem dX12_calls_23 : decode cX12_calls 23 = .ok (.iload_n 2, 1) := by decide +kernel
theorem dX12_calls_24 : decode cX12_calls 24 = .ok (.imul, 1) := by decide +kernel
theorem dX12_calls_25 : decode cX12_calls 25 = .ok (.iload_n 3, 1) := by decide +kernel
theorem dX12_calls_26 : decode cX12_calls 26 = .ok (.iadd, 1) := by decide +kernel
theorem dX12_calls_27 : decode cX12_calls 27 = .ok (.iaload, 1) := by decide +kernel
theorem dX12_calls_28 : decode cX12_calls 28 = .ok (.i2l, 1) := by decide +kernel
theorem dX12_calls_29 : decode cX12_calls 29 = .ok (.lastore, 1) := by decide +kernel
theorem dX12_calls_30 : decode cX12_calls 30 = .ok (.aload_n 0, 1) := by decide +kernel
theorem dX12_calls_31 : decode cX12_calls 31 = .ok (.getfield 56, 3) := by decide +kernel
theorem dX12_calls_34 : decode cX12_calls 34 = .ok (.iconst 2, 1) := by decide +kernel
theorem dX12_calls_35 : decode cX12_calls 35 = .ok (.iload 4, 2) := by decide +kernel
theorem dX12_calls_37 : decode cX12_calls 37 = .ok (.i2l, 1) := by decide +kernel
theorem dX12_calls_38 : decode cX12_calls 38 = .ok (.lastore, 1) := by decide +kernel
theorem dX12_calls_39 : decode cX12_calls 39 = .ok (.aload_n 0, 1) := by decide +kernel
theorem dX12_calls_40 : decode cX12_calls 40 = .ok (.getfield 56, 3) := by decide +kernel
theorem dX12_calls_43 : decode cX12_calls 43 = .ok (.iconst 3, 1) := by decide +kernel
theorem dX12_calls_44 : decode cX12_calls 44 = .ok (.aload_n 0, 1) := by decide +kernel
theorem dX12_calls_45 : decode cX12_calls 45 = .ok (.getfield 96, 3) := by decide +kernel
theorem dX12_calls_48 : decode cX12_calls 48 = .ok (.iconst 3, 1) := by decide +kernel
theorem dX12_calls_49 : decode cX12_calls 49 = .ok (.iload_n 1, 1) := by decide +kernel
theorem dX12_calls_50 : decode cX12_calls 50 = .ok (.imul, 1) := by decide +kernel
theorem dX12_calls_51 : decode cX12_calls 51 = .ok (.iload_n 3, 1) := by decide +kernel
theorem dX12_calls_52 : decode cX12_calls 52 = .ok (.iadd, 1) := by decide +kernel
theorem dX12_calls_53 : decode cX12_calls 53 = .ok (.iaload, 1) := by decide +kernel
theorem dX12_calls_54 : decode cX12_calls 54 = .ok (.i2l, 1) := by decide +kernel
theorem dX12_calls_55 : decode cX12_calls 55 = .ok (.lastore, 1) := by decide +kernel
theorem dX12_calls_56 : decode cX12_calls 56 = .ok (.aload_n 0, 1) := by decide +kernel
theorem dX12_calls_57 : decode cX12_calls 57 = .ok (.getfield 56, 3) := by decide +kernel
theorem dX12_calls_60 : decode cX12_calls 60 = .ok (.iconst 4, 1) := by decide +kernel
theorem dX12_calls_61 : decode cX12_calls 61 = .ok (.aload_n 0, 1) := by decide +kernel
theorem dX12_calls_62 : decode cX12_calls 62 = .ok (.iload_n 2, 1) := by decide +kernel
theorem dX12_calls_63 : decode cX12_calls 63 = .ok (.invokevirtual 336, 3) := by decide +kernel
theorem dX12_calls_66 : decode cX12_calls 66 = .ok (.i2l, 1) := by decide +kernel
theorem dX12_calls_67 : decode cX12_calls 67 = .ok (.lastore, 1) := by decide +kernel
theorem dX12_calls_68 : decode cX12_calls 68 = .ok (.aload_n 0, 1) := by decide +kernel
theorem dX12_calls_69 : decode cX12_calls 69 = .ok (.getfield 56, 3) := by decide +kernel
theorem dX12_calls_72 : decode cX12_calls 72 = .ok (.iconst 5, 1) := by decide +kernel
theorem dX12_calls_73 : decode cX12_calls 73 = .ok (.aload_n 0, 1) := by decide +kernel
theorem dX12_calls_74 : decode cX12_calls 74 = .ok (.getfield 31, 3) := by decide +kernel
theorem dX12_calls_77 : decode cX12_calls 77 = .ok (.iload_n 2, 1) := by decide +kernel
theorem dX12_calls_78 : decode cX12_calls 78 = .ok (.iaload, 1) := by decide +kernel
theorem dX12_calls_79 : decode cX12_calls 79 = .ok (.i2l, 1) := by decide +kernel
theorem dX12_calls_80 : decode cX12_calls 80 = .ok (.lastore, 1) := by decide +kernel
theorem dX12_calls_81 : decode cX12_calls 81 = .ok (.aload_n 0, 1) := by decide +kernel
theorem dX12_calls_82 : decode cX12_calls 82 = .ok (.getfield 56, 3) := by decide +kernel
theorem dX12_calls_85 : decode cX12_calls 85 = .ok (.bipush 6, 2) := by decide +kernel
theorem dX12_calls_87 : decode cX12_calls 87 = .ok (.aload_n 0, 1) := by decide +kernel
theorem dX12_calls_88 : decode cX12_calls 88 = .ok (.getfield 63, 3) := by decide +kernel
theorem dX12_calls_91 : decode cX12_calls 91 = .ok (.iload_n 1, 1) := by decide +kernel
theorem dX12_calls_92 : decode cX12_calls 92 = .ok (.iaload, 1) := by decide +kernel
theorem dX12_calls_93 : decode cX12_calls 93 = .ok (.i2l, 1) := by decide +kernel
theorem dX12_calls_94 : decode cX12_calls 94 = .ok (.lastore, 1) := by decide +kernel
theorem dX12_calls_95 : decode cX12_calls 95 = .ok (.return_, 1) := by decide +kernel
theorem dX12_within_0 : decode cX12_within 0 = .ok (.aload_n 0, 1) := by decide +kernel
theorem dX12_within_1 : decode cX12_within 1 = .ok (.iload_n 1, 1) := by decide +kernel
theorem dX12_within_2 : decode cX12_within 2 = .ok (.invokevirtual 339, 3) := by decide +kernel
theorem dX12_within_5 : decode cX12_within 5 = .ok (.ifCond .eq 11, 3) := by decide +kernel
theorem dX12_within_8 : decode cX12_within 8 = .ok (.aload_n 0, 1) := by decide +kernel
theorem dX12_within_9 : decode cX12_within 9 = .ok (.iload_n 1, 1) := by decide +kernel
theorem dX12_within_10 : decode cX12_within 10 = .ok (.invokevirtual 342, 3) := by decide +kernel
theorem dX12_within_13 : decode cX12_within 13 = .ok (.ifCond .ne 5, 3) := by decide +kernel
theorem dX12_within_16 : decode cX12_within 16 = .ok (.iload_n 3, 1) := by decide +kernel
theorem dX12_within_17 : decode cX12_within 17 = .ok (.ireturn, 1) := by decide +kernel
theorem dX12_within_18 : decode cX12_within 18 = .ok (.lconst 0, 1) := by decide +kernel
theorem dX12_within_19 : decode cX12_within 19 = .ok (.iload_n 2, 1) := by decide +kernel
theorem dX12_within_20 : decode cX12_within 20 = .ok (.i2l, 1) := by decide +kernel
theorem dX12_within_21 : decode cX12_within 21 = .ok (.aload_n 0, 1) := by decide +kernel
theorem dX12_within_22 : decode cX12_within 22 = .ok (.getfield 60, 3) := by decide +kernel
theorem dX12_within_25 : decode cX12_within 25 = .ok (.iconst 0, 1) := by decide +kernel
theorem dX12_within_26 : decode cX12_within 26 = .ok (.laload, 1) := by decide +kernel
theorem dX12_within_27 : decode cX12_within 27 = .ok (.invokestatic 345, 3) := by decide +kernel
theorem dX12_within_30 : decode cX12_within 30 = .ok (.invokestatic 348, 3) := by decide +kernel
theorem dX12_within_33 : decode cX12_within 33 = .ok (.l2i, 1) := by decide +kernel
theorem dX12_within_34 : decode cX12_within 34 = .ok (.ireturn, 1) := by decide +kernel
theorem dX12_likeOf_0 : decode cX12_likeOf 0 = .ok (.aload_n 0, 1) := by decide +kernel
theorem dX12_likeOf_1 : decode cX12_likeOf 1 = .ok (.iload_n 1, 1) := by decide +kernel
theorem dX12_likeOf_2 : decode cX12_likeOf 2 = .ok (.iload_n 2, 1) := by decide +kernel
theorem dX12_likeOf_3 : decode cX12_likeOf 3 = .ok (.iload_n 3, 1) := by decide +kernel
theorem dX12_likeOf_4 : decode cX12_likeOf 4 = .ok (.iload 4, 2) := by decide +kernel
theorem dX12_likeOf_6 : decode cX12_likeOf 6 = .ok (.invokevirtual 351, 3) := by decide +kernel
theorem dX12_likeOf_9 : decode cX12_likeOf 9 = .ok (.aload_n 0, 1) := by decide +kernel
theorem dX12_likeOf_10 : decode cX12_likeOf 10 = .ok (.iconst 0, 1) := by decide +kernel
theorem dX12_likeOf_11 : decode cX12_likeOf 11 = .ok (.bipush 99, 2) := by decide +kernel
theorem dX12_likeOf_13 : decode cX12_likeOf 13 = .ok (.aload_n 0, 1) := by decide +kernel
theorem dX12_likeOf_14 : decode cX12_likeOf 14 = .ok (.getfield 22, 3) := by decide +kernel
theorem dX12_likeOf_17 : decode cX12_likeOf 17 = .ok (.iconst 3, 1) := by decide +kernel
theorem dX12_likeOf_18 : decode cX12_likeOf 18 = .ok (.iload_n 2, 1) := by decide +kernel
theorem dX12_likeOf_19 : decode cX12_likeOf 19 = .ok (.imul, 1) := by decide +kernel
theorem dX12_likeOf_20 : decode cX12_likeOf 20 = .ok (.iload_n 3, 1) := by decide +kernel
theorem dX12_likeOf_21 : decode cX12_likeOf 21 = .ok (.iadd, 1) := by decide +kernel
theorem dX12_likeOf_22 : decode cX12_likeOf 22 = .ok (.iaload, 1) := by decide +kernel
theorem dX12_likeOf_23 : decode cX12_likeOf 23 = .ok (.invokevirtual 355, 3) := by decide +kernel
theorem dX12_likeOf_26 : decode cX12_likeOf 26 = .ok (.ireturn, 1) := by decide +kernel
theorem dX12_stayOf_0 : decode cX12_stayOf 0 = .ok (.aload_n 0, 1) := by decide +kernel
theorem dX12_stayOf_1 : decode cX12_stayOf 1 = .ok (.getfield 359, 3) := by decide +kernel
theorem dX12_stayOf_4 : decode cX12_stayOf 4 = .ok (.iconst 4, 1) := by decide +kernel
theorem dX12_stayOf_5 : decode cX12_stayOf 5 = .ok (.if_icmp .ne 5, 3) := by decide +kernel
theorem dX12_stayOf_8 : decode cX12_stayOf 8 = .ok (.iconst 0, 1) := by decide +kernel
theorem dX12_stayOf_9 : decode cX12_stayOf 9 = .ok (.ireturn, 1) := by decide +kernel
theorem dX12_stayOf_10 : decode cX12_stayOf 10 = .ok (.aload_n 0, 1) := by decide +kernel
theorem dX12_stayOf_11 : decode cX12_stayOf 11 = .ok (.iload_n 1, 1) := by decide +kernel
theorem dX12_stayOf_12 : decode cX12_stayOf 12 = .ok (.iload_n 2, 1) := by decide +kernel
theorem dX12_stayOf_13 : decode cX12_stayOf 13 = .ok (.iload_n 3, 1) := by decide +kernel
theorem dX12_stayOf_14 : decode cX12_stayOf 14 = .ok (.iload 4, 2) := by decide +kernel
theorem dX12_stayOf_16 : decode cX12_stayOf 16 = .ok (.invokevirtual 351, 3) := by decide +kernel
theorem dX12_stayOf_19 : decode cX12_stayOf 19 = .ok (.aload_n 0, 1) := by decide +kernel
theorem dX12_stayOf_20 : decode cX12_stayOf 20 = .ok (.iconst 1, 1) := by decide +kernel
theorem dX12_stayOf_21 : decode cX12_stayOf 21 = .ok (.bipush 99, 2) := by decide +kernel
theorem dX12_stayOf_23 : decode cX12_stayOf 23 = .ok (.aload_n 0, 1) := by decide +kernel
theorem dX12_stayOf_24 : decode cX12_stayOf 24 = .ok (.iload_n 2, 1) := by decide +kernel
theorem dX12_stayOf_25 : decode cX12_stayOf 25 = .ok (.invokevirtual 336, 3) := by decide +kernel
theorem dX12_stayOf_28 : decode cX12_stayOf 28 = .ok (.invokevirtual 355, 3) := by decide +kernel
theorem dX12_stayOf_31 : decode cX12_stayOf 31 = .ok (.ireturn, 1) := by decide +kernel
theorem dX12_missOf_0 : decode cX12_missOf 0 = .ok (.aload_n 0, 1) := by decide +kernel
theorem dX12_missOf_1 : decode cX12_missOf 1 = .ok (.getfield 359, 3) := by decide +kernel
theorem dX12_missOf_4 : decode cX12_missOf 4 = .ok (.iconst 1, 1) := by decide +kernel
theorem dX12_missOf_5 : decode cX12_missOf 5 = .ok (.if_icmp .ne 5, 3) := by decide +kernel
theorem dX12_missOf_8 : decode cX12_missOf 8 = .ok (.iconst 0, 1) := by decide +kernel
theorem dX12_missOf_9 : decode cX12_missOf 9 = .ok (.ireturn, 1) := by decide +kernel
theorem dX12_missOf_10 : decode cX12_missOf 10 = .ok (.aload_n 0, 1) := by decide +kernel
theorem dX12_missOf_11 : decode cX12_missOf 11 = .ok (.iload_n 1, 1) := by decide +kernel
theorem dX12_missOf_12 : decode cX12_missOf 12 = .ok (.iload_n 2, 1) := by decide +kernel
theorem dX12_missOf_13 : decode cX12_missOf 13 = .ok (.iload_n 3, 1) := by decide +kernel
theorem dX12_missOf_14 : decode cX12_missOf 14 = .ok (.iload 4, 2) := by decide +kernel
theorem dX12_missOf_16 : decode cX12_missOf 16 = .ok (.invokevirtual 351, 3) := by decide +kernel
theorem dX12_missOf_19 : decode cX12_missOf 19 = .ok (.aload_n 0, 1) := by decide +kernel
theorem dX12_missOf_20 : decode cX12_missOf 20 = .ok (.iconst 2, 1) := by decide +kernel
theorem dX12_missOf_21 : decode cX12_missOf 21 = .ok (.bipush 100, 2) := by decide +kernel
theorem dX12_missOf_23 : decode cX12_missOf 23 = .ok (.aload_n 0, 1) := by decide +kernel
theorem dX12_missOf_24 : decode cX12_missOf 24 = .ok (.getfield 31, 3) := by decide +kernel
theorem dX12_missOf_27 : decode cX12_missOf 27 = .ok (.iload_n 2, 1) := by decide +kernel
theorem dX12_missOf_28 : decode cX12_missOf 28 = .ok (.iaload, 1) := by decide +kernel
theorem dX12_missOf_29 : decode cX12_missOf 29 = .ok (.invokevirtual 355, 3) := by decide +kernel
theorem dX12_missOf_32 : decode cX12_missOf 32 = .ok (.ireturn, 1) := by decide +kernel
theorem dX12_seatsOf_0 : decode cX12_seatsOf 0 = .ok (.aload_n 0, 1) := by decide +kernel
theorem dX12_seatsOf_1 : decode cX12_seatsOf 1 = .ok (.getfield 13, 3) := by decide +kernel
theorem dX12_seatsOf_4 : decode cX12_seatsOf 4 = .ok (.iconst 1, 1) := by decide +kernel
theorem dX12_seatsOf_5 : decode cX12_seatsOf 5 = .ok (.iaload, 1) := by decide +kernel
theorem dX12_seatsOf_6 : decode cX12_seatsOf 6 = .ok (.aload_n 0, 1) := by decide +kernel
theorem dX12_seatsOf_7 : decode cX12_seatsOf 7 = .ok (.getfield 359, 3) := by decide +kernel
theorem dX12_seatsOf_10 : decode cX12_seatsOf 10 = .ok (.iconst 3, 1) := by decide +kernel
theorem dX12_seatsOf_11 : decode cX12_seatsOf 11 = .ok (.if_icmp .ne 7, 3) := by decide +kernel
theorem dX12_seatsOf_14 : decode cX12_seatsOf 14 = .ok (.iconst 4, 1) := by decide +kernel
theorem dX12_seatsOf_15 : decode cX12_seatsOf 15 = .ok (.goto 4, 3) := by decide +kernel
theorem dX12_seatsOf_18 : decode cX12_seatsOf 18 = .ok (.iconst 0, 1) := by decide +kernel
theorem dX12_seatsOf_19 : decode cX12_seatsOf 19 = .ok (.iadd, 1) := by decide +kernel
theorem dX12_seatsOf_20 : decode cX12_seatsOf 20 = .ok (.ireturn, 1) := by decide +kernel
theorem dX12_handsOf_0 : decode cX12_handsOf 0 = .ok (.aload_n 0, 1) := by decide +kernel
theorem dX12_handsOf_1 : decode cX12_handsOf 1 = .ok (.getfield 362, 3) := by decide +kernel
theorem dX12_handsOf_4 : decode cX12_handsOf 4 = .ok (.ifCond .le 10, 3) := by decide +kernel
theorem dX12_handsOf_7 : decode cX12_handsOf 7 = .ok (.aload_n 0, 1) := by decide +kernel
theorem dX12_handsOf_8 : decode cX12_handsOf 8 = .ok (.getfield 362, 3) := by decide +kernel
theorem dX12_handsOf_11 : decode cX12_handsOf 11 = .ok (.goto 22, 3) := by decide +kernel
theorem dX12_handsOf_14 : decode cX12_handsOf 14 = .ok (.aload_n 0, 1) := by decide +kernel
theorem dX12_handsOf_15 : decode cX12_handsOf 15 = .ok (.getfield 359, 3) := by decide +kernel
theorem dX12_handsOf_18 : decode cX12_handsOf 18 = .ok (.iconst 5, 1) := by decide +kernel
theorem dX12_handsOf_19 : decode cX12_handsOf 19 = .ok (.if_icmp .ne 8, 3) := by decide +kernel
theorem dX12_handsOf_22 : decode cX12_handsOf 22 = .ok (.bipush 9, 2) := by decide +kernel
theorem dX12_handsOf_24 : decode cX12_handsOf 24 = .ok (.goto 9, 3) := by decide +kernel
theorem dX12_handsOf_27 : decode cX12_handsOf 27 = .ok (.aload_n 0, 1) := by decide +kernel
theorem dX12_handsOf_28 : decode cX12_handsOf 28 = .ok (.getfield 13, 3) := by decide +kernel
theorem dX12_handsOf_31 : decode cX12_handsOf 31 = .ok (.iconst 5, 1) := by decide +kernel
theorem dX12_handsOf_32 : decode cX12_handsOf 32 = .ok (.iaload, 1) := by decide +kernel
theorem dX12_handsOf_33 : decode cX12_handsOf 33 = .ok (.ireturn, 1) := by decide +kernel
theorem dX12_comes_0 : decode cX12_comes 0 = .ok (.iload_n 3, 1) := by decide +kernel
theorem dX12_comes_1 : decode cX12_comes 1 = .ok (.ifCond .ne 15, 3) := by decide +kernel
theorem dX12_comes_4 : decode cX12_comes 4 = .ok (.iload_n 2, 1) := by decide +kernel
theorem dX12_comes_5 : decode cX12_comes 5 = .ok (.bipush 50, 2) := by decide +kernel
theorem dX12_comes_7 : decode cX12_comes 7 = .ok (.if_icmp .ge 7, 3) := by decide +kernel
theorem dX12_comes_10 : decode cX12_comes 10 = .ok (.iconst 1, 1) := by decide +kernel
theorem dX12_comes_11 : decode cX12_comes 11 = .ok (.goto 4, 3) := by decide +kernel
theorem dX12_comes_14 : decode cX12_comes 14 = .ok (.iconst 0, 1) := by decide +kernel
theorem dX12_comes_15 : decode cX12_comes 15 = .ok (.ireturn, 1) := by decide +kernel
theorem dX12_comes_16 : decode cX12_comes 16 = .ok (.iload_n 2, 1) := by decide +kernel
theorem dX12_comes_17 : decode cX12_comes 17 = .ok (.ifCond .ne 5, 3) := by decide +kernel
theorem dX12_comes_20 : decode cX12_comes 20 = .ok (.iconst 1, 1) := by decide +kernel
theorem dX12_comes_21 : decode cX12_comes 21 = .ok (.ireturn, 1) := by decide +kernel
theorem dX12_comes_22 : decode cX12_comes 22 = .ok (.aload_n 0, 1) := by decide +kernel
theorem dX12_comes_23 : decode cX12_comes 23 = .ok (.getfield 75, 3) := by decide +kernel
theorem dX12_comes_26 : decode cX12_comes 26 = .ok (.iload_n 1, 1) := by decide +kernel
theorem dX12_comes_27 : decode cX12_comes 27 = .ok (.aload_n 0, 1) := by decide +kernel
theorem dX12_comes_28 : decode cX12_comes 28 = .ok (.getfield 75, 3) := by decide +kernel
theorem dX12_comes_31 : decode cX12_comes 31 = .ok (.iload_n 1, 1) := by decide +kernel
theorem dX12_comes_32 : decode cX12_comes 32 = .ok (.iaload, 1) := by decide +kernel
theorem dX12_comes_33 : decode cX12_comes 33 = .ok (.ldc_w 365, 3) := by decide +kernel
theorem dX12_comes_36 : decode cX12_comes 36 = .ok (.imul, 1) := by decide +kernel
theorem dX12_comes_37 : decode cX12_comes 37 = .ok (.sipush 12345, 3) := by decide +kernel
theorem dX12_comes_40 : decode cX12_comes 40 = .ok (.iadd, 1) := by decide +kernel
theorem dX12_comes_41 : decode cX12_comes 41 = .ok (.ldc_w 368, 3) := by decide +kernel
theorem dX12_comes_44 : decode cX12_comes 44 = .ok (.iand, 1) := by decide +kernel
theorem dX12_comes_45 : decode cX12_comes 45 = .ok (.iastore, 1) := by decide +kernel
theorem dX12_comes_46 : decode cX12_comes 46 = .ok (.aload_n 0, 1) := by decide +kernel
theorem dX12_comes_47 : decode cX12_comes 47 = .ok (.getfield 75, 3) := by decide +kernel
theorem dX12_comes_50 : decode cX12_comes 50 = .ok (.iload_n 1, 1) := by decide +kernel
theorem dX12_comes_51 : decode cX12_comes 51 = .ok (.iaload, 1) := by decide +kernel
theorem dX12_comes_52 : decode cX12_comes 52 = .ok (.bipush 16, 2) := by decide +kernel
theorem dX12_comes_54 : decode cX12_comes 54 = .ok (.ishr, 1) := by decide +kernel
theorem dX12_comes_55 : decode cX12_comes 55 = .ok (.bipush 100, 2) := by decide +kernel
theorem dX12_comes_57 : decode cX12_comes 57 = .ok (.irem, 1) := by decide +kernel
theorem dX12_comes_58 : decode cX12_comes 58 = .ok (.iload_n 2, 1) := by decide +kernel
theorem dX12_comes_59 : decode cX12_comes 59 = .ok (.if_icmp .lt 7, 3) := by decide +kernel
theorem dX12_comes_62 : decode cX12_comes 62 = .ok (.iconst 1, 1) := by decide +kernel
theorem dX12_comes_63 : decode cX12_comes 63 = .ok (.goto 4, 3) := by decide +kernel
theorem dX12_comes_66 : decode cX12_comes 66 = .ok (.iconst 0, 1) := by decide +kernel
theorem dX12_comes_67 : decode cX12_comes 67 = .ok (.ireturn, 1) := by decide +kernel
theorem dX12_takesSeat_0 : decode cX12_takesSeat 0 = .ok (.bipush 8, 2) := by decide +kernel
theorem dX12_takesSeat_2 : decode cX12_takesSeat 2 = .ok (.iload_n 1, 1) := by decide +kernel
theorem dX12_takesSeat_3 : decode cX12_takesSeat 3 = .ok (.imul, 1) := by decide +kernel
theorem dX12_takesSeat_4 : decode cX12_takesSeat 4 = .ok (.iload_n 2, 1) := by decide +kernel
theorem dX12_takesSeat_5 : decode cX12_takesSeat 5 = .ok (.iadd, 1) := by decide +kernel
theorem dX12_takesSeat_6 : decode cX12_takesSeat 6 = .ok (.istore 5, 2) := by decide +kernel
theorem dX12_takesSeat_8 : decode cX12_takesSeat 8 = .ok (.iconst 3, 1) := by decide +kernel
theorem dX12_takesSeat_9 : decode cX12_takesSeat 9 = .ok (.iload_n 1, 1) := by decide +kernel
theorem dX12_takesSeat_10 : decode cX12_takesSeat 10 = .ok (.imul, 1) := by decide +kernel
theorem dX12_takesSeat_11 : decode cX12_takesSeat 11 = .ok (.iload_n 3, 1) := by decide +kernel
theorem dX12_takesSeat_12 : decode cX12_takesSeat 12 = .ok (.iadd, 1) := by decide +kernel
theorem dX12_takesSeat_13 : decode cX12_takesSeat 13 = .ok (.istore 6, 2) := by decide +kernel
theorem dX12_takesSeat_15 : decode cX12_takesSeat 15 = .ok (.aload_n 0, 1) := by decide +kernel
theorem dX12_takesSeat_16 : decode cX12_takesSeat 16 = .ok (.getfield 369, 3) := by decide +kernel
theorem dX12_takesSeat_19 : decode cX12_takesSeat 19 = .ok (.aload_n 0, 1) := by decide +kernel
theorem dX12_takesSeat_20 : decode cX12_takesSeat 20 = .ok (.getfield 19, 3) := by decide +kernel
theorem dX12_takesSeat_23 : decode cX12_takesSeat 23 = .ok (.iload_n 2, 1) := by decide +kernel
theorem dX12_takesSeat_24 : decode cX12_takesSeat 24 = .ok (.iaload, 1) := by decide +kernel
theorem dX12_takesSeat_25 : decode cX12_takesSeat 25 = .ok (.if_icmp .ge 32, 3) := by decide +kernel
theorem dX12_takesSeat_28 : decode cX12_takesSeat 28 = .ok (.aload_n 0, 1) := by decide +kernel
theorem dX12_takesSeat_29 : decode cX12_takesSeat 29 = .ok (.dup, 1) := by decide +kernel
theorem dX12_takesSeat_30 : decode cX12_takesSeat 30 = .ok (.getfield 372, 3) := by decide +kernel
theorem dX12_takesSeat_33 : decode cX12_takesSeat 33 = .ok (.iconst 1, 1) := by decide +kernel
theorem dX12_takesSeat_34 : decode cX12_takesSeat 34 = .ok (.iload_n 2, 1) := by decide +kernel
theorem dX12_takesSeat_35 : decode cX12_takesSeat 35 = .ok (.ishl, 1) := by decide +kernel
theorem dX12_takesSeat_36 : decode cX12_takesSeat 36 = .ok (.ior, 1) := by decide +kernel
theorem dX12_takesSeat_37 : decode cX12_takesSeat 37 = .ok (.putfield 372, 3) := by decide +kernel
theorem dX12_takesSeat_40 : decode cX12_takesSeat 40 = .ok (.aload_n 0, 1) := by decide +kernel
theorem dX12_takesSeat_41 : decode cX12_takesSeat 41 = .ok (.getfield 105, 3) := by decide +kernel
theorem dX12_takesSeat_44 : decode cX12_takesSeat 44 = .ok (.iload 6, 2) := by decide +kernel
theorem dX12_takesSeat_46 : decode cX12_takesSeat 46 = .ok (.dup2, 1) := by decide +kernel
theorem dX12_takesSeat_47 : decode cX12_takesSeat 47 = .ok (.iaload, 1) := by decide +kernel
theorem dX12_takesSeat_48 : decode cX12_takesSeat 48 = .ok (.aload_n 0, 1) := by decide +kernel
theorem dX12_takesSeat_49 : decode cX12_takesSeat 49 = .ok (.getfield 19, 3) := by decide +kernel
theorem dX12_takesSeat_52 : decode cX12_takesSeat 52 = .ok (.iload_n 2, 1) := by decide +kernel
theorem dX12_takesSeat_53 : decode cX12_takesSeat 53 = .ok (.iaload, 1) := by decide +kernel
theorem dX12_takesSeat_54 : decode cX12_takesSeat 54 = .ok (.iadd, 1) := by decide +kernel
theorem dX12_takesSeat_55 : decode cX12_takesSeat 55 = .ok (.iastore, 1) := by decide +kernel
theorem dX12_takesSeat_56 : decode cX12_takesSeat 56 = .ok (.return_, 1) := by decide +kernel
theorem dX12_takesSeat_57 : decode cX12_takesSeat 57 = .ok (.aload_n 0, 1) := by decide +kernel
theorem dX12_takesSeat_58 : decode cX12_takesSeat 58 = .ok (.dup, 1) := by decide +kernel
theorem dX12_takesSeat_59 : decode cX12_takesSeat 59 = .ok (.getfield 369, 3) := by decide +kernel
theorem dX12_takesSeat_62 : decode cX12_takesSeat 62 = .ok (.aload_n 0, 1) := by decide +kernel
theorem dX12_takesSeat_63 : decode cX12_takesSeat 63 = .ok (.getfield 19, 3) := by decide +kernel
theorem dX12_takesSeat_66 : decode cX12_takesSeat 66 = .ok (.iload_n 2, 1) := by decide +kernel
theorem dX12_takesSeat_67 : decode cX12_takesSeat 67 = .ok (.iaload, 1) := by decide +kernel
theorem dX12_takesSeat_68 : decode cX12_takesSeat 68 = .ok (.isub, 1) := by decide +kernel
theorem dX12_takesSeat_69 : decode cX12_takesSeat 69 = .ok (.putfield 369, 3) := by decide +kernel
theorem dX12_takesSeat_72 : decode cX12_takesSeat 72 = .ok (.aload_n 0, 1) := by decide +kernel
theorem dX12_takesSeat_73 : decode cX12_takesSeat 73 = .ok (.getfield 102, 3) := by decide +kernel
theorem dX12_takesSeat_76 : decode cX12_takesSeat 76 = .ok (.iload 6, 2) := by decide +kernel
theorem dX12_takesSeat_78 : decode cX12_takesSeat 78 = .ok (.dup2, 1) := by decide +kernel
theorem dX12_takesSeat_79 : decode cX12_takesSeat 79 = .ok (.iaload, 1) := by decide +kernel
theorem dX12_takesSeat_80 : decode cX12_takesSeat 80 = .ok (.aload_n 0, 1) := by decide +kernel
theorem dX12_takesSeat_81 : decode cX12_takesSeat 81 = .ok (.getfield 19, 3) := by decide +kernel
theorem dX12_takesSeat_84 : decode cX12_takesSeat 84 = .ok (.iload_n 2, 1) := by decide +kernel
theorem dX12_takesSeat_85 : decode cX12_takesSeat 85 = .ok (.iaload, 1) := by decide +kernel
theorem dX12_takesSeat_86 : decode cX12_takesSeat 86 = .ok (.iadd, 1) := by decide +kernel
theorem dX12_takesSeat_87 : decode cX12_takesSeat 87 = .ok (.iastore, 1) := by decide +kernel
theorem dX12_takesSeat_88 : decode cX12_takesSeat 88 = .ok (.aload_n 0, 1) := by decide +kernel
theorem dX12_takesSeat_89 : decode cX12_takesSeat 89 = .ok (.getfield 81, 3) := by decide +kernel
theorem dX12_takesSeat_92 : decode cX12_takesSeat 92 = .ok (.iload 5, 2) := by decide +kernel
theorem dX12_takesSeat_94 : decode cX12_takesSeat 94 = .ok (.dup2, 1) := by decide +kernel
theorem dX12_takesSeat_95 : decode cX12_takesSeat 95 = .ok (.iaload, 1) := by decide +kernel
theorem dX12_takesSeat_96 : decode cX12_takesSeat 96 = .ok (.iconst 1, 1) := by decide +kernel
theorem dX12_takesSeat_97 : decode cX12_takesSeat 97 = .ok (.iadd, 1) := by decide +kernel
theorem dX12_takesSeat_98 : decode cX12_takesSeat 98 = .ok (.iastore, 1) := by decide +kernel
theorem dX12_takesSeat_99 : decode cX12_takesSeat 99 = .ok (.aload_n 0, 1) := by decide +kernel
theorem dX12_takesSeat_100 : decode cX12_takesSeat 100 = .ok (.getfield 72, 3) := by decide +kernel
theorem dX12_takesSeat_103 : decode cX12_takesSeat 103 = .ok (.iload_n 1, 1) := by decide +kernel
theorem dX12_takesSeat_104 : decode cX12_takesSeat 104 = .ok (.dup2, 1) := by decide +kernel
theorem dX12_takesSeat_105 : decode cX12_takesSeat 105 = .ok (.iaload, 1) := by decide +kernel
theorem dX12_takesSeat_106 : decode cX12_takesSeat 106 = .ok (.aload_n 0, 1) := by decide +kernel
theorem dX12_takesSeat_107 : decode cX12_takesSeat 107 = .ok (.getfield 96, 3) := by decide +kernel
theorem dX12_takesSeat_110 : decode cX12_takesSeat 110 = .ok (.iload 6, 2) := by decide +kernel
theorem dX12_takesSeat_112 : decode cX12_takesSeat 112 = .ok (.iaload, 1) := by decide +kernel
theorem dX12_takesSeat_113 : decode cX12_takesSeat 113 = .ok (.aload_n 0, 1) := by decide +kernel
theorem dX12_takesSeat_114 : decode cX12_takesSeat 114 = .ok (.getfield 19, 3) := by decide +kernel
theorem dX12_takesSeat_117 : decode cX12_takesSeat 117 = .ok (.iload_n 2, 1) := by decide +kernel
theorem dX12_takesSeat_118 : decode cX12_takesSeat 118 = .ok (.iaload, 1) := by decide +kernel
theorem dX12_takesSeat_119 : decode cX12_takesSeat 119 = .ok (.imul, 1) := by decide +kernel
theorem dX12_takesSeat_120 : decode cX12_takesSeat 120 = .ok (.iadd, 1) := by decide +kernel
theorem dX12_takesSeat_121 : decode cX12_takesSeat 121 = .ok (.iastore, 1) := by decide +kernel
theorem dX12_takesSeat_122 : decode cX12_takesSeat 122 = .ok (.aload_n 0, 1) := by decide +kernel
theorem dX12_takesSeat_123 : decode cX12_takesSeat 123 = .ok (.getfield 66, 3) := by decide +kernel
theorem dX12_takesSeat_126 : decode cX12_takesSeat 126 = .ok (.iload_n 1, 1) := by decide +kernel
theorem dX12_takesSeat_127 : decode cX12_takesSeat 127 = .ok (.dup2, 1) := by decide +kernel
theorem dX12_takesSeat_128 : decode cX12_takesSeat 128 = .ok (.iaload, 1) := by decide +kernel
theorem dX12_takesSeat_129 : decode cX12_takesSeat 129 = .ok (.aload_n 0, 1) := by decide +kernel
theorem dX12_takesSeat_130 : decode cX12_takesSeat 130 = .ok (.iload_n 1, 1) := by decide +kernel
theorem dX12_takesSeat_131 : decode cX12_takesSeat 131 = .ok (.iload_n 2, 1) := by decide +kernel
theorem dX12_takesSeat_132 : decode cX12_takesSeat 132 = .ok (.iload_n 3, 1) := by decide +kernel
theorem dX12_takesSeat_133 : decode cX12_takesSeat 133 = .ok (.iload 4, 2) := by decide +kernel
theorem dX12_takesSeat_135 : decode cX12_takesSeat 135 = .ok (.invokevirtual 375, 3) := by decide +kernel
theorem dX12_takesSeat_138 : decode cX12_takesSeat 138 = .ok (.aload_n 0, 1) := by decide +kernel
theorem dX12_takesSeat_139 : decode cX12_takesSeat 139 = .ok (.getfield 19, 3) := by decide +kernel
theorem dX12_takesSeat_142 : decode cX12_takesSeat 142 = .ok (.iload_n 2, 1) := by decide +kernel
theorem dX12_takesSeat_143 : decode cX12_takesSeat 143 = .ok (.iaload, 1) := by decide +kernel
theorem dX12_takesSeat_144 : decode cX12_takesSeat 144 = .ok (.imul, 1) := by decide +kernel
theorem dX12_takesSeat_145 : decode cX12_takesSeat 145 = .ok (.iadd, 1) := by decide +kernel
theorem dX12_takesSeat_146 : decode cX12_takesSeat 146 = .ok (.iastore, 1) := by decide +kernel
theorem dX12_takesSeat_147 : decode cX12_takesSeat 147 = .ok (.aload_n 0, 1) := by decide +kernel
theorem dX12_takesSeat_148 : decode cX12_takesSeat 148 = .ok (.getfield 99, 3) := by decide +kernel
theorem dX12_takesSeat_151 : decode cX12_takesSeat 151 = .ok (.iload 6, 2) := by decide +kernel
theorem dX12_takesSeat_153 : decode cX12_takesSeat 153 = .ok (.iaload, 1) := by decide +kernel
theorem dX12_takesSeat_154 : decode cX12_takesSeat 154 = .ok (.aload_n 0, 1) := by decide +kernel
theorem dX12_takesSeat_155 : decode cX12_takesSeat 155 = .ok (.getfield 13, 3) := by decide +kernel
theorem dX12_takesSeat_158 : decode cX12_takesSeat 158 = .ok (.iconst 3, 1) := by decide +kernel
theorem dX12_takesSeat_159 : decode cX12_takesSeat 159 = .ok (.iaload, 1) := by decide +kernel
theorem dX12_takesSeat_160 : decode cX12_takesSeat 160 = .ok (.iadd, 1) := by decide +kernel
theorem dX12_takesSeat_161 : decode cX12_takesSeat 161 = .ok (.istore 7, 2) := by decide +kernel
theorem dX12_takesSeat_163 : decode cX12_takesSeat 163 = .ok (.iload 7, 2) := by decide +kernel
theorem dX12_takesSeat_165 : decode cX12_takesSeat 165 = .ok (.aload_n 0, 1) := by decide +kernel
theorem dX12_takesSeat_166 : decode cX12_takesSeat 166 = .ok (.getfield 25, 3) := by decide +kernel
theorem dX12_takesSeat_169 : decode cX12_takesSeat 169 = .ok (.iload_n 2, 1) := by decide +kernel
theorem dX12_takesSeat_170 : decode cX12_takesSeat 170 = .ok (.iaload, 1) := by decide +kernel
theorem dX12_takesSeat_171 : decode cX12_takesSeat 171 = .ok (.if_icmp .le 14, 3) := by decide +kernel
theorem dX12_takesSeat_174 : decode cX12_takesSeat 174 = .ok (.aload_n 0, 1) := by decide +kernel
theorem dX12_takesSeat_175 : decode cX12_takesSeat 175 = .ok (.getfield 84, 3) := by decide +kernel
theorem dX12_takesSeat_178 : decode cX12_takesSeat 178 = .ok (.iload 5, 2) := by decide +kernel
theorem dX12_takesSeat_180 : decode cX12_takesSeat 180 = .ok (.dup2, 1) := by decide +kernel
theorem dX12_takesSeat_181 : decode cX12_takesSeat 181 = .ok (.iaload, 1) := by decide +kernel
theorem dX12_takesSeat_182 : decode cX12_takesSeat 182 = .ok (.iconst 1, 1) := by decide +kernel
theorem dX12_takesSeat_183 : decode cX12_takesSeat 183 = .ok (.iadd, 1) := by decide +kernel
theorem dX12_takesSeat_184 : decode cX12_takesSeat 184 = .ok (.iastore, 1) := by decide +kernel
theorem dX12_takesSeat_185 : decode cX12_takesSeat 185 = .ok (.aload_n 0, 1) := by decide +kernel
theorem dX12_takesSeat_186 : decode cX12_takesSeat 186 = .ok (.iload_n 1, 1) := by decide +kernel
theorem dX12_takesSeat_187 : decode cX12_takesSeat 187 = .ok (.iload_n 2, 1) := by decide +kernel
theorem dX12_takesSeat_188 : decode cX12_takesSeat 188 = .ok (.iload_n 3, 1) := by decide +kernel
theorem dX12_takesSeat_189 : decode cX12_takesSeat 189 = .ok (.iload 4, 2) := by decide +kernel
theorem dX12_takesSeat_191 : decode cX12_takesSeat 191 = .ok (.invokevirtual 379, 3) := by decide +kernel
theorem dX12_takesSeat_194 : decode cX12_takesSeat 194 = .ok (.istore 8, 2) := by decide +kernel
theorem dX12_takesSeat_196 : decode cX12_takesSeat 196 = .ok (.aload_n 0, 1) := by decide +kernel
theorem dX12_takesSeat_197 : decode cX12_takesSeat 197 = .ok (.getfield 93, 3) := by decide +kernel
theorem dX12_takesSeat_200 : decode cX12_takesSeat 200 = .ok (.iload 6, 2) := by decide +kernel
theorem dX12_takesSeat_202 : decode cX12_takesSeat 202 = .ok (.iaload, 1) := by decide +kernel
theorem dX12_takesSeat_203 : decode cX12_takesSeat 203 = .ok (.istore 9, 2) := by decide +kernel
theorem dX12_takesSeat_205 : decode cX12_takesSeat 205 = .ok (.iload 8, 2) := by decide +kernel
theorem dX12_takesSeat_207 : decode cX12_takesSeat 207 = .ok (.ifCond .le 15, 3) := by decide +kernel
theorem dX12_takesSeat_210 : decode cX12_takesSeat 210 = .ok (.aload_n 0, 1) := by decide +kernel
theorem dX12_takesSeat_211 : decode cX12_takesSeat 211 = .ok (.getfield 84, 3) := by decide +kernel
theorem dX12_takesSeat_214 : decode cX12_takesSeat 214 = .ok (.iload 5, 2) := by decide +kernel
theorem dX12_takesSeat_216 : decode cX12_takesSeat 216 = .ok (.dup2, 1) := by decide +kernel
theorem dX12_takesSeat_217 : decode cX12_takesSeat 217 = .ok (.iaload, 1) := by decide +kernel
theorem dX12_takesSeat_218 : decode cX12_takesSeat 218 = .ok (.iload 9, 2) := by decide +kernel
theorem dX12_takesSeat_220 : decode cX12_takesSeat 220 = .ok (.iadd, 1) := by decide +kernel
theorem dX12_takesSeat_221 : decode cX12_takesSeat 221 = .ok (.iastore, 1) := by decide +kernel
theorem dX12_takesSeat_222 : decode cX12_takesSeat 222 = .ok (.aload_n 0, 1) := by decide +kernel
theorem dX12_takesSeat_223 : decode cX12_takesSeat 223 = .ok (.aload_n 0, 1) := by decide +kernel
theorem dX12_takesSeat_224 : decode cX12_takesSeat 224 = .ok (.getfield 382, 3) := by decide +kernel
theorem dX12_takesSeat_227 : decode cX12_takesSeat 227 = .ok (.iload 7, 2) := by decide +kernel
theorem dX12_takesSeat_229 : decode cX12_takesSeat 229 = .ok (.iload 8, 2) := by decide +kernel
theorem dX12_takesSeat_231 : decode cX12_takesSeat 231 = .ok (.iadd, 1) := by decide +kernel
theorem dX12_takesSeat_232 : decode cX12_takesSeat 232 = .ok (.iload 9, 2) := by decide +kernel
theorem dX12_takesSeat_234 : decode cX12_takesSeat 234 = .ok (.iconst 3, 1) := by decide +kernel
theorem dX12_takesSeat_235 : decode cX12_takesSeat 235 = .ok (.if_icmp .ne 8, 3) := by decide +kernel
theorem dX12_takesSeat_238 : decode cX12_takesSeat 238 = .ok (.iload 8, 2) := by decide +kernel
theorem dX12_takesSeat_240 : decode cX12_takesSeat 240 = .ok (.goto 10, 3) := by decide +kernel
theorem dX12_takesSeat_243 : decode cX12_takesSeat 243 = .ok (.iload 8, 2) := by decide +kernel
theorem dX12_takesSeat_245 : decode cX12_takesSeat 245 = .ok (.iload 9, 2) := by decide +kernel
theorem dX12_takesSeat_247 : decode cX12_takesSeat 247 = .ok (.imul, 1) := by decide +kernel
theorem dX12_takesSeat_248 : decode cX12_takesSeat 248 = .ok (.iconst 4, 1) := by decide +kernel
theorem dX12_takesSeat_249 : decode cX12_takesSeat 249 = .ok (.idiv, 1) := by decide +kernel
theorem dX12_takesSeat_250 : decode cX12_takesSeat 250 = .ok (.isub, 1) := by decide +kernel
theorem dX12_takesSeat_251 : decode cX12_takesSeat 251 = .ok (.invokestatic 385, 3) := by decide +kernel
theorem dX12_takesSeat_254 : decode cX12_takesSeat 254 = .ok (.putfield 382, 3) := by decide +kernel
theorem dX12_takesSeat_257 : decode cX12_takesSeat 257 = .ok (.return_, 1) := by decide +kernel
theorem dX12_sits_0 : decode cX12_sits 0 = .ok (.iconst 3, 1) := by decide +kernel
theorem dX12_sits_1 : decode cX12_sits 1 = .ok (.iload_n 1, 1) := by decide +kernel
theorem dX12_sits_2 : decode cX12_sits 2 = .ok (.imul, 1) := by decide +kernel
theorem dX12_sits_3 : decode cX12_sits 3 = .ok (.iload_n 2, 1) := by decide +kernel
theorem dX12_sits_4 : decode cX12_sits 4 = .ok (.iadd, 1) := by decide +kernel
theorem dX12_sits_5 : decode cX12_sits 5 = .ok (.istore 5, 2) := by decide +kernel
theorem dX12_sits_7 : decode cX12_sits 7 = .ok (.aload_n 0, 1) := by decide +kernel
theorem dX12_sits_8 : decode cX12_sits 8 = .ok (.getfield 99, 3) := by decide +kernel
theorem dX12_sits_11 : decode cX12_sits 11 = .ok (.iload 5, 2) := by decide +kernel
theorem dX12_sits_13 : decode cX12_sits 13 = .ok (.iaload, 1) := by decide +kernel
theorem dX12_sits_14 : decode cX12_sits 14 = .ok (.aload_n 0, 1) := by decide +kernel
theorem dX12_sits_15 : decode cX12_sits 15 = .ok (.getfield 34, 3) := by decide +kernel
theorem dX12_sits_18 : decode cX12_sits 18 = .ok (.iload_n 2, 1) := by decide +kernel
theorem dX12_sits_19 : decode cX12_sits 19 = .ok (.iaload, 1) := by decide +kernel
theorem dX12_sits_20 : decode cX12_sits 20 = .ok (.isub, 1) := by decide +kernel
theorem dX12_sits_21 : decode cX12_sits 21 = .ok (.aload_n 0, 1) := by decide +kernel
theorem dX12_sits_22 : decode cX12_sits 22 = .ok (.getfield 117, 3) := by decide +kernel
theorem dX12_sits_25 : decode cX12_sits 25 = .ok (.iload_n 2, 1) := by decide +kernel
theorem dX12_sits_26 : decode cX12_sits 26 = .ok (.iaload, 1) := by decide +kernel
theorem dX12_sits_27 : decode cX12_sits 27 = .ok (.isub, 1) := by decide +kernel
theorem dX12_sits_28 : decode cX12_sits 28 = .ok (.istore 6, 2) := by decide +kernel
theorem dX12_sits_30 : decode cX12_sits 30 = .ok (.aload_n 0, 1) := by decide +kernel
theorem dX12_sits_31 : decode cX12_sits 31 = .ok (.aload_n 0, 1) := by decide +kernel
theorem dX12_sits_32 : decode cX12_sits 32 = .ok (.invokevirtual 387, 3) := by decide +kernel
theorem dX12_sits_35 : decode cX12_sits 35 = .ok (.putfield 369, 3) := by decide +kernel
theorem dX12_sits_38 : decode cX12_sits 38 = .ok (.aload_n 0, 1) := by decide +kernel
theorem dX12_sits_39 : decode cX12_sits 39 = .ok (.getfield 102, 3) := by decide +kernel
theorem dX12_sits_42 : decode cX12_sits 42 = .ok (.iload 5, 2) := by decide +kernel
theorem dX12_sits_44 : decode cX12_sits 44 = .ok (.iconst 0, 1) := by decide +kernel
theorem dX12_sits_45 : decode cX12_sits 45 = .ok (.iastore, 1) := by decide +kernel
theorem dX12_sits_46 : decode cX12_sits 46 = .ok (.aload_n 0, 1) := by decide +kernel
theorem dX12_sits_47 : decode cX12_sits 47 = .ok (.getfield 105, 3) := by decide +kernel
theorem dX12_sits_50 : decode cX12_sits 50 = .ok (.iload 5, 2) := by decide +kernel
theorem dX12_sits_52 : decode cX12_sits 52 = .ok (.iconst 0, 1) := by decide +kernel
theorem dX12_sits_53 : decode cX12_sits 53 = .ok (.iastore, 1) := by decide +kernel
theorem dX12_sits_54 : decode cX12_sits 54 = .ok (.aload_n 0, 1) := by decide +kernel
theorem dX12_sits_55 : decode cX12_sits 55 = .ok (.iconst 0, 1) := by decide +kernel
theorem dX12_sits_56 : decode cX12_sits 56 = .ok (.putfield 372, 3) := by decide +kernel
theorem dX12_sits_59 : decode cX12_sits 59 = .ok (.iconst 0, 1) := by decide +kernel
theorem dX12_sits_60 : decode cX12_sits 60 = .ok (.istore 7, 2) := by decide +kernel
theorem dX12_sits_62 : decode cX12_sits 62 = .ok (.iload 7, 2) := by decide +kernel
theorem dX12_sits_64 : decode cX12_sits 64 = .ok (.aload_n 0, 1) := by decide +kernel
theorem dX12_sits_65 : decode cX12_sits 65 = .ok (.getfield 13, 3) := by decide +kernel
theorem dX12_sits_68 : decode cX12_sits 68 = .ok (.iconst 0, 1) := by decide +kernel
theorem dX12_sits_69 : decode cX12_sits 69 = .ok (.iaload, 1) := by decide +kernel
theorem dX12_sits_70 : decode cX12_sits 70 = .ok (.if_icmp .ge 30, 3) := by decide +kernel
theorem dX12_sits_73 : decode cX12_sits 73 = .ok (.iload 4, 2) := by decide +kernel
theorem dX12_sits_75 : decode cX12_sits 75 = .ok (.iload 7, 2) := by decide +kernel
theorem dX12_sits_77 : decode cX12_sits 77 = .ok (.ishr, 1) := by decide +kernel
theorem dX12_sits_78 : decode cX12_sits 78 = .ok (.iconst 1, 1) := by decide +kernel
theorem dX12_sits_79 : decode cX12_sits 79 = .ok (.iand, 1) := by decide +kernel
theorem dX12_sits_80 : decode cX12_sits 80 = .ok (.iconst 1, 1) := by decide +kernel
theorem dX12_sits_81 : decode cX12_sits 81 = .ok (.if_icmp .ne 13, 3) := by decide +kernel
theorem dX12_sits_84 : decode cX12_sits 84 = .ok (.aload_n 0, 1) := by decide +kernel
theorem dX12_sits_85 : decode cX12_sits 85 = .ok (.iload_n 1, 1) := by decide +kernel
theorem dX12_sits_86 : decode cX12_sits 86 = .ok (.iload 7, 2) := by decide +kernel
theorem dX12_sits_88 : decode cX12_sits 88 = .ok (.iload_n 2, 1) := by decide +kernel
theorem dX12_sits_89 : decode cX12_sits 89 = .ok (.iload 6, 2) := by decide +kernel
theorem dX12_sits_91 : decode cX12_sits 91 = .ok (.invokevirtual 390, 3) := by decide +kernel
theorem dX12_sits_94 : decode cX12_sits 94 = .ok (.iinc 7 1, 3) := by decide +kernel
theorem dX12_sits_97 : decode cX12_sits 97 = .ok (.goto (-35), 3) := by decide +kernel
theorem dX12_sits_100 : decode cX12_sits 100 = .ok (.iconst 0, 1) := by decide +kernel
theorem dX12_sits_101 : decode cX12_sits 101 = .ok (.istore 7, 2) := by decide +kernel
theorem dX12_sits_103 : decode cX12_sits 103 = .ok (.iload 7, 2) := by decide +kernel
theorem dX12_sits_105 : decode cX12_sits 105 = .ok (.aload_n 0, 1) := by decide +kernel
theorem dX12_sits_106 : decode cX12_sits 106 = .ok (.getfield 13, 3) := by decide +kernel
theorem dX12_sits_109 : decode cX12_sits 109 = .ok (.iconst 0, 1) := by decide +kernel
theorem dX12_sits_110 : decode cX12_sits 110 = .ok (.iaload, 1) := by decide +kernel
theorem dX12_sits_111 : decode cX12_sits 111 = .ok (.if_icmp .ge 93, 3) := by decide +kernel
theorem dX12_sits_114 : decode cX12_sits 114 = .ok (.aload_n 0, 1) := by decide +kernel
theorem dX12_sits_115 : decode cX12_sits 115 = .ok (.getfield 78, 3) := by decide +kernel
theorem dX12_sits_118 : decode cX12_sits 118 = .ok (.bipush 8, 2) := by decide +kernel
theorem dX12_sits_120 : decode cX12_sits 120 = .ok (.iload_n 1, 1) := by decide +kernel
theorem dX12_sits_121 : decode cX12_sits 121 = .ok (.imul, 1) := by decide +kernel
theorem dX12_sits_122 : decode cX12_sits 122 = .ok (.iload 7, 2) := by decide +kernel
theorem dX12_sits_124 : decode cX12_sits 124 = .ok (.iadd, 1) := by decide +kernel
theorem dX12_sits_125 : decode cX12_sits 125 = .ok (.iaload, 1) := by decide +kernel
theorem dX12_sits_126 : decode cX12_sits 126 = .ok (.iload_n 2, 1) := by decide +kernel
theorem dX12_sits_127 : decode cX12_sits 127 = .ok (.if_icmp .ne 71, 3) := by decide +kernel
theorem dX12_sits_130 : decode cX12_sits 130 = .ok (.aload_n 0, 1) := by decide +kernel
theorem dX12_sits_131 : decode cX12_sits 131 = .ok (.getfield 359, 3) := by decide +kernel
theorem dX12_sits_134 : decode cX12_sits 134 = .ok (.iconst 2, 1) := by decide +kernel
theorem dX12_sits_135 : decode cX12_sits 135 = .ok (.if_icmp .ne 15, 3) := by decide +kernel
theorem dX12_sits_138 : decode cX12_sits 138 = .ok (.iload 7, 2) := by decide +kernel
theorem dX12_sits_140 : decode cX12_sits 140 = .ok (.aload_n 0, 1) := by decide +kernel
theorem dX12_sits_141 : decode cX12_sits 141 = .ok (.getfield 111, 3) := by decide +kernel
theorem dX12_sits_144 : decode cX12_sits 144 = .ok (.if_icmp .ne 6, 3) := by decide +kernel
theorem dX12_sits_147 : decode cX12_sits 147 = .ok (.goto 51, 3) := by decide +kernel
theorem dX12_sits_150 : decode cX12_sits 150 = .ok (.aload_n 0, 1) := by decide +kernel
theorem dX12_sits_151 : decode cX12_sits 151 = .ok (.iload_n 1, 1) := by decide +kernel
theorem dX12_sits_152 : decode cX12_sits 152 = .ok (.aload_n 0, 1) := by decide +kernel
theorem dX12_sits_153 : decode cX12_sits 153 = .ok (.iload_n 1, 1) := by decide +kernel
theorem dX12_sits_154 : decode cX12_sits 154 = .ok (.iload 7, 2) := by decide +kernel
theorem dX12_sits_156 : decode cX12_sits 156 = .ok (.iload_n 2, 1) := by decide +kernel
theorem dX12_sits_157 : decode cX12_sits 157 = .ok (.iload 6, 2) := by decide +kernel
theorem dX12_sits_159 : decode cX12_sits 159 = .ok (.invokevirtual 393, 3) := by decide +kernel
theorem dX12_sits_162 : decode cX12_sits 162 = .ok (.iload_n 3, 1) := by decide +kernel
theorem dX12_sits_163 : decode cX12_sits 163 = .ok (.invokevirtual 396, 3) := by decide +kernel
theorem dX12_sits_166 : decode cX12_sits 166 = .ok (.ifCond .eq 16, 3) := by decide +kernel
theorem dX12_sits_169 : decode cX12_sits 169 = .ok (.aload_n 0, 1) := by decide +kernel
theorem dX12_sits_170 : decode cX12_sits 170 = .ok (.iload_n 1, 1) := by decide +kernel
theorem dX12_sits_171 : decode cX12_sits 171 = .ok (.iload 7, 2) := by decide +kernel
theorem dX12_sits_173 : decode cX12_sits 173 = .ok (.iload_n 2, 1) := by decide +kernel
theorem dX12_sits_174 : decode cX12_sits 174 = .ok (.iload 6, 2) := by decide +kernel
theorem dX12_sits_176 : decode cX12_sits 176 = .ok (.invokevirtual 390, 3) := by decide +kernel
theorem dX12_sits_179 : decode cX12_sits 179 = .ok (.goto 19, 3) := by decide +kernel
theorem dX12_sits_182 : decode cX12_sits 182 = .ok (.aload_n 0, 1) := by decide +kernel
theorem dX12_sits_183 : decode cX12_sits 183 = .ok (.getfield 87, 3) := by decide +kernel
theorem dX12_sits_186 : decode cX12_sits 186 = .ok (.bipush 8, 2) := by decide +kernel
theorem dX12_sits_188 : decode cX12_sits 188 = .ok (.iload_n 1, 1) := by decide +kernel
theorem dX12_sits_189 : decode cX12_sits 189 = .ok (.imul, 1) := by decide +kernel
theorem dX12_sits_190 : decode cX12_sits 190 = .ok (.iload 7, 2) := by decide +kernel
theorem dX12_sits_192 : decode cX12_sits 192 = .ok (.iadd, 1) := by decide +kernel
theorem dX12_sits_193 : decode cX12_sits 193 = .ok (.dup2, 1) := by decide +kernel
theorem dX12_sits_194 : decode cX12_sits 194 = .ok (.iaload, 1) := by decide +kernel
theorem dX12_sits_195 : decode cX12_sits 195 = .ok (.iconst 1, 1) := by decide +kernel
theorem dX12_sits_196 : decode cX12_sits 196 = .ok (.iadd, 1) := by decide +kernel
theorem dX12_sits_197 : decode cX12_sits 197 = .ok (.iastore, 1) := by decide +kernel
theorem dX12_sits_198 : decode cX12_sits 198 = .ok (.iinc 7 1, 3) := by decide +kernel
theorem dX12_sits_201 : decode cX12_sits 201 = .ok (.goto (-98), 3) := by decide +kernel
theorem dX12_sits_204 : decode cX12_sits 204 = .ok (.return_, 1) := by decide +kernel
theorem dX12_passes_0 : decode cX12_passes 0 = .ok (.iconst 0, 1) := by decide +kernel
theorem dX12_passes_1 : decode cX12_passes 1 = .ok (.istore_n 3, 1) := by decide +kernel
theorem dX12_passes_2 : decode cX12_passes 2 = .ok (.iconst 0, 1) := by decide +kernel
theorem dX12_passes_3 : decode cX12_passes 3 = .ok (.istore 4, 2) := by decide +kernel
theorem dX12_passes_5 : decode cX12_passes 5 = .ok (.iconst 0, 1) := by decide +kernel
theorem dX12_passes_6 : decode cX12_passes 6 = .ok (.istore 5, 2) := by decide +kernel
theorem dX12_passes_8 : decode cX12_passes 8 = .ok (.iload 5, 2) := by decide +kernel
theorem dX12_passes_10 : decode cX12_passes 10 = .ok (.aload_n 0, 1) := by decide +kernel
theorem dX12_passes_11 : decode cX12_passes 11 = .ok (.getfield 13, 3) := by decide +kernel
theorem dX12_passes_14 : decode cX12_passes 14 = .ok (.iconst 2, 1) := by decide +kernel
theorem dX12_passes_15 : decode cX12_passes 15 = .ok (.iaload, 1) := by decide +kernel
theorem dX12_passes_16 : decode cX12_passes 16 = .ok (.if_icmp .ge 119, 3) := by decide +kernel
theorem dX12_passes_19 : decode cX12_passes 19 = .ok (.iconst 3, 1) := by decide +kernel
theorem dX12_passes_20 : decode cX12_passes 20 = .ok (.iload_n 1, 1) := by decide +kernel
theorem dX12_passes_21 : decode cX12_passes 21 = .ok (.imul, 1) := by decide +kernel
theorem dX12_passes_22 : decode cX12_passes 22 = .ok (.iload 5, 2) := by decide +kernel
theorem dX12_passes_24 : decode cX12_passes 24 = .ok (.iadd, 1) := by decide +kernel
theorem dX12_passes_25 : decode cX12_passes 25 = .ok (.istore 6, 2) := by decide +kernel
theorem dX12_passes_27 : decode cX12_passes 27 = .ok (.aload_n 0, 1) := by decide +kernel
theorem dX12_passes_28 : decode cX12_passes 28 = .ok (.getfield 99, 3) := by decide +kernel
theorem dX12_passes_31 : decode cX12_passes 31 = .ok (.iload 6, 2) := by decide +kernel
theorem dX12_passes_33 : decode cX12_passes 33 = .ok (.iload_n 3, 1) := by decide +kernel
theorem dX12_passes_34 : decode cX12_passes 34 = .ok (.aload_n 0, 1) := by decide +kernel
theorem dX12_passes_35 : decode cX12_passes 35 = .ok (.getfield 34, 3) := by decide +kernel
theorem dX12_passes_38 : decode cX12_passes 38 = .ok (.iload 5, 2) := by decide +kernel
theorem dX12_passes_40 : decode cX12_passes 40 = .ok (.iaload, 1) := by decide +kernel
theorem dX12_passes_41 : decode cX12_passes 41 = .ok (.aload_n 0, 1) := by decide +kernel
theorem dX12_passes_42 : decode cX12_passes 42 = .ok (.getfield 117, 3) := by decide +kernel
theorem dX12_passes_45 : decode cX12_passes 45 = .ok (.iload 5, 2) := by decide +kernel
theorem dX12_passes_47 : decode cX12_passes 47 = .ok (.iaload, 1) := by decide +kernel
theorem dX12_passes_48 : decode cX12_passes 48 = .ok (.iadd, 1) := by decide +kernel
theorem dX12_passes_49 : decode cX12_passes 49 = .ok (.invokestatic 385, 3) := by decide +kernel
theorem dX12_passes_52 : decode cX12_passes 52 = .ok (.iastore, 1) := by decide +kernel
theorem dX12_passes_53 : decode cX12_passes 53 = .ok (.aload_n 0, 1) := by decide +kernel
theorem dX12_passes_54 : decode cX12_passes 54 = .ok (.aload_n 0, 1) := by decide +kernel
theorem dX12_passes_55 : decode cX12_passes 55 = .ok (.getfield 99, 3) := by decide +kernel
theorem dX12_passes_58 : decode cX12_passes 58 = .ok (.iload 6, 2) := by decide +kernel
theorem dX12_passes_60 : decode cX12_passes 60 = .ok (.iaload, 1) := by decide +kernel
theorem dX12_passes_61 : decode cX12_passes 61 = .ok (.putfield 382, 3) := by decide +kernel
theorem dX12_passes_64 : decode cX12_passes 64 = .ok (.aload_n 0, 1) := by decide +kernel
theorem dX12_passes_65 : decode cX12_passes 65 = .ok (.iload_n 1, 1) := by decide +kernel
theorem dX12_passes_66 : decode cX12_passes 66 = .ok (.iload 5, 2) := by decide +kernel
theorem dX12_passes_68 : decode cX12_passes 68 = .ok (.iload_n 2, 1) := by decide +kernel
theorem dX12_passes_69 : decode cX12_passes 69 = .ok (.iload 4, 2) := by decide +kernel
theorem dX12_passes_71 : decode cX12_passes 71 = .ok (.invokevirtual 400, 3) := by decide +kernel
theorem dX12_passes_74 : decode cX12_passes 74 = .ok (.aload_n 0, 1) := by decide +kernel
theorem dX12_passes_75 : decode cX12_passes 75 = .ok (.getfield 372, 3) := by decide +kernel
theorem dX12_passes_78 : decode cX12_passes 78 = .ok (.istore 4, 2) := by decide +kernel
theorem dX12_passes_80 : decode cX12_passes 80 = .ok (.aload_n 0, 1) := by decide +kernel
theorem dX12_passes_81 : decode cX12_passes 81 = .ok (.getfield 108, 3) := by decide +kernel
theorem dX12_passes_84 : decode cX12_passes 84 = .ok (.iload 6, 2) := by decide +kernel
theorem dX12_passes_86 : decode cX12_passes 86 = .ok (.aload_n 0, 1) := by decide +kernel
theorem dX12_passes_87 : decode cX12_passes 87 = .ok (.getfield 382, 3) := by decide +kernel
theorem dX12_passes_90 : decode cX12_passes 90 = .ok (.iastore, 1) := by decide +kernel
theorem dX12_passes_91 : decode cX12_passes 91 = .ok (.aload_n 0, 1) := by decide +kernel
theorem dX12_passes_92 : decode cX12_passes 92 = .ok (.getfield 382, 3) := by decide +kernel
theorem dX12_passes_95 : decode cX12_passes 95 = .ok (.aload_n 0, 1) := by decide +kernel
theorem dX12_passes_96 : decode cX12_passes 96 = .ok (.getfield 102, 3) := by decide +kernel
theorem dX12_passes_99 : decode cX12_passes 99 = .ok (.iload 6, 2) := by decide +kernel
theorem dX12_passes_101 : decode cX12_passes 101 = .ok (.iaload, 1) := by decide +kernel
theorem dX12_passes_102 : decode cX12_passes 102 = .ok (.ifCond .le 24, 3) := by decide +kernel
theorem dX12_passes_105 : decode cX12_passes 105 = .ok (.aload_n 0, 1) := by decide +kernel
theorem dX12_passes_106 : decode cX12_passes 106 = .ok (.getfield 13, 3) := by decide +kernel
theorem dX12_passes_109 : decode cX12_passes 109 = .ok (.iconst 4, 1) := by decide +kernel
theorem dX12_passes_110 : decode cX12_passes 110 = .ok (.iaload, 1) := by decide +kernel
theorem dX12_passes_111 : decode cX12_passes 111 = .ok (.aload_n 0, 1) := by decide +kernel
theorem dX12_passes_112 : decode cX12_passes 112 = .ok (.invokevirtual 404, 3) := by decide +kernel
theorem dX12_passes_115 : decode cX12_passes 115 = .ok (.iadd, 1) := by decide +kernel
theorem dX12_passes_116 : decode cX12_passes 116 = .ok (.iconst 1, 1) := by decide +kernel
theorem dX12_passes_117 : decode cX12_passes 117 = .ok (.isub, 1) := by decide +kernel
theorem dX12_passes_118 : decode cX12_passes 118 = .ok (.aload_n 0, 1) := by decide +kernel
theorem dX12_passes_119 : decode cX12_passes 119 = .ok (.invokevirtual 404, 3) := by decide +kernel
theorem dX12_passes_122 : decode cX12_passes 122 = .ok (.idiv, 1) := by decide +kernel
theorem dX12_passes_123 : decode cX12_passes 123 = .ok (.goto 4, 3) := by decide +kernel
theorem dX12_passes_126 : decode cX12_passes 126 = .ok (.iconst 0, 1) := by decide +kernel
theorem dX12_passes_127 : decode cX12_passes 127 = .ok (.iadd, 1) := by decide +kernel
theorem dX12_passes_128 : decode cX12_passes 128 = .ok (.istore_n 3, 1) := by decide +kernel
theorem dX12_passes_129 : decode cX12_passes 129 = .ok (.iinc 5 1, 3) := by decide +kernel
theorem dX12_passes_132 : decode cX12_passes 132 = .ok (.goto (-124), 3) := by decide +kernel
theorem dX12_passes_135 : decode cX12_passes 135 = .ok (.iconst 0, 1) := by decide +kernel
theorem dX12_passes_136 : decode cX12_passes 136 = .ok (.istore 5, 2) := by decide +kernel
theorem dX12_passes_138 : decode cX12_passes 138 = .ok (.iload 5, 2) := by decide +kernel
theorem dX12_passes_140 : decode cX12_passes 140 = .ok (.aload_n 0, 1) := by decide +kernel
theorem dX12_passes_141 : decode cX12_passes 141 = .ok (.getfield 13, 3) := by decide +kernel
theorem dX12_passes_144 : decode cX12_passes 144 = .ok (.iconst 0, 1) := by decide +kernel
theorem dX12_passes_145 : decode cX12_passes 145 = .ok (.iaload, 1) := by decide +kernel
theorem dX12_passes_146 : decode cX12_passes 146 = .ok (.if_icmp .ge 54, 3) := by decide +kernel
theorem dX12_passes_149 : decode cX12_passes 149 = .ok (.iload 4, 2) := by decide +kernel
theorem dX12_passes_151 : decode cX12_passes 151 = .ok (.iload 5, 2) := by decide +kernel
theorem dX12_passes_153 : decode cX12_passes 153 = .ok (.ishr, 1) := by decide +kernel
theorem dX12_passes_154 : decode cX12_passes 154 = .ok (.iconst 1, 1) := by decide +kernel
theorem dX12_passes_155 : decode cX12_passes 155 = .ok (.iand, 1) := by decide +kernel
theorem dX12_passes_156 : decode cX12_passes 156 = .ok (.ifCond .ne 6, 3) := by decide +kernel
theorem dX12_passes_159 : decode cX12_passes 159 = .ok (.goto 35, 3) := by decide +kernel
theorem dX12_passes_162 : decode cX12_passes 162 = .ok (.aload_n 0, 1) := by decide +kernel
theorem dX12_passes_163 : decode cX12_passes 163 = .ok (.getfield 69, 3) := by decide +kernel
theorem dX12_passes_166 : decode cX12_passes 166 = .ok (.iload_n 1, 1) := by decide +kernel
theorem dX12_passes_167 : decode cX12_passes 167 = .ok (.dup2, 1) := by decide +kernel
theorem dX12_passes_168 : decode cX12_passes 168 = .ok (.iaload, 1) := by decide +kernel
theorem dX12_passes_169 : decode cX12_passes 169 = .ok (.aload_n 0, 1) := by decide +kernel
theorem dX12_passes_170 : decode cX12_passes 170 = .ok (.getfield 19, 3) := by decide +kernel
theorem dX12_passes_173 : decode cX12_passes 173 = .ok (.iload 5, 2) := by decide +kernel
theorem dX12_passes_175 : decode cX12_passes 175 = .ok (.iaload, 1) := by decide +kernel
theorem dX12_passes_176 : decode cX12_passes 176 = .ok (.iadd, 1) := by decide +kernel
theorem dX12_passes_177 : decode cX12_passes 177 = .ok (.iastore, 1) := by decide +kernel
theorem dX12_passes_178 : decode cX12_passes 178 = .ok (.aload_n 0, 1) := by decide +kernel
theorem dX12_passes_179 : decode cX12_passes 179 = .ok (.getfield 90, 3) := by decide +kernel
theorem dX12_passes_182 : decode cX12_passes 182 = .ok (.bipush 8, 2) := by decide +kernel
theorem dX12_passes_184 : decode cX12_passes 184 = .ok (.iload_n 1, 1) := by decide +kernel
theorem dX12_passes_185 : decode cX12_passes 185 = .ok (.imul, 1) := by decide +kernel
theorem dX12_passes_186 : decode cX12_passes 186 = .ok (.iload 5, 2) := by decide +kernel
theorem dX12_passes_188 : decode cX12_passes 188 = .ok (.iadd, 1) := by decide +kernel
theorem dX12_passes_189 : decode cX12_passes 189 = .ok (.dup2, 1) := by decide +kernel
theorem dX12_passes_190 : decode cX12_passes 190 = .ok (.iaload, 1) := by decide +kernel
theorem dX12_passes_191 : decode cX12_passes 191 = .ok (.iconst 1, 1) := by decide +kernel
theorem dX12_passes_192 : decode cX12_passes 192 = .ok (.iadd, 1) := by decide +kernel
theorem dX12_passes_193 : decode cX12_passes 193 = .ok (.iastore, 1) := by decide +kernel
theorem dX12_passes_194 : decode cX12_passes 194 = .ok (.iinc 5 1, 3) := by decide +kernel
theorem dX12_passes_197 : decode cX12_passes 197 = .ok (.goto (-59), 3) := by decide +kernel
theorem dX12_passes_200 : decode cX12_passes 200 = .ok (.aload_n 0, 1) := by decide +kernel
theorem dX12_passes_201 : decode cX12_passes 201 = .ok (.getfield 63, 3) := by decide +kernel
theorem dX12_passes_204 : decode cX12_passes 204 = .ok (.iload_n 1, 1) := by decide +kernel
theorem dX12_passes_205 : decode cX12_passes 205 = .ok (.dup2, 1) := by decide +kernel
theorem dX12_passes_206 : decode cX12_passes 206 = .ok (.iaload, 1) := by decide +kernel
theorem dX12_passes_207 : decode cX12_passes 207 = .ok (.iconst 1, 1) := by decide +kernel
theorem dX12_passes_208 : decode cX12_passes 208 = .ok (.iadd, 1) := by decide +kernel
theorem dX12_passes_209 : decode cX12_passes 209 = .ok (.iastore, 1) := by decide +kernel
theorem dX12_passes_210 : decode cX12_passes 210 = .ok (.return_, 1) := by decide +kernel
theorem dX12_lateIn_0 : decode cX12_lateIn 0 = .ok (.aload_n 0, 1) := by decide +kernel
theorem dX12_lateIn_1 : decode cX12_lateIn 1 = .ok (.getfield 99, 3) := by decide +kernel
theorem dX12_lateIn_4 : decode cX12_lateIn 4 = .ok (.iconst 3, 1) := by decide +kernel
theorem dX12_lateIn_5 : decode cX12_lateIn 5 = .ok (.iload_n 1, 1) := by decide +kernel
theorem dX12_lateIn_6 : decode cX12_lateIn 6 = .ok (.imul, 1) := by decide +kernel
theorem dX12_lateIn_7 : decode cX12_lateIn 7 = .ok (.iload_n 2, 1) := by decide +kernel
theorem dX12_lateIn_8 : decode cX12_lateIn 8 = .ok (.iadd, 1) := by decide +kernel
theorem dX12_lateIn_9 : decode cX12_lateIn 9 = .ok (.iaload, 1) := by decide +kernel
theorem dX12_lateIn_10 : decode cX12_lateIn 10 = .ok (.aload_n 0, 1) := by decide +kernel
theorem dX12_lateIn_11 : decode cX12_lateIn 11 = .ok (.getfield 34, 3) := by decide +kernel
theorem dX12_lateIn_14 : decode cX12_lateIn 14 = .ok (.iload_n 2, 1) := by decide +kernel
theorem dX12_lateIn_15 : decode cX12_lateIn 15 = .ok (.iaload, 1) := by decide +kernel
theorem dX12_lateIn_16 : decode cX12_lateIn 16 = .ok (.isub, 1) := by decide +kernel
theorem dX12_lateIn_17 : decode cX12_lateIn 17 = .ok (.aload_n 0, 1) := by decide +kernel
theorem dX12_lateIn_18 : decode cX12_lateIn 18 = .ok (.getfield 117, 3) := by decide +kernel
theorem dX12_lateIn_21 : decode cX12_lateIn 21 = .ok (.iload_n 2, 1) := by decide +kernel
theorem dX12_lateIn_22 : decode cX12_lateIn 22 = .ok (.iaload, 1) := by decide +kernel
theorem dX12_lateIn_23 : decode cX12_lateIn 23 = .ok (.isub, 1) := by decide +kernel
theorem dX12_lateIn_24 : decode cX12_lateIn 24 = .ok (.ireturn, 1) := by decide +kernel
theorem dX12_today_0 : decode cX12_today 0 = .ok (.aload_n 0, 1) := by decide +kernel
theorem dX12_today_1 : decode cX12_today 1 = .ok (.iconst 1, 1) := by decide +kernel
theorem dX12_today_2 : decode cX12_today 2 = .ok (.iconst 0, 1) := by decide +kernel
theorem dX12_today_3 : decode cX12_today 3 = .ok (.invokevirtual 407, 3) := by decide +kernel
theorem dX12_today_6 : decode cX12_today 6 = .ok (.aload_n 0, 1) := by decide +kernel
theorem dX12_today_7 : decode cX12_today 7 = .ok (.iconst 1, 1) := by decide +kernel
theorem dX12_today_8 : decode cX12_today 8 = .ok (.iconst 0, 1) := by decide +kernel
theorem dX12_today_9 : decode cX12_today 9 = .ok (.invokevirtual 410, 3) := by decide +kernel
theorem dX12_today_12 : decode cX12_today 12 = .ok (.return_, 1) := by decide +kernel
theorem dX12_withTicket_0 : decode cX12_withTicket 0 = .ok (.iconst 0, 1) := by decide +kernel
theorem dX12_withTicket_1 : decode cX12_withTicket 1 = .ok (.istore_n 2, 1) := by decide +kernel
theorem dX12_withTicket_2 : decode cX12_withTicket 2 = .ok (.iconst 0, 1) := by decide +kernel
theorem dX12_withTicket_3 : decode cX12_withTicket 3 = .ok (.istore_n 3, 1) := by decide +kernel
theorem dX12_withTicket_4 : decode cX12_withTicket 4 = .ok (.iload_n 3, 1) := by decide +kernel
theorem dX12_withTicket_5 : decode cX12_withTicket 5 = .ok (.aload_n 0, 1) := by decide +kernel
theorem dX12_withTicket_6 : decode cX12_withTicket 6 = .ok (.getfield 13, 3) := by decide +kernel
theorem dX12_withTicket_9 : decode cX12_withTicket 9 = .ok (.iconst 0, 1) := by decide +kernel
theorem dX12_withTicket_10 : decode cX12_withTicket 10 = .ok (.iaload, 1) := by decide +kernel
theorem dX12_withTicket_11 : decode cX12_withTicket 11 = .ok (.if_icmp .ge 32, 3) := by decide +kernel
theorem dX12_withTicket_14 : decode cX12_withTicket 14 = .ok (.iload_n 2, 1) := by decide +kernel
theorem dX12_withTicket_15 : decode cX12_withTicket 15 = .ok (.aload_n 0, 1) := by decide +kernel
theorem dX12_withTicket_16 : decode cX12_withTicket 16 = .ok (.getfield 78, 3) := by decide +kernel
theorem dX12_withTicket_19 : decode cX12_withTicket 19 = .ok (.iload_n 3, 1) := by decide +kernel
theorem dX12_withTicket_20 : decode cX12_withTicket 20 = .ok (.iaload, 1) := by decide +kernel
theorem dX12_withTicket_21 : decode cX12_withTicket 21 = .ok (.iload_n 1, 1) := by decide +kernel
theorem dX12_withTicket_22 : decode cX12_withTicket 22 = .ok (.if_icmp .ne 12, 3) := by decide +kernel
theorem dX12_withTicket_25 : decode cX12_withTicket 25 = .ok (.aload_n 0, 1) := by decide +kernel
theorem dX12_withTicket_26 : decode cX12_withTicket 26 = .ok (.getfield 19, 3) := by decide +kernel
theorem dX12_withTicket_29 : decode cX12_withTicket 29 = .ok (.iload_n 3, 1) := by decide +kernel
theorem dX12_withTicket_30 : decode cX12_withTicket 30 = .ok (.iaload, 1) := by decide +kernel
theorem dX12_withTicket_31 : decode cX12_withTicket 31 = .ok (.goto 4, 3) := by decide +kernel
theorem dX12_withTicket_34 : decode cX12_withTicket 34 = .ok (.iconst 0, 1) := by decide +kernel
theorem dX12_withTicket_35 : decode cX12_withTicket 35 = .ok (.iadd, 1) := by decide +kernel
theorem dX12_withTicket_36 : decode cX12_withTicket 36 = .ok (.istore_n 2, 1) := by decide +kernel
theorem dX12_withTicket_37 : decode cX12_withTicket 37 = .ok (.iinc 3 1, 3) := by decide +kernel
theorem dX12_withTicket_40 : decode cX12_withTicket 40 = .ok (.goto (-36), 3) := by decide +kernel
theorem dX12_withTicket_43 : decode cX12_withTicket 43 = .ok (.iload_n 2, 1) := by decide +kernel
theorem dX12_withTicket_44 : decode cX12_withTicket 44 = .ok (.ireturn, 1) := by decide +kernel
theorem dX12_party_0 : decode cX12_party 0 = .ok (.aload_n 0, 1) := by decide +kernel
theorem dX12_party_1 : decode cX12_party 1 = .ok (.aload_n 0, 1) := by decide +kernel
theorem dX12_party_2 : decode cX12_party 2 = .ok (.iload_n 1, 1) := by decide +kernel
theorem dX12_party_3 : decode cX12_party 3 = .ok (.invokevirtual 414, 3) := by decide +kernel
theorem dX12_party_6 : decode cX12_party 6 = .ok (.ifCond .ne 7, 3) := by decide +kernel
theorem dX12_party_9 : decode cX12_party 9 = .ok (.iconst 1, 1) := by decide +kernel
theorem dX12_party_10 : decode cX12_party 10 = .ok (.goto 18, 3) := by decide +kernel
theorem dX12_party_13 : decode cX12_party 13 = .ok (.iload_n 2, 1) := by decide +kernel
theorem dX12_party_14 : decode cX12_party 14 = .ok (.ifCond .lt 9, 3) := by decide +kernel
theorem dX12_party_17 : decode cX12_party 17 = .ok (.iload_n 2, 1) := by decide +kernel
theorem dX12_party_18 : decode cX12_party 18 = .ok (.bipush 8, 2) := by decide +kernel
theorem dX12_party_20 : decode cX12_party 20 = .ok (.if_icmp .le 7, 3) := by decide +kernel
theorem dX12_party_23 : decode cX12_party 23 = .ok (.iconst 2, 1) := by decide +kernel
theorem dX12_party_24 : decode cX12_party 24 = .ok (.goto 4, 3) := by decide +kernel
theorem dX12_party_27 : decode cX12_party 27 = .ok (.iconst 0, 1) := by decide +kernel
theorem dX12_party_28 : decode cX12_party 28 = .ok (.putfield 157, 3) := by decide +kernel
theorem dX12_party_31 : decode cX12_party 31 = .ok (.aload_n 0, 1) := by decide +kernel
theorem dX12_party_32 : decode cX12_party 32 = .ok (.getfield 157, 3) := by decide +kernel
theorem dX12_party_35 : decode cX12_party 35 = .ok (.ifCond .eq 5, 3) := by decide +kernel
theorem dX12_party_38 : decode cX12_party 38 = .ok (.iconst 0, 1) := by decide +kernel
theorem dX12_party_39 : decode cX12_party 39 = .ok (.ireturn, 1) := by decide +kernel
theorem dX12_party_40 : decode cX12_party 40 = .ok (.iload_n 2, 1) := by decide +kernel
theorem dX12_party_41 : decode cX12_party 41 = .ok (.tableswitch 103 0 7 #[47, 54, 61, 68, 75, 82, 89, 96], 47) := by decide +kernel
theorem dX12_party_88 : decode cX12_party 88 = .ok (.aload_n 0, 1) := by decide +kernel
theorem dX12_party_89 : decode cX12_party 89 = .ok (.getfield 19, 3) := by decide +kernel
theorem dX12_party_92 : decode cX12_party 92 = .ok (.iload_n 1, 1) := by decide +kernel
theorem dX12_party_93 : decode cX12_party 93 = .ok (.iaload, 1) := by decide +kernel
theorem dX12_party_94 : decode cX12_party 94 = .ok (.ireturn, 1) := by decide +kernel
theorem dX12_party_95 : decode cX12_party 95 = .ok (.aload_n 0, 1) := by decide +kernel
theorem dX12_party_96 : decode cX12_party 96 = .ok (.getfield 25, 3) := by decide +kernel
theorem dX12_party_99 : decode cX12_party 99 = .ok (.iload_n 1, 1) := by decide +kernel
theorem dX12_party_100 : decode cX12_party 100 = .ok (.iaload, 1) := by decide +kernel
theorem dX12_party_101 : decode cX12_party 101 = .ok (.ireturn, 1) := by decide +kernel
theorem dX12_party_102 : decode cX12_party 102 = .ok (.aload_n 0, 1) := by decide +kernel
theorem dX12_party_103 : decode cX12_party 103 = .ok (.getfield 28, 3) := by decide +kernel
theorem dX12_party_106 : decode cX12_party 106 = .ok (.iload_n 1, 1) := by decide +kernel
theorem dX12_party_107 : decode cX12_party 107 = .ok (.iaload, 1) := by decide +kernel
theorem dX12_party_108 : decode cX12_party 108 = .ok (.ireturn, 1) := by decide +kernel
theorem dX12_party_109 : decode cX12_party 109 = .ok (.aload_n 0, 1) := by decide +kernel
theorem dX12_party_110 : decode cX12_party 110 = .ok (.getfield 31, 3) := by decide +kernel
theorem dX12_party_113 : decode cX12_party 113 = .ok (.iload_n 1, 1) := by decide +kernel
theorem dX12_party_114 : decode cX12_party 114 = .ok (.iaload, 1) := by decide +kernel
theorem dX12_party_115 : decode cX12_party 115 = .ok (.ireturn, 1) := by decide +kernel
theorem dX12_party_116 : decode cX12_party 116 = .ok (.aload_n 0, 1) := by decide +kernel
theorem dX12_party_117 : decode cX12_party 117 = .ok (.getfield 78, 3) := by decide +kernel
theorem dX12_party_120 : decode cX12_party 120 = .ok (.iload_n 1, 1) := by decide +kernel
theorem dX12_party_121 : decode cX12_party 121 = .ok (.iaload, 1) := by decide +kernel
theorem dX12_party_122 : decode cX12_party 122 = .ok (.ireturn, 1) := by decide +kernel
theorem dX12_party_123 : decode cX12_party 123 = .ok (.aload_n 0, 1) := by decide +kernel
theorem dX12_party_124 : decode cX12_party 124 = .ok (.getfield 81, 3) := by decide +kernel
theorem dX12_party_127 : decode cX12_party 127 = .ok (.iload_n 1, 1) := by decide +kernel
theorem dX12_party_128 : decode cX12_party 128 = .ok (.iaload, 1) := by decide +kernel
theorem dX12_party_129 : decode cX12_party 129 = .ok (.ireturn, 1) := by decide +kernel
theorem dX12_party_130 : decode cX12_party 130 = .ok (.aload_n 0, 1) := by decide +kernel
theorem dX12_party_131 : decode cX12_party 131 = .ok (.getfield 84, 3) := by decide +kernel
theorem dX12_party_134 : decode cX12_party 134 = .ok (.iload_n 1, 1) := by decide +kernel
theorem dX12_party_135 : decode cX12_party 135 = .ok (.iaload, 1) := by decide +kernel
theorem dX12_party_136 : decode cX12_party 136 = .ok (.ireturn, 1) := by decide +kernel
theorem dX12_party_137 : decode cX12_party 137 = .ok (.aload_n 0, 1) := by decide +kernel
theorem dX12_party_138 : decode cX12_party 138 = .ok (.getfield 87, 3) := by decide +kernel
theorem dX12_party_141 : decode cX12_party 141 = .ok (.iload_n 1, 1) := by decide +kernel
theorem dX12_party_142 : decode cX12_party 142 = .ok (.iaload, 1) := by decide +kernel
theorem dX12_party_143 : decode cX12_party 143 = .ok (.ireturn, 1) := by decide +kernel
theorem dX12_party_144 : decode cX12_party 144 = .ok (.aload_n 0, 1) := by decide +kernel
theorem dX12_party_145 : decode cX12_party 145 = .ok (.getfield 90, 3) := by decide +kernel
theorem dX12_party_148 : decode cX12_party 148 = .ok (.iload_n 1, 1) := by decide +kernel
theorem dX12_party_149 : decode cX12_party 149 = .ok (.iaload, 1) := by decide +kernel
theorem dX12_party_150 : decode cX12_party 150 = .ok (.ireturn, 1) := by decide +kernel
theorem dX12_wish_0 : decode cX12_wish 0 = .ok (.aload_n 0, 1) := by decide +kernel
theorem dX12_wish_1 : decode cX12_wish 1 = .ok (.iconst 0, 1) := by decide +kernel
theorem dX12_wish_2 : decode cX12_wish 2 = .ok (.putfield 157, 3) := by decide +kernel
theorem dX12_wish_5 : decode cX12_wish 5 = .ok (.aload_n 0, 1) := by decide +kernel
theorem dX12_wish_6 : decode cX12_wish 6 = .ok (.iload_n 1, 1) := by decide +kernel
theorem dX12_wish_7 : decode cX12_wish 7 = .ok (.invokevirtual 414, 3) := by decide +kernel
theorem dX12_wish_10 : decode cX12_wish 10 = .ok (.ifCond .eq 25, 3) := by decide +kernel
theorem dX12_wish_13 : decode cX12_wish 13 = .ok (.iload_n 2, 1) := by decide +kernel
theorem dX12_wish_14 : decode cX12_wish 14 = .ok (.ifCond .lt 21, 3) := by decide +kernel
theorem dX12_wish_17 : decode cX12_wish 17 = .ok (.iload_n 2, 1) := by decide +kernel
theorem dX12_wish_18 : decode cX12_wish 18 = .ok (.iconst 3, 1) := by decide +kernel
theorem dX12_wish_19 : decode cX12_wish 19 = .ok (.if_icmp .ge 16, 3) := by decide +kernel
theorem dX12_wish_22 : decode cX12_wish 22 = .ok (.aload_n 0, 1) := by decide +kernel
theorem dX12_wish_23 : decode cX12_wish 23 = .ok (.getfield 22, 3) := by decide +kernel
theorem dX12_wish_26 : decode cX12_wish 26 = .ok (.iconst 3, 1) := by decide +kernel
theorem dX12_wish_27 : decode cX12_wish 27 = .ok (.iload_n 1, 1) := by decide +kernel
theorem dX12_wish_28 : decode cX12_wish 28 = .ok (.imul, 1) := by decide +kernel
theorem dX12_wish_29 : decode cX12_wish 29 = .ok (.iload_n 2, 1) := by decide +kernel
theorem dX12_wish_30 : decode cX12_wish 30 = .ok (.iadd, 1) := by decide +kernel
theorem dX12_wish_31 : decode cX12_wish 31 = .ok (.iaload, 1) := by decide +kernel
theorem dX12_wish_32 : decode cX12_wish 32 = .ok (.goto 4, 3) := by decide +kernel
theorem dX12_wish_35 : decode cX12_wish 35 = .ok (.iconst (-1), 1) := by decide +kernel
theorem dX12_wish_36 : decode cX12_wish 36 = .ok (.ireturn, 1) := by decide +kernel
theorem dX12_sitting_0 : decode cX12_sitting 0 = .ok (.aload_n 0, 1) := by decide +kernel
theorem dX12_sitting_1 : decode cX12_sitting 1 = .ok (.iconst 0, 1) := by decide +kernel
theorem dX12_sitting_2 : decode cX12_sitting 2 = .ok (.putfield 157, 3) := by decide +kernel
theorem dX12_sitting_5 : decode cX12_sitting 5 = .ok (.aload_n 0, 1) := by decide +kernel
theorem dX12_sitting_6 : decode cX12_sitting 6 = .ok (.iload_n 1, 1) := by decide +kernel
theorem dX12_sitting_7 : decode cX12_sitting 7 = .ok (.invokevirtual 417, 3) := by decide +kernel
theorem dX12_sitting_10 : decode cX12_sitting 10 = .ok (.ifCond .ne 5, 3) := by decide +kernel
theorem dX12_sitting_13 : decode cX12_sitting 13 = .ok (.iconst (-1), 1) := by decide +kernel
theorem dX12_sitting_14 : decode cX12_sitting 14 = .ok (.ireturn, 1) := by decide +kernel
theorem dX12_sitting_15 : decode cX12_sitting 15 = .ok (.iload_n 2, 1) := by decide +kernel
theorem dX12_sitting_16 : decode cX12_sitting 16 = .ok (.tableswitch 135 0 8 #[52, 59, 66, 73, 79, 86, 114, 121, 128], 52) := by decide +kernel
theorem dX12_sitting_68 : decode cX12_sitting 68 = .ok (.aload_n 0, 1) := by decide +kernel
theorem dX12_sitting_69 : decode cX12_sitting 69 = .ok (.getfield 34, 3) := by decide +kernel
theorem dX12_sitting_72 : decode cX12_sitting 72 = .ok (.iload_n 1, 1) := by decide +kernel
theorem dX12_sitting_73 : decode cX12_sitting 73 = .ok (.iaload, 1) := by decide +kernel
theorem dX12_sitting_74 : decode cX12_sitting 74 = .ok (.ireturn, 1) := by decide +kernel
theorem dX12_sitting_75 : decode cX12_sitting 75 = .ok (.aload_n 0, 1) := by decide +kernel
theorem dX12_sitting_76 : decode cX12_sitting 76 = .ok (.getfield 96, 3) := by decide +kernel
theorem dX12_sitting_79 : decode cX12_sitting 79 = .ok (.iload_n 1, 1) := by decide +kernel
theorem dX12_sitting_80 : decode cX12_sitting 80 = .ok (.iaload, 1) := by decide +kernel
theorem dX12_sitting_81 : decode cX12_sitting 81 = .ok (.ireturn, 1) := by decide +kernel
theorem dX12_sitting_82 : decode cX12_sitting 82 = .ok (.aload_n 0, 1) := by decide +kernel
theorem dX12_sitting_83 : decode cX12_sitting 83 = .ok (.getfield 93, 3) := by decide +kernel
theorem dX12_sitting_86 : decode cX12_sitting 86 = .ok (.iload_n 1, 1) := by decide +kernel
theorem dX12_sitting_87 : decode cX12_sitting 87 = .ok (.iaload, 1) := by decide +kernel
theorem dX12_sitting_88 : decode cX12_sitting 88 = .ok (.ireturn, 1) := by decide +kernel
theorem dX12_sitting_89 : decode cX12_sitting 89 = .ok (.aload_n 0, 1) := by decide +kernel
theorem dX12_sitting_90 : decode cX12_sitting 90 = .ok (.iload_n 1, 1) := by decide +kernel
theorem dX12_sitting_91 : decode cX12_sitting 91 = .ok (.invokevirtual 420, 3) := by decide +kernel
theorem dX12_sitting_94 : decode cX12_sitting 94 = .ok (.ireturn, 1) := by decide +kernel
theorem dX12_sitting_95 : decode cX12_sitting 95 = .ok (.aload_n 0, 1) := by decide +kernel
theorem dX12_sitting_96 : decode cX12_sitting 96 = .ok (.getfield 99, 3) := by decide +kernel
theorem dX12_sitting_99 : decode cX12_sitting 99 = .ok (.iload_n 1, 1) := by decide +kernel
theorem dX12_sitting_100 : decode cX12_sitting 100 = .ok (.iaload, 1) := by decide +kernel
theorem dX12_sitting_101 : decode cX12_sitting 101 = .ok (.ireturn, 1) := by decide +kernel
theorem dX12_sitting_102 : decode cX12_sitting 102 = .ok (.aload_n 0, 1) := by decide +kernel
theorem dX12_sitting_103 : decode cX12_sitting 103 = .ok (.getfield 99, 3) := by decide +kernel
theorem dX12_sitting_106 : decode cX12_sitting 106 = .ok (.iload_n 1, 1) := by decide +kernel
theorem dX12_sitting_107 : decode cX12_sitting 107 = .ok (.iaload, 1) := by decide +kernel
theorem dX12_sitting_108 : decode cX12_sitting 108 = .ok (.iconst (-1), 1) := by decide +kernel
theorem dX12_sitting_109 : decode cX12_sitting 109 = .ok (.if_icmp .ne 7, 3) := by decide +kernel
theorem dX12_sitting_112 : decode cX12_sitting 112 = .ok (.iconst (-1), 1) := by decide +kernel
theorem dX12_sitting_113 : decode cX12_sitting 113 = .ok (.goto 16, 3) := by decide +kernel
theorem dX12_sitting_116 : decode cX12_sitting 116 = .ok (.aload_n 0, 1) := by decide +kernel
theorem dX12_sitting_117 : decode cX12_sitting 117 = .ok (.getfield 99, 3) := by decide +kernel
theorem dX12_sitting_120 : decode cX12_sitting 120 = .ok (.iload_n 1, 1) := by decide +kernel
theorem dX12_sitting_121 : decode cX12_sitting 121 = .ok (.iaload, 1) := by decide +kernel
theorem dX12_sitting_122 : decode cX12_sitting 122 = .ok (.aload_n 0, 1) := by decide +kernel
theorem dX12_sitting_123 : decode cX12_sitting 123 = .ok (.getfield 34, 3) := by decide +kernel
theorem dX12_sitting_126 : decode cX12_sitting 126 = .ok (.iload_n 1, 1) := by decide +kernel
theorem dX12_sitting_127 : decode cX12_sitting 127 = .ok (.iaload, 1) := by decide +kernel
theorem dX12_sitting_128 : decode cX12_sitting 128 = .ok (.isub, 1) := by decide +kernel
theorem dX12_sitting_129 : decode cX12_sitting 129 = .ok (.ireturn, 1) := by decide +kernel
theorem dX12_sitting_130 : decode cX12_sitting 130 = .ok (.aload_n 0, 1) := by decide +kernel
theorem dX12_sitting_131 : decode cX12_sitting 131 = .ok (.getfield 102, 3) := by decide +kernel
theorem dX12_sitting_134 : decode cX12_sitting 134 = .ok (.iload_n 1, 1) := by decide +kernel
theorem dX12_sitting_135 : decode cX12_sitting 135 = .ok (.iaload, 1) := by decide +kernel
theorem dX12_sitting_136 : decode cX12_sitting 136 = .ok (.ireturn, 1) := by decide +kernel
theorem dX12_sitting_137 : decode cX12_sitting 137 = .ok (.aload_n 0, 1) := by decide +kernel
theorem dX12_sitting_138 : decode cX12_sitting 138 = .ok (.getfield 105, 3) := by decide +kernel
theorem dX12_sitting_141 : decode cX12_sitting 141 = .ok (.iload_n 1, 1) := by decide +kernel
theorem dX12_sitting_142 : decode cX12_sitting 142 = .ok (.iaload, 1) := by decide +kernel
theorem dX12_sitting_143 : decode cX12_sitting 143 = .ok (.ireturn, 1) := by decide +kernel
theorem dX12_sitting_144 : decode cX12_sitting 144 = .ok (.aload_n 0, 1) := by decide +kernel
theorem dX12_sitting_145 : decode cX12_sitting 145 = .ok (.getfield 108, 3) := by decide +kernel
theorem dX12_sitting_148 : decode cX12_sitting 148 = .ok (.iload_n 1, 1) := by decide +kernel
theorem dX12_sitting_149 : decode cX12_sitting 149 = .ok (.iaload, 1) := by decide +kernel
theorem dX12_sitting_150 : decode cX12_sitting 150 = .ok (.ireturn, 1) := by decide +kernel
theorem dX12_sitting_151 : decode cX12_sitting 151 = .ok (.iconst (-1), 1) := by decide +kernel
theorem dX12_sitting_152 : decode cX12_sitting 152 = .ok (.ireturn, 1) := by decide +kernel
theorem dX12_law_0 : decode cX12_law 0 = .ok (.aload_n 0, 1) := by decide +kernel
theorem dX12_law_1 : decode cX12_law 1 = .ok (.iconst 0, 1) := by decide +kernel
theorem dX12_law_2 : decode cX12_law 2 = .ok (.putfield 157, 3) := by decide +kernel
theorem dX12_law_5 : decode cX12_law 5 = .ok (.iload_n 1, 1) := by decide +kernel
theorem dX12_law_6 : decode cX12_law 6 = .ok (.ifCond .lt 45, 3) := by decide +kernel
theorem dX12_law_9 : decode cX12_law 9 = .ok (.iload_n 1, 1) := by decide +kernel
theorem dX12_law_10 : decode cX12_law 10 = .ok (.iconst 2, 1) := by decide +kernel
theorem dX12_law_11 : decode cX12_law 11 = .ok (.if_icmp .gt 40, 3) := by decide +kernel
theorem dX12_law_14 : decode cX12_law 14 = .ok (.aload_n 0, 1) := by decide +kernel
theorem dX12_law_15 : decode cX12_law 15 = .ok (.iload_n 1, 1) := by decide +kernel
theorem dX12_law_16 : decode cX12_law 16 = .ok (.invokevirtual 339, 3) := by decide +kernel
theorem dX12_law_19 : decode cX12_law 19 = .ok (.ifCond .eq 32, 3) := by decide +kernel
theorem dX12_law_22 : decode cX12_law 22 = .ok (.aload_n 0, 1) := by decide +kernel
theorem dX12_law_23 : decode cX12_law 23 = .ok (.iload_n 2, 1) := by decide +kernel
theorem dX12_law_24 : decode cX12_law 24 = .ok (.invokevirtual 414, 3) := by decide +kernel
theorem dX12_law_27 : decode cX12_law 27 = .ok (.ifCond .eq 24, 3) := by decide +kernel
theorem dX12_law_30 : decode cX12_law 30 = .ok (.aload_n 0, 1) := by decide +kernel
theorem dX12_law_31 : decode cX12_law 31 = .ok (.iload_n 3, 1) := by decide +kernel
theorem dX12_law_32 : decode cX12_law 32 = .ok (.invokevirtual 417, 3) := by decide +kernel
theorem dX12_law_35 : decode cX12_law 35 = .ok (.ifCond .eq 16, 3) := by decide +kernel
theorem dX12_law_38 : decode cX12_law 38 = .ok (.iload 4, 2) := by decide +kernel
theorem dX12_law_40 : decode cX12_law 40 = .ok (.ifCond .lt 11, 3) := by decide +kernel
theorem dX12_law_43 : decode cX12_law 43 = .ok (.iload 4, 2) := by decide +kernel
theorem dX12_law_45 : decode cX12_law 45 = .ok (.sipush 999, 3) := by decide +kernel
theorem dX12_law_48 : decode cX12_law 48 = .ok (.if_icmp .le 7, 3) := by decide +kernel
theorem dX12_law_51 : decode cX12_law 51 = .ok (.ldc2_w 425, 3) := by decide +kernel
theorem dX12_law_54 : decode cX12_law 54 = .ok (.lreturn, 1) := by decide +kernel
theorem dX12_law_55 : decode cX12_law 55 = .ok (.aload_n 0, 1) := by decide +kernel
theorem dX12_law_56 : decode cX12_law 56 = .ok (.iconst 0, 1) := by decide +kernel
theorem dX12_law_57 : decode cX12_law 57 = .ok (.iload_n 2, 1) := by decide +kernel
theorem dX12_law_58 : decode cX12_law 58 = .ok (.iload_n 3, 1) := by decide +kernel
theorem dX12_law_59 : decode cX12_law 59 = .ok (.iload 4, 2) := by decide +kernel
theorem dX12_law_61 : decode cX12_law 61 = .ok (.invokevirtual 351, 3) := by decide +kernel
theorem dX12_law_64 : decode cX12_law 64 = .ok (.aload_n 0, 1) := by decide +kernel
theorem dX12_law_65 : decode cX12_law 65 = .ok (.iload_n 1, 1) := by decide +kernel
theorem dX12_law_66 : decode cX12_law 66 = .ok (.invokevirtual 342, 3) := by decide +kernel
theorem dX12_law_69 : decode cX12_law 69 = .ok (.ifCond .eq 12, 3) := by decide +kernel
theorem dX12_law_72 : decode cX12_law 72 = .ok (.aload_n 0, 1) := by decide +kernel
theorem dX12_law_73 : decode cX12_law 73 = .ok (.getfield 60, 3) := by decide +kernel
theorem dX12_law_76 : decode cX12_law 76 = .ok (.iconst 0, 1) := by decide +kernel
theorem dX12_law_77 : decode cX12_law 77 = .ok (.laload, 1) := by decide +kernel
theorem dX12_law_78 : decode cX12_law 78 = .ok (.goto 6, 3) := by decide +kernel
theorem dX12_law_81 : decode cX12_law 81 = .ok (.ldc2_w 425, 3) := by decide +kernel
theorem dX12_law_84 : decode cX12_law 84 = .ok (.lreturn, 1) := by decide +kernel
theorem dX12_keepNow_0 : decode cX12_keepNow 0 = .ok (.aload_n 0, 1) := by decide +kernel
theorem dX12_keepNow_1 : decode cX12_keepNow 1 = .ok (.getfield 310, 3) := by decide +kernel
theorem dX12_keepNow_4 : decode cX12_keepNow 4 = .ok (.bipush 20, 2) := by decide +kernel
theorem dX12_keepNow_6 : decode cX12_keepNow 6 = .ok (.if_icmp .ne 39, 3) := by decide +kernel
theorem dX12_keepNow_9 : decode cX12_keepNow 9 = .ok (.iconst 1, 1) := by decide +kernel
theorem dX12_keepNow_10 : decode cX12_keepNow 10 = .ok (.istore_n 1, 1) := by decide +kernel
theorem dX12_keepNow_11 : decode cX12_keepNow 11 = .ok (.iload_n 1, 1) := by decide +kernel
theorem dX12_keepNow_12 : decode cX12_keepNow 12 = .ok (.bipush 20, 2) := by decide +kernel
theorem dX12_keepNow_14 : decode cX12_keepNow 14 = .ok (.if_icmp .ge 21, 3) := by decide +kernel
theorem dX12_keepNow_17 : decode cX12_keepNow 17 = .ok (.aload_n 0, 1) := by decide +kernel
theorem dX12_keepNow_18 : decode cX12_keepNow 18 = .ok (.iconst 3, 1) := by decide +kernel
theorem dX12_keepNow_19 : decode cX12_keepNow 19 = .ok (.iload_n 1, 1) := by decide +kernel
theorem dX12_keepNow_20 : decode cX12_keepNow 20 = .ok (.iadd, 1) := by decide +kernel
theorem dX12_keepNow_21 : decode cX12_keepNow 21 = .ok (.iconst 1, 1) := by decide +kernel
theorem dX12_keepNow_22 : decode cX12_keepNow 22 = .ok (.isub, 1) := by decide +kernel
theorem dX12_keepNow_23 : decode cX12_keepNow 23 = .ok (.iconst 3, 1) := by decide +kernel
theorem dX12_keepNow_24 : decode cX12_keepNow 24 = .ok (.iload_n 1, 1) := by decide +kernel
theorem dX12_keepNow_25 : decode cX12_keepNow 25 = .ok (.iadd, 1) := by decide +kernel
theorem dX12_keepNow_26 : decode cX12_keepNow 26 = .ok (.invokevirtual 407, 3) := by decide +kernel
theorem dX12_keepNow_29 : decode cX12_keepNow 29 = .ok (.iinc 1 1, 3) := by decide +kernel
theorem dX12_keepNow_32 : decode cX12_keepNow 32 = .ok (.goto (-21), 3) := by decide +kernel
theorem dX12_keepNow_35 : decode cX12_keepNow 35 = .ok (.aload_n 0, 1) := by decide +kernel
theorem dX12_keepNow_36 : decode cX12_keepNow 36 = .ok (.dup, 1) := by decide +kernel
theorem dX12_keepNow_37 : decode cX12_keepNow 37 = .ok (.getfield 310, 3) := by decide +kernel
theorem dX12_keepNow_40 : decode cX12_keepNow 40 = .ok (.iconst 1, 1) := by decide +kernel
theorem dX12_keepNow_41 : decode cX12_keepNow 41 = .ok (.isub, 1) := by decide +kernel
theorem dX12_keepNow_42 : decode cX12_keepNow 42 = .ok (.putfield 310, 3) := by decide +kernel
theorem dX12_keepNow_45 : decode cX12_keepNow 45 = .ok (.aload_n 0, 1) := by decide +kernel
theorem dX12_keepNow_46 : decode cX12_keepNow 46 = .ok (.iconst 3, 1) := by decide +kernel
theorem dX12_keepNow_47 : decode cX12_keepNow 47 = .ok (.aload_n 0, 1) := by decide +kernel
theorem dX12_keepNow_48 : decode cX12_keepNow 48 = .ok (.getfield 310, 3) := by decide +kernel
theorem dX12_keepNow_51 : decode cX12_keepNow 51 = .ok (.iadd, 1) := by decide +kernel
theorem dX12_keepNow_52 : decode cX12_keepNow 52 = .ok (.iconst 0, 1) := by decide +kernel
theorem dX12_keepNow_53 : decode cX12_keepNow 53 = .ok (.invokevirtual 407, 3) := by decide +kernel
theorem dX12_keepNow_56 : decode cX12_keepNow 56 = .ok (.aload_n 0, 1) := by decide +kernel
theorem dX12_keepNow_57 : decode cX12_keepNow 57 = .ok (.dup, 1) := by decide +kernel
theorem dX12_keepNow_58 : decode cX12_keepNow 58 = .ok (.getfield 310, 3) := by decide +kernel
theorem dX12_keepNow_61 : decode cX12_keepNow 61 = .ok (.iconst 1, 1) := by decide +kernel
theorem dX12_keepNow_62 : decode cX12_keepNow 62 = .ok (.iadd, 1) := by decide +kernel
theorem dX12_keepNow_63 : decode cX12_keepNow 63 = .ok (.putfield 310, 3) := by decide +kernel
theorem dX12_keepNow_66 : decode cX12_keepNow 66 = .ok (.return_, 1) := by decide +kernel
theorem dX12_give_0 : decode cX12_give 0 = .ok (.aload_n 0, 1) := by decide +kernel
theorem dX12_give_1 : decode cX12_give 1 = .ok (.iconst 0, 1) := by decide +kernel
theorem dX12_give_2 : decode cX12_give 2 = .ok (.putfield 157, 3) := by decide +kernel
theorem dX12_give_5 : decode cX12_give 5 = .ok (.aload_n 0, 1) := by decide +kernel
theorem dX12_give_6 : decode cX12_give 6 = .ok (.iload_n 1, 1) := by decide +kernel
theorem dX12_give_7 : decode cX12_give 7 = .ok (.invokevirtual 414, 3) := by decide +kernel
theorem dX12_give_10 : decode cX12_give 10 = .ok (.ifCond .eq 26, 3) := by decide +kernel
theorem dX12_give_13 : decode cX12_give 13 = .ok (.iload_n 2, 1) := by decide +kernel
theorem dX12_give_14 : decode cX12_give 14 = .ok (.iconst (-1), 1) := by decide +kernel
theorem dX12_give_15 : decode cX12_give 15 = .ok (.if_icmp .eq 11, 3) := by decide +kernel
theorem dX12_give_18 : decode cX12_give 18 = .ok (.aload_n 0, 1) := by decide +kernel
theorem dX12_give_19 : decode cX12_give 19 = .ok (.iload_n 2, 1) := by decide +kernel
theorem dX12_give_20 : decode cX12_give 20 = .ok (.invokevirtual 417, 3) := by decide +kernel
theorem dX12_give_23 : decode cX12_give 23 = .ok (.ifCond .eq 13, 3) := by decide +kernel
theorem dX12_give_26 : decode cX12_give 26 = .ok (.aload_n 0, 1) := by decide +kernel
theorem dX12_give_27 : decode cX12_give 27 = .ok (.getfield 78, 3) := by decide +kernel
theorem dX12_give_30 : decode cX12_give 30 = .ok (.iload_n 1, 1) := by decide +kernel
theorem dX12_give_31 : decode cX12_give 31 = .ok (.iaload, 1) := by decide +kernel
theorem dX12_give_32 : decode cX12_give 32 = .ok (.iload_n 2, 1) := by decide +kernel
theorem dX12_give_33 : decode cX12_give 33 = .ok (.if_icmp .ne 5, 3) := by decide +kernel
theorem dX12_give_36 : decode cX12_give 36 = .ok (.iconst 0, 1) := by decide +kernel
theorem dX12_give_37 : decode cX12_give 37 = .ok (.ireturn, 1) := by decide +kernel
theorem dX12_give_38 : decode cX12_give 38 = .ok (.iload_n 2, 1) := by decide +kernel
theorem dX12_give_39 : decode cX12_give 39 = .ok (.iconst (-1), 1) := by decide +kernel
theorem dX12_give_40 : decode cX12_give 40 = .ok (.if_icmp .eq 34, 3) := by decide +kernel
theorem dX12_give_43 : decode cX12_give 43 = .ok (.aload_n 0, 1) := by decide +kernel
theorem dX12_give_44 : decode cX12_give 44 = .ok (.iload_n 2, 1) := by decide +kernel
theorem dX12_give_45 : decode cX12_give 45 = .ok (.invokevirtual 420, 3) := by decide +kernel
theorem dX12_give_48 : decode cX12_give 48 = .ok (.aload_n 0, 1) := by decide +kernel
theorem dX12_give_49 : decode cX12_give 49 = .ok (.getfield 19, 3) := by decide +kernel
theorem dX12_give_52 : decode cX12_give 52 = .ok (.iload_n 1, 1) := by decide +kernel
theorem dX12_give_53 : decode cX12_give 53 = .ok (.iaload, 1) := by decide +kernel
theorem dX12_give_54 : decode cX12_give 54 = .ok (.iadd, 1) := by decide +kernel
theorem dX12_give_55 : decode cX12_give 55 = .ok (.aload_n 0, 1) := by decide +kernel
theorem dX12_give_56 : decode cX12_give 56 = .ok (.getfield 13, 3) := by decide +kernel
theorem dX12_give_59 : decode cX12_give 59 = .ok (.iconst 1, 1) := by decide +kernel
theorem dX12_give_60 : decode cX12_give 60 = .ok (.iaload, 1) := by decide +kernel
theorem dX12_give_61 : decode cX12_give 61 = .ok (.aload_n 0, 1) := by decide +kernel
theorem dX12_give_62 : decode cX12_give 62 = .ok (.getfield 13, 3) := by decide +kernel
theorem dX12_give_65 : decode cX12_give 65 = .ok (.bipush 6, 2) := by decide +kernel
theorem dX12_give_67 : decode cX12_give 67 = .ok (.iaload, 1) := by decide +kernel
theorem dX12_give_68 : decode cX12_give 68 = .ok (.iadd, 1) := by decide +kernel
theorem dX12_give_69 : decode cX12_give 69 = .ok (.if_icmp .le 5, 3) := by decide +kernel
theorem dX12_give_72 : decode cX12_give 72 = .ok (.iconst 0, 1) := by decide +kernel
theorem dX12_give_73 : decode cX12_give 73 = .ok (.ireturn, 1) := by decide +kernel
theorem dX12_give_74 : decode cX12_give 74 = .ok (.aload_n 0, 1) := by decide +kernel
theorem dX12_give_75 : decode cX12_give 75 = .ok (.invokevirtual 427, 3) := by decide +kernel
theorem dX12_give_78 : decode cX12_give 78 = .ok (.aload_n 0, 1) := by decide +kernel
theorem dX12_give_79 : decode cX12_give 79 = .ok (.getfield 78, 3) := by decide +kernel
theorem dX12_give_82 : decode cX12_give 82 = .ok (.iload_n 1, 1) := by decide +kernel
theorem dX12_give_83 : decode cX12_give 83 = .ok (.iload_n 2, 1) := by decide +kernel
theorem dX12_give_84 : decode cX12_give 84 = .ok (.iastore, 1) := by decide +kernel
theorem dX12_give_85 : decode cX12_give 85 = .ok (.iconst 1, 1) := by decide +kernel
theorem dX12_give_86 : decode cX12_give 86 = .ok (.ireturn, 1) := by decide +kernel
theorem dX12_sign__0 : decode cX12_sign_ 0 = .ok (.aload_n 0, 1) := by decide +kernel
theorem dX12_sign__1 : decode cX12_sign_ 1 = .ok (.iconst 0, 1) := by decide +kernel
theorem dX12_sign__2 : decode cX12_sign_ 2 = .ok (.putfield 157, 3) := by decide +kernel
theorem dX12_sign__5 : decode cX12_sign_ 5 = .ok (.aload_n 0, 1) := by decide +kernel
theorem dX12_sign__6 : decode cX12_sign_ 6 = .ok (.iload_n 1, 1) := by decide +kernel
theorem dX12_sign__7 : decode cX12_sign_ 7 = .ok (.invokevirtual 417, 3) := by decide +kernel
theorem dX12_sign__10 : decode cX12_sign_ 10 = .ok (.ifCond .eq 22, 3) := by decide +kernel
theorem dX12_sign__13 : decode cX12_sign_ 13 = .ok (.iload_n 2, 1) := by decide +kernel
theorem dX12_sign__14 : decode cX12_sign_ 14 = .ok (.ifCond .lt 18, 3) := by decide +kernel
theorem dX12_sign__17 : decode cX12_sign_ 17 = .ok (.iload_n 2, 1) := by decide +kernel
theorem dX12_sign__18 : decode cX12_sign_ 18 = .ok (.iconst 3, 1) := by decide +kernel
theorem dX12_sign__19 : decode cX12_sign_ 19 = .ok (.if_icmp .gt 13, 3) := by decide +kernel
theorem dX12_sign__22 : decode cX12_sign_ 22 = .ok (.aload_n 0, 1) := by decide +kernel
theorem dX12_sign__23 : decode cX12_sign_ 23 = .ok (.getfield 93, 3) := by decide +kernel
theorem dX12_sign__26 : decode cX12_sign_ 26 = .ok (.iload_n 1, 1) := by decide +kernel
theorem dX12_sign__27 : decode cX12_sign_ 27 = .ok (.iaload, 1) := by decide +kernel
theorem dX12_sign__28 : decode cX12_sign_ 28 = .ok (.iload_n 2, 1) := by decide +kernel
theorem dX12_sign__29 : decode cX12_sign_ 29 = .ok (.if_icmp .ne 5, 3) := by decide +kernel
theorem dX12_sign__32 : decode cX12_sign_ 32 = .ok (.iconst 0, 1) := by decide +kernel
theorem dX12_sign__33 : decode cX12_sign_ 33 = .ok (.ireturn, 1) := by decide +kernel
theorem dX12_sign__34 : decode cX12_sign_ 34 = .ok (.aload_n 0, 1) := by decide +kernel
theorem dX12_sign__35 : decode cX12_sign_ 35 = .ok (.invokevirtual 427, 3) := by decide +kernel
theorem dX12_sign__38 : decode cX12_sign_ 38 = .ok (.aload_n 0, 1) := by decide +kernel
theorem dX12_sign__39 : decode cX12_sign_ 39 = .ok (.getfield 93, 3) := by decide +kernel
theorem dX12_sign__42 : decode cX12_sign_ 42 = .ok (.iload_n 1, 1) := by decide +kernel
theorem dX12_sign__43 : decode cX12_sign_ 43 = .ok (.iload_n 2, 1) := by decide +kernel
theorem dX12_sign__44 : decode cX12_sign_ 44 = .ok (.iastore, 1) := by decide +kernel
theorem dX12_sign__45 : decode cX12_sign_ 45 = .ok (.iconst 1, 1) := by decide +kernel
theorem dX12_sign__46 : decode cX12_sign_ 46 = .ok (.ireturn, 1) := by decide +kernel
theorem dX12_price_0 : decode cX12_price 0 = .ok (.aload_n 0, 1) := by decide +kernel
theorem dX12_price_1 : decode cX12_price 1 = .ok (.iconst 0, 1) := by decide +kernel
theorem dX12_price_2 : decode cX12_price 2 = .ok (.putfield 157, 3) := by decide +kernel
theorem dX12_price_5 : decode cX12_price 5 = .ok (.aload_n 0, 1) := by decide +kernel
theorem dX12_price_6 : decode cX12_price 6 = .ok (.iload_n 1, 1) := by decide +kernel
theorem dX12_price_7 : decode cX12_price 7 = .ok (.invokevirtual 417, 3) := by decide +kernel
theorem dX12_price_10 : decode cX12_price 10 = .ok (.ifCond .eq 23, 3) := by decide +kernel
theorem dX12_price_13 : decode cX12_price 13 = .ok (.iload_n 2, 1) := by decide +kernel
theorem dX12_price_14 : decode cX12_price 14 = .ok (.ifCond .lt 19, 3) := by decide +kernel
theorem dX12_price_17 : decode cX12_price 17 = .ok (.iload_n 2, 1) := by decide +kernel
theorem dX12_price_18 : decode cX12_price 18 = .ok (.bipush 99, 2) := by decide +kernel
theorem dX12_price_20 : decode cX12_price 20 = .ok (.if_icmp .gt 13, 3) := by decide +kernel
theorem dX12_price_23 : decode cX12_price 23 = .ok (.aload_n 0, 1) := by decide +kernel
theorem dX12_price_24 : decode cX12_price 24 = .ok (.getfield 96, 3) := by decide +kernel
theorem dX12_price_27 : decode cX12_price 27 = .ok (.iload_n 1, 1) := by decide +kernel
theorem dX12_price_28 : decode cX12_price 28 = .ok (.iaload, 1) := by decide +kernel
theorem dX12_price_29 : decode cX12_price 29 = .ok (.iload_n 2, 1) := by decide +kernel
theorem dX12_price_30 : decode cX12_price 30 = .ok (.if_icmp .ne 5, 3) := by decide +kernel
theorem dX12_price_33 : decode cX12_price 33 = .ok (.iconst 0, 1) := by decide +kernel
theorem dX12_price_34 : decode cX12_price 34 = .ok (.ireturn, 1) := by decide +kernel
theorem dX12_price_35 : decode cX12_price 35 = .ok (.aload_n 0, 1) := by decide +kernel
theorem dX12_price_36 : decode cX12_price 36 = .ok (.invokevirtual 427, 3) := by decide +kernel
theorem dX12_price_39 : decode cX12_price 39 = .ok (.aload_n 0, 1) := by decide +kernel
theorem dX12_price_40 : decode cX12_price 40 = .ok (.getfield 96, 3) := by decide +kernel
theorem dX12_price_43 : decode cX12_price 43 = .ok (.iload_n 1, 1) := by decide +kernel
theorem dX12_price_44 : decode cX12_price 44 = .ok (.iload_n 2, 1) := by decide +kernel
theorem dX12_price_45 : decode cX12_price 45 = .ok (.iastore, 1) := by decide +kernel
theorem dX12_price_46 : decode cX12_price 46 = .ok (.iconst 1, 1) := by decide +kernel
theorem dX12_price_47 : decode cX12_price 47 = .ok (.ireturn, 1) := by decide +kernel
theorem dX12_days_0 : decode cX12_days 0 = .ok (.aload_n 0, 1) := by decide +kernel
theorem dX12_days_1 : decode cX12_days 1 = .ok (.iconst 0, 1) := by decide +kernel
theorem dX12_days_2 : decode cX12_days 2 = .ok (.putfield 157, 3) := by decide +kernel
theorem dX12_days_5 : decode cX12_days 5 = .ok (.iload_n 1, 1) := by decide +kernel
theorem dX12_days_6 : decode cX12_days 6 = .ok (.ifCond .lt 23, 3) := by decide +kernel
theorem dX12_days_9 : decode cX12_days 9 = .ok (.iload_n 1, 1) := by decide +kernel
theorem dX12_days_10 : decode cX12_days 10 = .ok (.bipush 99, 2) := by decide +kernel
theorem dX12_days_12 : decode cX12_days 12 = .ok (.if_icmp .gt 17, 3) := by decide +kernel
theorem dX12_days_15 : decode cX12_days 15 = .ok (.aload_n 0, 1) := by decide +kernel
theorem dX12_days_16 : decode cX12_days 16 = .ok (.getfield 63, 3) := by decide +kernel
theorem dX12_days_19 : decode cX12_days 19 = .ok (.iconst 0, 1) := by decide +kernel
theorem dX12_days_20 : decode cX12_days 20 = .ok (.iaload, 1) := by decide +kernel
theorem dX12_days_21 : decode cX12_days 21 = .ok (.iload_n 1, 1) := by decide +kernel
theorem dX12_days_22 : decode cX12_days 22 = .ok (.iadd, 1) := by decide +kernel
theorem dX12_days_23 : decode cX12_days 23 = .ok (.sipush 9999, 3) := by decide +kernel
theorem dX12_days_26 : decode cX12_days 26 = .ok (.if_icmp .le 5, 3) := by decide +kernel
theorem dX12_days_29 : decode cX12_days 29 = .ok (.iconst (-1), 1) := by decide +kernel
theorem dX12_days_30 : decode cX12_days 30 = .ok (.ireturn, 1) := by decide +kernel
theorem dX12_days_31 : decode cX12_days 31 = .ok (.iload_n 1, 1) := by decide +kernel
theorem dX12_days_32 : decode cX12_days 32 = .ok (.ifCond .le 8, 3) := by decide +kernel
theorem dX12_days_35 : decode cX12_days 35 = .ok (.aload_n 0, 1) := by decide +kernel
theorem dX12_days_36 : decode cX12_days 36 = .ok (.iconst 0, 1) := by decide +kernel
theorem dX12_days_37 : decode cX12_days 37 = .ok (.putfield 310, 3) := by decide +kernel
theorem dX12_days_40 : decode cX12_days 40 = .ok (.iconst 0, 1) := by decide +kernel
theorem dX12_days_41 : decode cX12_days 41 = .ok (.istore_n 2, 1) := by decide +kernel
theorem dX12_days_42 : decode cX12_days 42 = .ok (.iload_n 2, 1) := by decide +kernel
theorem dX12_days_43 : decode cX12_days 43 = .ok (.iload_n 1, 1) := by decide +kernel
theorem dX12_days_44 : decode cX12_days 44 = .ok (.if_icmp .ge 15, 3) := by decide +kernel
theorem dX12_days_47 : decode cX12_days 47 = .ok (.aload_n 0, 1) := by decide +kernel
theorem dX12_days_48 : decode cX12_days 48 = .ok (.iconst 0, 1) := by decide +kernel
theorem dX12_days_49 : decode cX12_days 49 = .ok (.iconst 1, 1) := by decide +kernel
theorem dX12_days_50 : decode cX12_days 50 = .ok (.invokevirtual 410, 3) := by decide +kernel
theorem dX12_days_53 : decode cX12_days 53 = .ok (.iinc 2 1, 3) := by decide +kernel
theorem dX12_days_56 : decode cX12_days 56 = .ok (.goto (-14), 3) := by decide +kernel
theorem dX12_days_59 : decode cX12_days 59 = .ok (.aload_n 0, 1) := by decide +kernel
theorem dX12_days_60 : decode cX12_days 60 = .ok (.getfield 63, 3) := by decide +kernel
theorem dX12_days_63 : decode cX12_days 63 = .ok (.iconst 0, 1) := by decide +kernel
theorem dX12_days_64 : decode cX12_days 64 = .ok (.iaload, 1) := by decide +kernel
theorem dX12_days_65 : decode cX12_days 65 = .ok (.ireturn, 1) := by decide +kernel
theorem dX12_empties_0 : decode cX12_empties 0 = .ok (.aload_n 0, 1) := by decide +kernel
theorem dX12_empties_1 : decode cX12_empties 1 = .ok (.iconst 0, 1) := by decide +kernel
theorem dX12_empties_2 : decode cX12_empties 2 = .ok (.putfield 157, 3) := by decide +kernel
theorem dX12_empties_5 : decode cX12_empties 5 = .ok (.aload_n 0, 1) := by decide +kernel
theorem dX12_empties_6 : decode cX12_empties 6 = .ok (.iload_n 1, 1) := by decide +kernel
theorem dX12_empties_7 : decode cX12_empties 7 = .ok (.invokevirtual 417, 3) := by decide +kernel
theorem dX12_empties_10 : decode cX12_empties 10 = .ok (.ifCond .ne 5, 3) := by decide +kernel
theorem dX12_empties_13 : decode cX12_empties 13 = .ok (.iconst (-1), 1) := by decide +kernel
theorem dX12_empties_14 : decode cX12_empties 14 = .ok (.ireturn, 1) := by decide +kernel
theorem dX12_empties_15 : decode cX12_empties 15 = .ok (.aload_n 0, 1) := by decide +kernel
theorem dX12_empties_16 : decode cX12_empties 16 = .ok (.invokevirtual 430, 3) := by decide +kernel
theorem dX12_empties_19 : decode cX12_empties 19 = .ok (.aload_n 0, 1) := by decide +kernel
theorem dX12_empties_20 : decode cX12_empties 20 = .ok (.getfield 13, 3) := by decide +kernel
theorem dX12_empties_23 : decode cX12_empties 23 = .ok (.iconst 1, 1) := by decide +kernel
theorem dX12_empties_24 : decode cX12_empties 24 = .ok (.iaload, 1) := by decide +kernel
theorem dX12_empties_25 : decode cX12_empties 25 = .ok (.aload_n 0, 1) := by decide +kernel
theorem dX12_empties_26 : decode cX12_empties 26 = .ok (.getfield 102, 3) := by decide +kernel
theorem dX12_empties_29 : decode cX12_empties 29 = .ok (.iconst 3, 1) := by decide +kernel
theorem dX12_empties_30 : decode cX12_empties 30 = .ok (.iload_n 1, 1) := by decide +kernel
theorem dX12_empties_31 : decode cX12_empties 31 = .ok (.iadd, 1) := by decide +kernel
theorem dX12_empties_32 : decode cX12_empties 32 = .ok (.iaload, 1) := by decide +kernel
theorem dX12_empties_33 : decode cX12_empties 33 = .ok (.isub, 1) := by decide +kernel
theorem dX12_empties_34 : decode cX12_empties 34 = .ok (.ireturn, 1) := by decide +kernel
theorem dX12_likes_0 : decode cX12_likes 0 = .ok (.aload_n 0, 1) := by decide +kernel
theorem dX12_likes_1 : decode cX12_likes 1 = .ok (.iconst 0, 1) := by decide +kernel
theorem dX12_likes_2 : decode cX12_likes 2 = .ok (.putfield 157, 3) := by decide +kernel
theorem dX12_likes_5 : decode cX12_likes 5 = .ok (.aload_n 0, 1) := by decide +kernel
theorem dX12_likes_6 : decode cX12_likes 6 = .ok (.iload_n 1, 1) := by decide +kernel
theorem dX12_likes_7 : decode cX12_likes 7 = .ok (.invokevirtual 414, 3) := by decide +kernel
theorem dX12_likes_10 : decode cX12_likes 10 = .ok (.ifCond .eq 22, 3) := by decide +kernel
theorem dX12_likes_13 : decode cX12_likes 13 = .ok (.aload_n 0, 1) := by decide +kernel
theorem dX12_likes_14 : decode cX12_likes 14 = .ok (.iload_n 2, 1) := by decide +kernel
theorem dX12_likes_15 : decode cX12_likes 15 = .ok (.invokevirtual 417, 3) := by decide +kernel
theorem dX12_likes_18 : decode cX12_likes 18 = .ok (.ifCond .eq 14, 3) := by decide +kernel
theorem dX12_likes_21 : decode cX12_likes 21 = .ok (.aload_n 0, 1) := by decide +kernel
theorem dX12_likes_22 : decode cX12_likes 22 = .ok (.iconst 0, 1) := by decide +kernel
theorem dX12_likes_23 : decode cX12_likes 23 = .ok (.iload_n 1, 1) := by decide +kernel
theorem dX12_likes_24 : decode cX12_likes 24 = .ok (.iload_n 2, 1) := by decide +kernel
theorem dX12_likes_25 : decode cX12_likes 25 = .ok (.iconst 0, 1) := by decide +kernel
theorem dX12_likes_26 : decode cX12_likes 26 = .ok (.invokevirtual 375, 3) := by decide +kernel
theorem dX12_likes_29 : decode cX12_likes 29 = .ok (.goto 4, 3) := by decide +kernel
theorem dX12_likes_32 : decode cX12_likes 32 = .ok (.iconst (-1), 1) := by decide +kernel
theorem dX12_likes_33 : decode cX12_likes 33 = .ok (.ireturn, 1) := by decide +kernel
theorem dX12_stays_0 : decode cX12_stays 0 = .ok (.aload_n 0, 1) := by decide +kernel
theorem dX12_stays_1 : decode cX12_stays 1 = .ok (.iconst 0, 1) := by decide +kernel
theorem dX12_stays_2 : decode cX12_stays 2 = .ok (.putfield 157, 3) := by decide +kernel
theorem dX12_stays_5 : decode cX12_stays 5 = .ok (.aload_n 0, 1) := by decide +kernel
theorem dX12_stays_6 : decode cX12_stays 6 = .ok (.iload_n 1, 1) := by decide +kernel
theorem dX12_stays_7 : decode cX12_stays 7 = .ok (.invokevirtual 414, 3) := by decide +kernel
theorem dX12_stays_10 : decode cX12_stays 10 = .ok (.ifCond .eq 22, 3) := by decide +kernel
theorem dX12_stays_13 : decode cX12_stays 13 = .ok (.aload_n 0, 1) := by decide +kernel
theorem dX12_stays_14 : decode cX12_stays 14 = .ok (.iload_n 2, 1) := by decide +kernel
theorem dX12_stays_15 : decode cX12_stays 15 = .ok (.invokevirtual 417, 3) := by decide +kernel
theorem dX12_stays_18 : decode cX12_stays 18 = .ok (.ifCond .eq 14, 3) := by decide +kernel
theorem dX12_stays_21 : decode cX12_stays 21 = .ok (.aload_n 0, 1) := by decide +kernel
theorem dX12_stays_22 : decode cX12_stays 22 = .ok (.iconst 0, 1) := by decide +kernel
theorem dX12_stays_23 : decode cX12_stays 23 = .ok (.iload_n 1, 1) := by decide +kernel
theorem dX12_stays_24 : decode cX12_stays 24 = .ok (.iload_n 2, 1) := by decide +kernel
theorem dX12_stays_25 : decode cX12_stays 25 = .ok (.iconst 0, 1) := by decide +kernel
theorem dX12_stays_26 : decode cX12_stays 26 = .ok (.invokevirtual 379, 3) := by decide +kernel
theorem dX12_stays_29 : decode cX12_stays 29 = .ok (.goto 4, 3) := by decide +kernel
theorem dX12_stays_32 : decode cX12_stays 32 = .ok (.iconst (-1), 1) := by decide +kernel
theorem dX12_stays_33 : decode cX12_stays 33 = .ok (.ireturn, 1) := by decide +kernel
theorem dX12_misses_0 : decode cX12_misses 0 = .ok (.aload_n 0, 1) := by decide +kernel
theorem dX12_misses_1 : decode cX12_misses 1 = .ok (.iconst 0, 1) := by decide +kernel
theorem dX12_misses_2 : decode cX12_misses 2 = .ok (.putfield 157, 3) := by decide +kernel
theorem dX12_misses_5 : decode cX12_misses 5 = .ok (.aload_n 0, 1) := by decide +kernel
theorem dX12_misses_6 : decode cX12_misses 6 = .ok (.iload_n 1, 1) := by decide +kernel
theorem dX12_misses_7 : decode cX12_misses 7 = .ok (.invokevirtual 414, 3) := by decide +kernel
theorem dX12_misses_10 : decode cX12_misses 10 = .ok (.ifCond .eq 22, 3) := by decide +kernel
theorem dX12_misses_13 : decode cX12_misses 13 = .ok (.aload_n 0, 1) := by decide +kernel
theorem dX12_misses_14 : decode cX12_misses 14 = .ok (.iload_n 2, 1) := by decide +kernel
theorem dX12_misses_15 : decode cX12_misses 15 = .ok (.invokevirtual 417, 3) := by decide +kernel
theorem dX12_misses_18 : decode cX12_misses 18 = .ok (.ifCond .eq 14, 3) := by decide +kernel
theorem dX12_misses_21 : decode cX12_misses 21 = .ok (.aload_n 0, 1) := by decide +kernel
theorem dX12_misses_22 : decode cX12_misses 22 = .ok (.iconst 0, 1) := by decide +kernel
theorem dX12_misses_23 : decode cX12_misses 23 = .ok (.iload_n 1, 1) := by decide +kernel
theorem dX12_misses_24 : decode cX12_misses 24 = .ok (.iload_n 2, 1) := by decide +kernel
theorem dX12_misses_25 : decode cX12_misses 25 = .ok (.iconst 0, 1) := by decide +kernel
theorem dX12_misses_26 : decode cX12_misses 26 = .ok (.invokevirtual 393, 3) := by decide +kernel
theorem dX12_misses_29 : decode cX12_misses 29 = .ok (.goto 4, 3) := by decide +kernel
theorem dX12_misses_32 : decode cX12_misses 32 = .ok (.iconst (-1), 1) := by decide +kernel
theorem dX12_misses_33 : decode cX12_misses 33 = .ok (.ireturn, 1) := by decide +kernel
theorem dX12_mostCross_0 : decode cX12_mostCross 0 = .ok (.aload_n 0, 1) := by decide +kernel
theorem dX12_mostCross_1 : decode cX12_mostCross 1 = .ok (.iconst 0, 1) := by decide +kernel
theorem dX12_mostCross_2 : decode cX12_mostCross 2 = .ok (.putfield 157, 3) := by decide +kernel
theorem dX12_mostCross_5 : decode cX12_mostCross 5 = .ok (.iload_n 1, 1) := by decide +kernel
theorem dX12_mostCross_6 : decode cX12_mostCross 6 = .ok (.ifCond .lt 17, 3) := by decide +kernel
theorem dX12_mostCross_9 : decode cX12_mostCross 9 = .ok (.iload_n 1, 1) := by decide +kernel
theorem dX12_mostCross_10 : decode cX12_mostCross 10 = .ok (.iconst 1, 1) := by decide +kernel
theorem dX12_mostCross_11 : decode cX12_mostCross 11 = .ok (.if_icmp .gt 12, 3) := by decide +kernel
theorem dX12_mostCross_14 : decode cX12_mostCross 14 = .ok (.aload_n 0, 1) := by decide +kernel
theorem dX12_mostCross_15 : decode cX12_mostCross 15 = .ok (.getfield 13, 3) := by decide +kernel
theorem dX12_mostCross_18 : decode cX12_mostCross 18 = .ok (.iconst 0, 1) := by decide +kernel
theorem dX12_mostCross_19 : decode cX12_mostCross 19 = .ok (.iaload, 1) := by decide +kernel
theorem dX12_mostCross_20 : decode cX12_mostCross 20 = .ok (.ifCond .ne 5, 3) := by decide +kernel
theorem dX12_mostCross_23 : decode cX12_mostCross 23 = .ok (.iconst (-1), 1) := by decide +kernel
theorem dX12_mostCross_24 : decode cX12_mostCross 24 = .ok (.ireturn, 1) := by decide +kernel
theorem dX12_mostCross_25 : decode cX12_mostCross 25 = .ok (.iconst 0, 1) := by decide +kernel
theorem dX12_mostCross_26 : decode cX12_mostCross 26 = .ok (.istore_n 2, 1) := by decide +kernel
theorem dX12_mostCross_27 : decode cX12_mostCross 27 = .ok (.iconst 1, 1) := by decide +kernel
theorem dX12_mostCross_28 : decode cX12_mostCross 28 = .ok (.istore_n 3, 1) := by decide +kernel
theorem dX12_mostCross_29 : decode cX12_mostCross 29 = .ok (.iload_n 3, 1) := by decide +kernel
theorem dX12_mostCross_30 : decode cX12_mostCross 30 = .ok (.aload_n 0, 1) := by decide +kernel
theorem dX12_mostCross_31 : decode cX12_mostCross 31 = .ok (.getfield 13, 3) := by decide +kernel
theorem dX12_mostCross_34 : decode cX12_mostCross 34 = .ok (.iconst 0, 1) := by decide +kernel
theorem dX12_mostCross_35 : decode cX12_mostCross 35 = .ok (.iaload, 1) := by decide +kernel
theorem dX12_mostCross_36 : decode cX12_mostCross 36 = .ok (.if_icmp .ge 26, 3) := by decide +kernel
theorem dX12_mostCross_39 : decode cX12_mostCross 39 = .ok (.aload_n 0, 1) := by decide +kernel
theorem dX12_mostCross_40 : decode cX12_mostCross 40 = .ok (.getfield 84, 3) := by decide +kernel
theorem dX12_mostCross_43 : decode cX12_mostCross 43 = .ok (.iload_n 3, 1) := by decide +kernel
theorem dX12_mostCross_44 : decode cX12_mostCross 44 = .ok (.iaload, 1) := by decide +kernel
theorem dX12_mostCross_45 : decode cX12_mostCross 45 = .ok (.aload_n 0, 1) := by decide +kernel
theorem dX12_mostCross_46 : decode cX12_mostCross 46 = .ok (.getfield 84, 3) := by decide +kernel
theorem dX12_mostCross_49 : decode cX12_mostCross 49 = .ok (.iload_n 2, 1) := by decide +kernel
theorem dX12_mostCross_50 : decode cX12_mostCross 50 = .ok (.iaload, 1) := by decide +kernel
theorem dX12_mostCross_51 : decode cX12_mostCross 51 = .ok (.if_icmp .le 5, 3) := by decide +kernel
theorem dX12_mostCross_54 : decode cX12_mostCross 54 = .ok (.iload_n 3, 1) := by decide +kernel
theorem dX12_mostCross_55 : decode cX12_mostCross 55 = .ok (.istore_n 2, 1) := by decide +kernel
theorem dX12_mostCross_56 : decode cX12_mostCross 56 = .ok (.iinc 3 1, 3) := by decide +kernel
theorem dX12_mostCross_59 : decode cX12_mostCross 59 = .ok (.goto (-30), 3) := by decide +kernel
theorem dX12_mostCross_62 : decode cX12_mostCross 62 = .ok (.iload_n 1, 1) := by decide +kernel
theorem dX12_mostCross_63 : decode cX12_mostCross 63 = .ok (.ifCond .ne 7, 3) := by decide +kernel
theorem dX12_mostCross_66 : decode cX12_mostCross 66 = .ok (.iload_n 2, 1) := by decide +kernel
theorem dX12_mostCross_67 : decode cX12_mostCross 67 = .ok (.goto 9, 3) := by decide +kernel
theorem dX12_mostCross_70 : decode cX12_mostCross 70 = .ok (.aload_n 0, 1) := by decide +kernel
theorem dX12_mostCross_71 : decode cX12_mostCross 71 = .ok (.getfield 84, 3) := by decide +kernel
theorem dX12_mostCross_74 : decode cX12_mostCross 74 = .ok (.iload_n 2, 1) := by decide +kernel
theorem dX12_mostCross_75 : decode cX12_mostCross 75 = .ok (.iaload, 1) := by decide +kernel
theorem dX12_mostCross_76 : decode cX12_mostCross 76 = .ok (.ireturn, 1) := by decide +kernel
theorem dX12_without_0 : decode cX12_without 0 = .ok (.aload_n 0, 1) := by decide +kernel
theorem dX12_without_1 : decode cX12_without 1 = .ok (.iconst 0, 1) := by decide +kernel
theorem dX12_without_2 : decode cX12_without 2 = .ok (.putfield 157, 3) := by decide +kernel
theorem dX12_without_5 : decode cX12_without 5 = .ok (.aload_n 0, 1) := by decide +kernel
theorem dX12_without_6 : decode cX12_without 6 = .ok (.iconst (-1), 1) := by decide +kernel
theorem dX12_without_7 : decode cX12_without 7 = .ok (.invokevirtual 420, 3) := by decide +kernel
theorem dX12_without_10 : decode cX12_without 10 = .ok (.ireturn, 1) := by decide +kernel
theorem dX12_mayHave_0 : decode cX12_mayHave 0 = .ok (.aload_n 0, 1) := by decide +kernel
theorem dX12_mayHave_1 : decode cX12_mayHave 1 = .ok (.getfield 120, 3) := by decide +kernel
theorem dX12_mayHave_4 : decode cX12_mayHave 4 = .ok (.iload_n 2, 1) := by decide +kernel
theorem dX12_mayHave_5 : decode cX12_mayHave 5 = .ok (.iaload, 1) := by decide +kernel
theorem dX12_mayHave_6 : decode cX12_mayHave 6 = .ok (.aload_n 0, 1) := by decide +kernel
theorem dX12_mayHave_7 : decode cX12_mayHave 7 = .ok (.getfield 19, 3) := by decide +kernel
theorem dX12_mayHave_10 : decode cX12_mayHave 10 = .ok (.iload_n 1, 1) := by decide +kernel
theorem dX12_mayHave_11 : decode cX12_mayHave 11 = .ok (.iaload, 1) := by decide +kernel
theorem dX12_mayHave_12 : decode cX12_mayHave 12 = .ok (.if_icmp .lt 29, 3) := by decide +kernel
theorem dX12_mayHave_15 : decode cX12_mayHave 15 = .ok (.aload_n 0, 1) := by decide +kernel
theorem dX12_mayHave_16 : decode cX12_mayHave 16 = .ok (.getfield 34, 3) := by decide +kernel
theorem dX12_mayHave_19 : decode cX12_mayHave 19 = .ok (.iload_n 2, 1) := by decide +kernel
theorem dX12_mayHave_20 : decode cX12_mayHave 20 = .ok (.iaload, 1) := by decide +kernel
theorem dX12_mayHave_21 : decode cX12_mayHave 21 = .ok (.aload_n 0, 1) := by decide +kernel
theorem dX12_mayHave_22 : decode cX12_mayHave 22 = .ok (.getfield 13, 3) := by decide +kernel
theorem dX12_mayHave_25 : decode cX12_mayHave 25 = .ok (.iconst 3, 1) := by decide +kernel
theorem dX12_mayHave_26 : decode cX12_mayHave 26 = .ok (.iaload, 1) := by decide +kernel
theorem dX12_mayHave_27 : decode cX12_mayHave 27 = .ok (.iadd, 1) := by decide +kernel
theorem dX12_mayHave_28 : decode cX12_mayHave 28 = .ok (.aload_n 0, 1) := by decide +kernel
theorem dX12_mayHave_29 : decode cX12_mayHave 29 = .ok (.getfield 25, 3) := by decide +kernel
theorem dX12_mayHave_32 : decode cX12_mayHave 32 = .ok (.iload_n 1, 1) := by decide +kernel
theorem dX12_mayHave_33 : decode cX12_mayHave 33 = .ok (.iaload, 1) := by decide +kernel
theorem dX12_mayHave_34 : decode cX12_mayHave 34 = .ok (.if_icmp .gt 7, 3) := by decide +kernel
theorem dX12_mayHave_37 : decode cX12_mayHave 37 = .ok (.iconst 1, 1) := by decide +kernel
theorem dX12_mayHave_38 : decode cX12_mayHave 38 = .ok (.goto 4, 3) := by decide +kernel
theorem dX12_mayHave_41 : decode cX12_mayHave 41 = .ok (.iconst 0, 1) := by decide +kernel
theorem dX12_mayHave_42 : decode cX12_mayHave 42 = .ok (.ireturn, 1) := by decide +kernel
theorem dX12_rows_0 : decode cX12_rows 0 = .ok (.iload_n 1, 1) := by decide +kernel
theorem dX12_rows_1 : decode cX12_rows 1 = .ok (.aload_n 0, 1) := by decide +kernel
theorem dX12_rows_2 : decode cX12_rows 2 = .ok (.getfield 13, 3) := by decide +kernel
theorem dX12_rows_5 : decode cX12_rows 5 = .ok (.iconst 0, 1) := by decide +kernel
theorem dX12_rows_6 : decode cX12_rows 6 = .ok (.iaload, 1) := by decide +kernel
theorem dX12_rows_7 : decode cX12_rows 7 = .ok (.if_icmp .ne 43, 3) := by decide +kernel
theorem dX12_rows_10 : decode cX12_rows 10 = .ok (.iload_n 2, 1) := by decide +kernel
theorem dX12_rows_11 : decode cX12_rows 11 = .ok (.aload_n 0, 1) := by decide +kernel
theorem dX12_rows_12 : decode cX12_rows 12 = .ok (.getfield 433, 3) := by decide +kernel
theorem dX12_rows_15 : decode cX12_rows 15 = .ok (.if_icmp .gt 4, 3) := by decide +kernel
theorem dX12_rows_18 : decode cX12_rows 18 = .ok (.return_, 1) := by decide +kernel
theorem dX12_rows_19 : decode cX12_rows 19 = .ok (.aload_n 0, 1) := by decide +kernel
theorem dX12_rows_20 : decode cX12_rows 20 = .ok (.iload_n 2, 1) := by decide +kernel
theorem dX12_rows_21 : decode cX12_rows 21 = .ok (.putfield 433, 3) := by decide +kernel
theorem dX12_rows_24 : decode cX12_rows 24 = .ok (.iconst 0, 1) := by decide +kernel
theorem dX12_rows_25 : decode cX12_rows 25 = .ok (.istore_n 3, 1) := by decide +kernel
theorem dX12_rows_26 : decode cX12_rows 26 = .ok (.iload_n 3, 1) := by decide +kernel
theorem dX12_rows_27 : decode cX12_rows 27 = .ok (.iload_n 1, 1) := by decide +kernel
theorem dX12_rows_28 : decode cX12_rows 28 = .ok (.if_icmp .ge 21, 3) := by decide +kernel
theorem dX12_rows_31 : decode cX12_rows 31 = .ok (.aload_n 0, 1) := by decide +kernel
theorem dX12_rows_32 : decode cX12_rows 32 = .ok (.getfield 126, 3) := by decide +kernel
theorem dX12_rows_35 : decode cX12_rows 35 = .ok (.iload_n 3, 1) := by decide +kernel
theorem dX12_rows_36 : decode cX12_rows 36 = .ok (.aload_n 0, 1) := by decide +kernel
theorem dX12_rows_37 : decode cX12_rows 37 = .ok (.getfield 123, 3) := by decide +kernel
theorem dX12_rows_40 : decode cX12_rows 40 = .ok (.iload_n 3, 1) := by decide +kernel
theorem dX12_rows_41 : decode cX12_rows 41 = .ok (.iaload, 1) := by decide +kernel
theorem dX12_rows_42 : decode cX12_rows 42 = .ok (.iastore, 1) := by decide +kernel
theorem dX12_rows_43 : decode cX12_rows 43 = .ok (.iinc 3 1, 3) := by decide +kernel
theorem dX12_rows_46 : decode cX12_rows 46 = .ok (.goto (-20), 3) := by decide +kernel
theorem dX12_rows_49 : decode cX12_rows 49 = .ok (.return_, 1) := by decide +kernel
theorem dX12_rows_50 : decode cX12_rows 50 = .ok (.aload_n 0, 1) := by decide +kernel
theorem dX12_rows_51 : decode cX12_rows 51 = .ok (.getfield 123, 3) := by decide +kernel
theorem dX12_rows_54 : decode cX12_rows 54 = .ok (.iload_n 1, 1) := by decide +kernel
theorem dX12_rows_55 : decode cX12_rows 55 = .ok (.iconst (-1), 1) := by decide +kernel
theorem dX12_rows_56 : decode cX12_rows 56 = .ok (.iastore, 1) := by decide +kernel
theorem dX12_rows_57 : decode cX12_rows 57 = .ok (.aload_n 0, 1) := by decide +kernel
theorem dX12_rows_58 : decode cX12_rows 58 = .ok (.iload_n 1, 1) := by decide +kernel
theorem dX12_rows_59 : decode cX12_rows 59 = .ok (.iconst 1, 1) := by decide +kernel
theorem dX12_rows_60 : decode cX12_rows 60 = .ok (.iadd, 1) := by decide +kernel
theorem dX12_rows_61 : decode cX12_rows 61 = .ok (.iload_n 2, 1) := by decide +kernel
theorem dX12_rows_62 : decode cX12_rows 62 = .ok (.invokevirtual 436, 3) := by decide +kernel
theorem dX12_rows_65 : decode cX12_rows 65 = .ok (.iconst 0, 1) := by decide +kernel
theorem dX12_rows_66 : decode cX12_rows 66 = .ok (.istore_n 3, 1) := by decide +kernel
theorem dX12_rows_67 : decode cX12_rows 67 = .ok (.iload_n 3, 1) := by decide +kernel
theorem dX12_rows_68 : decode cX12_rows 68 = .ok (.aload_n 0, 1) := by decide +kernel
theorem dX12_rows_69 : decode cX12_rows 69 = .ok (.getfield 13, 3) := by decide +kernel
theorem dX12_rows_72 : decode cX12_rows 72 = .ok (.iconst 2, 1) := by decide +kernel
theorem dX12_rows_73 : decode cX12_rows 73 = .ok (.iaload, 1) := by decide +kernel
theorem dX12_rows_74 : decode cX12_rows 74 = .ok (.if_icmp .ge 82, 3) := by decide +kernel
theorem dX12_rows_77 : decode cX12_rows 77 = .ok (.aload_n 0, 1) := by decide +kernel
theorem dX12_rows_78 : decode cX12_rows 78 = .ok (.iload_n 1, 1) := by decide +kernel
theorem dX12_rows_79 : decode cX12_rows 79 = .ok (.iload_n 3, 1) := by decide +kernel
theorem dX12_rows_80 : decode cX12_rows 80 = .ok (.invokevirtual 439, 3) := by decide +kernel
theorem dX12_rows_83 : decode cX12_rows 83 = .ok (.ifCond .ne 6, 3) := by decide +kernel
theorem dX12_rows_86 : decode cX12_rows 86 = .ok (.goto 64, 3) := by decide +kernel
theorem dX12_rows_89 : decode cX12_rows 89 = .ok (.aload_n 0, 1) := by decide +kernel
theorem dX12_rows_90 : decode cX12_rows 90 = .ok (.getfield 120, 3) := by decide +kernel
theorem dX12_rows_93 : decode cX12_rows 93 = .ok (.iload_n 3, 1) := by decide +kernel
theorem dX12_rows_94 : decode cX12_rows 94 = .ok (.dup2, 1) := by decide +kernel
theorem dX12_rows_95 : decode cX12_rows 95 = .ok (.iaload, 1) := by decide +kernel
theorem dX12_rows_96 : decode cX12_rows 96 = .ok (.aload_n 0, 1) := by decide +kernel
theorem dX12_rows_97 : decode cX12_rows 97 = .ok (.getfield 19, 3) := by decide +kernel
theorem dX12_rows_100 : decode cX12_rows 100 = .ok (.iload_n 1, 1) := by decide +kernel
theorem dX12_rows_101 : decode cX12_rows 101 = .ok (.iaload, 1) := by decide +kernel
theorem dX12_rows_102 : decode cX12_rows 102 = .ok (.isub, 1) := by decide +kernel
theorem dX12_rows_103 : decode cX12_rows 103 = .ok (.iastore, 1) := by decide +kernel
theorem dX12_rows_104 : decode cX12_rows 104 = .ok (.aload_n 0, 1) := by decide +kernel
theorem dX12_rows_105 : decode cX12_rows 105 = .ok (.getfield 123, 3) := by decide +kernel
theorem dX12_rows_108 : decode cX12_rows 108 = .ok (.iload_n 1, 1) := by decide +kernel
theorem dX12_rows_109 : decode cX12_rows 109 = .ok (.iload_n 3, 1) := by decide +kernel
theorem dX12_rows_110 : decode cX12_rows 110 = .ok (.iastore, 1) := by decide +kernel
theorem dX12_rows_111 : decode cX12_rows 111 = .ok (.aload_n 0, 1) := by decide +kernel
theorem dX12_rows_112 : decode cX12_rows 112 = .ok (.iload_n 1, 1) := by decide +kernel
theorem dX12_rows_113 : decode cX12_rows 113 = .ok (.iconst 1, 1) := by decide +kernel
theorem dX12_rows_114 : decode cX12_rows 114 = .ok (.iadd, 1) := by decide +kernel
theorem dX12_rows_115 : decode cX12_rows 115 = .ok (.iload_n 2, 1) := by decide +kernel
theorem dX12_rows_116 : decode cX12_rows 116 = .ok (.aload_n 0, 1) := by decide +kernel
theorem dX12_rows_117 : decode cX12_rows 117 = .ok (.iconst 0, 1) := by decide +kernel
theorem dX12_rows_118 : decode cX12_rows 118 = .ok (.iload_n 1, 1) := by decide +kernel
theorem dX12_rows_119 : decode cX12_rows 119 = .ok (.iload_n 3, 1) := by decide +kernel
theorem dX12_rows_120 : decode cX12_rows 120 = .ok (.iconst 0, 1) := by decide +kernel
theorem dX12_rows_121 : decode cX12_rows 121 = .ok (.invokevirtual 375, 3) := by decide +kernel
theorem dX12_rows_124 : decode cX12_rows 124 = .ok (.aload_n 0, 1) := by decide +kernel
theorem dX12_rows_125 : decode cX12_rows 125 = .ok (.getfield 19, 3) := by decide +kernel
theorem dX12_rows_128 : decode cX12_rows 128 = .ok (.iload_n 1, 1) := by decide +kernel
theorem dX12_rows_129 : decode cX12_rows 129 = .ok (.iaload, 1) := by decide +kernel
theorem dX12_rows_130 : decode cX12_rows 130 = .ok (.imul, 1) := by decide +kernel
theorem dX12_rows_131 : decode cX12_rows 131 = .ok (.iadd, 1) := by decide +kernel
theorem dX12_rows_132 : decode cX12_rows 132 = .ok (.invokevirtual 436, 3) := by decide +kernel
theorem dX12_rows_135 : decode cX12_rows 135 = .ok (.aload_n 0, 1) := by decide +kernel
theorem dX12_rows_136 : decode cX12_rows 136 = .ok (.getfield 120, 3) := by decide +kernel
theorem dX12_rows_139 : decode cX12_rows 139 = .ok (.iload_n 3, 1) := by decide +kernel
theorem dX12_rows_140 : decode cX12_rows 140 = .ok (.dup2, 1) := by decide +kernel
theorem dX12_rows_141 : decode cX12_rows 141 = .ok (.iaload, 1) := by decide +kernel
theorem dX12_rows_142 : decode cX12_rows 142 = .ok (.aload_n 0, 1) := by decide +kernel
theorem dX12_rows_143 : decode cX12_rows 143 = .ok (.getfield 19, 3) := by decide +kernel
theorem dX12_rows_146 : decode cX12_rows 146 = .ok (.iload_n 1, 1) := by decide +kernel
theorem dX12_rows_147 : decode cX12_rows 147 = .ok (.iaload, 1) := by decide +kernel
theorem dX12_rows_148 : decode cX12_rows 148 = .ok (.iadd, 1) := by decide +kernel
theorem dX12_rows_149 : decode cX12_rows 149 = .ok (.iastore, 1) := by decide +kernel
theorem dX12_rows_150 : decode cX12_rows 150 = .ok (.iinc 3 1, 3) := by decide +kernel
theorem dX12_rows_153 : decode cX12_rows 153 = .ok (.goto (-86), 3) := by decide +kernel
theorem dX12_rows_156 : decode cX12_rows 156 = .ok (.return_, 1) := by decide +kernel
theorem dX12_layBest_0 : decode cX12_layBest 0 = .ok (.iconst 0, 1) := by decide +kernel
theorem dX12_layBest_1 : decode cX12_layBest 1 = .ok (.istore_n 1, 1) := by decide +kernel
theorem dX12_layBest_2 : decode cX12_layBest 2 = .ok (.iload_n 1, 1) := by decide +kernel
theorem dX12_layBest_3 : decode cX12_layBest 3 = .ok (.iconst 3, 1) := by decide +kernel
theorem dX12_layBest_4 : decode cX12_layBest 4 = .ok (.if_icmp .ge 29, 3) := by decide +kernel
theorem dX12_layBest_7 : decode cX12_layBest 7 = .ok (.aload_n 0, 1) := by decide +kernel
theorem dX12_layBest_8 : decode cX12_layBest 8 = .ok (.getfield 120, 3) := by decide +kernel
theorem dX12_layBest_11 : decode cX12_layBest 11 = .ok (.iload_n 1, 1) := by decide +kernel
theorem dX12_layBest_12 : decode cX12_layBest 12 = .ok (.aload_n 0, 1) := by decide +kernel
theorem dX12_layBest_13 : decode cX12_layBest 13 = .ok (.getfield 13, 3) := by decide +kernel
theorem dX12_layBest_16 : decode cX12_layBest 16 = .ok (.iconst 1, 1) := by decide +kernel
theorem dX12_layBest_17 : decode cX12_layBest 17 = .ok (.iaload, 1) := by decide +kernel
theorem dX12_layBest_18 : decode cX12_layBest 18 = .ok (.aload_n 0, 1) := by decide +kernel
theorem dX12_layBest_19 : decode cX12_layBest 19 = .ok (.getfield 13, 3) := by decide +kernel
theorem dX12_layBest_22 : decode cX12_layBest 22 = .ok (.bipush 6, 2) := by decide +kernel
theorem dX12_layBest_24 : decode cX12_layBest 24 = .ok (.iaload, 1) := by decide +kernel
theorem dX12_layBest_25 : decode cX12_layBest 25 = .ok (.iadd, 1) := by decide +kernel
theorem dX12_layBest_26 : decode cX12_layBest 26 = .ok (.iastore, 1) := by decide +kernel
theorem dX12_layBest_27 : decode cX12_layBest 27 = .ok (.iinc 1 1, 3) := by decide +kernel
theorem dX12_layBest_30 : decode cX12_layBest 30 = .ok (.goto (-28), 3) := by decide +kernel
theorem dX12_layBest_33 : decode cX12_layBest 33 = .ok (.aload_n 0, 1) := by decide +kernel
theorem dX12_layBest_34 : decode cX12_layBest 34 = .ok (.iconst (-1), 1) := by decide +kernel
theorem dX12_layBest_35 : decode cX12_layBest 35 = .ok (.putfield 433, 3) := by decide +kernel
theorem dX12_layBest_38 : decode cX12_layBest 38 = .ok (.aload_n 0, 1) := by decide +kernel
theorem dX12_layBest_39 : decode cX12_layBest 39 = .ok (.iconst 0, 1) := by decide +kernel
theorem dX12_layBest_40 : decode cX12_layBest 40 = .ok (.iconst 0, 1) := by decide +kernel
theorem dX12_layBest_41 : decode cX12_layBest 41 = .ok (.invokevirtual 436, 3) := by decide +kernel
theorem dX12_layBest_44 : decode cX12_layBest 44 = .ok (.return_, 1) := by decide +kernel
theorem dX12_best_0 : decode cX12_best 0 = .ok (.aload_n 0, 1) := by decide +kernel
theorem dX12_best_1 : decode cX12_best 1 = .ok (.iconst 0, 1) := by decide +kernel
theorem dX12_best_2 : decode cX12_best 2 = .ok (.putfield 157, 3) := by decide +kernel
theorem dX12_best_5 : decode cX12_best 5 = .ok (.aload_n 0, 1) := by decide +kernel
theorem dX12_best_6 : decode cX12_best 6 = .ok (.iload_n 1, 1) := by decide +kernel
theorem dX12_best_7 : decode cX12_best 7 = .ok (.invokevirtual 414, 3) := by decide +kernel
theorem dX12_best_10 : decode cX12_best 10 = .ok (.ifCond .ne 5, 3) := by decide +kernel
theorem dX12_best_13 : decode cX12_best 13 = .ok (.iconst (-1), 1) := by decide +kernel
theorem dX12_best_14 : decode cX12_best 14 = .ok (.ireturn, 1) := by decide +kernel
theorem dX12_best_15 : decode cX12_best 15 = .ok (.aload_n 0, 1) := by decide +kernel
theorem dX12_best_16 : decode cX12_best 16 = .ok (.invokevirtual 443, 3) := by decide +kernel
theorem dX12_best_19 : decode cX12_best 19 = .ok (.aload_n 0, 1) := by decide +kernel
theorem dX12_best_20 : decode cX12_best 20 = .ok (.getfield 126, 3) := by decide +kernel
theorem dX12_best_23 : decode cX12_best 23 = .ok (.iload_n 1, 1) := by decide +kernel
theorem dX12_best_24 : decode cX12_best 24 = .ok (.iaload, 1) := by decide +kernel
theorem dX12_best_25 : decode cX12_best 25 = .ok (.iconst (-1), 1) := by decide +kernel
theorem dX12_best_26 : decode cX12_best 26 = .ok (.if_icmp .ne 8, 3) := by decide +kernel
theorem dX12_best_29 : decode cX12_best 29 = .ok (.bipush (-2), 2) := by decide +kernel
theorem dX12_best_31 : decode cX12_best 31 = .ok (.goto 9, 3) := by decide +kernel
theorem dX12_best_34 : decode cX12_best 34 = .ok (.aload_n 0, 1) := by decide +kernel
theorem dX12_best_35 : decode cX12_best 35 = .ok (.getfield 126, 3) := by decide +kernel
theorem dX12_best_38 : decode cX12_best 38 = .ok (.iload_n 1, 1) := by decide +kernel
theorem dX12_best_39 : decode cX12_best 39 = .ok (.iaload, 1) := by decide +kernel
theorem dX12_best_40 : decode cX12_best 40 = .ok (.ireturn, 1) := by decide +kernel
theorem dX12_bestSum_0 : decode cX12_bestSum 0 = .ok (.aload_n 0, 1) := by decide +kernel
theorem dX12_bestSum_1 : decode cX12_bestSum 1 = .ok (.iconst 0, 1) := by decide +kernel
theorem dX12_bestSum_2 : decode cX12_bestSum 2 = .ok (.putfield 157, 3) := by decide +kernel
theorem dX12_bestSum_5 : decode cX12_bestSum 5 = .ok (.aload_n 0, 1) := by decide +kernel
theorem dX12_bestSum_6 : decode cX12_bestSum 6 = .ok (.invokevirtual 443, 3) := by decide +kernel
theorem dX12_bestSum_9 : decode cX12_bestSum 9 = .ok (.aload_n 0, 1) := by decide +kernel
theorem dX12_bestSum_10 : decode cX12_bestSum 10 = .ok (.getfield 433, 3) := by decide +kernel
theorem dX12_bestSum_13 : decode cX12_bestSum 13 = .ok (.ireturn, 1) := by decide +kernel
theorem dX12_choiceOf_0 : decode cX12_choiceOf 0 = .ok (.bipush (-2), 2) := by decide +kernel
theorem dX12_choiceOf_2 : decode cX12_choiceOf 2 = .ok (.istore_n 2, 1) := by decide +kernel
theorem dX12_choiceOf_3 : decode cX12_choiceOf 3 = .ok (.iconst 0, 1) := by decide +kernel
theorem dX12_choiceOf_4 : decode cX12_choiceOf 4 = .ok (.istore_n 3, 1) := by decide +kernel
theorem dX12_choiceOf_5 : decode cX12_choiceOf 5 = .ok (.iconst 0, 1) := by decide +kernel
theorem dX12_choiceOf_6 : decode cX12_choiceOf 6 = .ok (.istore 4, 2) := by decide +kernel
theorem dX12_choiceOf_8 : decode cX12_choiceOf 8 = .ok (.iload 4, 2) := by decide +kernel
theorem dX12_choiceOf_10 : decode cX12_choiceOf 10 = .ok (.aload_n 0, 1) := by decide +kernel
theorem dX12_choiceOf_11 : decode cX12_choiceOf 11 = .ok (.getfield 13, 3) := by decide +kernel
theorem dX12_choiceOf_14 : decode cX12_choiceOf 14 = .ok (.iconst 2, 1) := by decide +kernel
theorem dX12_choiceOf_15 : decode cX12_choiceOf 15 = .ok (.iaload, 1) := by decide +kernel
theorem dX12_choiceOf_16 : decode cX12_choiceOf 16 = .ok (.if_icmp .ge 54, 3) := by decide +kernel
theorem dX12_choiceOf_19 : decode cX12_choiceOf 19 = .ok (.aload_n 0, 1) := by decide +kernel
theorem dX12_choiceOf_20 : decode cX12_choiceOf 20 = .ok (.getfield 22, 3) := by decide +kernel
theorem dX12_choiceOf_23 : decode cX12_choiceOf 23 = .ok (.iconst 3, 1) := by decide +kernel
theorem dX12_choiceOf_24 : decode cX12_choiceOf 24 = .ok (.iload_n 1, 1) := by decide +kernel
theorem dX12_choiceOf_25 : decode cX12_choiceOf 25 = .ok (.imul, 1) := by decide +kernel
theorem dX12_choiceOf_26 : decode cX12_choiceOf 26 = .ok (.iload 4, 2) := by decide +kernel
theorem dX12_choiceOf_28 : decode cX12_choiceOf 28 = .ok (.iadd, 1) := by decide +kernel
theorem dX12_choiceOf_29 : decode cX12_choiceOf 29 = .ok (.iaload, 1) := by decide +kernel
theorem dX12_choiceOf_30 : decode cX12_choiceOf 30 = .ok (.aload_n 0, 1) := by decide +kernel
theorem dX12_choiceOf_31 : decode cX12_choiceOf 31 = .ok (.getfield 129, 3) := by decide +kernel
theorem dX12_choiceOf_34 : decode cX12_choiceOf 34 = .ok (.iload 4, 2) := by decide +kernel
theorem dX12_choiceOf_36 : decode cX12_choiceOf 36 = .ok (.iaload, 1) := by decide +kernel
theorem dX12_choiceOf_37 : decode cX12_choiceOf 37 = .ok (.isub, 1) := by decide +kernel
theorem dX12_choiceOf_38 : decode cX12_choiceOf 38 = .ok (.istore 5, 2) := by decide +kernel
theorem dX12_choiceOf_40 : decode cX12_choiceOf 40 = .ok (.iload 5, 2) := by decide +kernel
theorem dX12_choiceOf_42 : decode cX12_choiceOf 42 = .ok (.ifCond .lt 22, 3) := by decide +kernel
theorem dX12_choiceOf_45 : decode cX12_choiceOf 45 = .ok (.iload_n 2, 1) := by decide +kernel
theorem dX12_choiceOf_46 : decode cX12_choiceOf 46 = .ok (.ifCond .lt 12, 3) := by decide +kernel
theorem dX12_choiceOf_49 : decode cX12_choiceOf 49 = .ok (.iload 5, 2) := by decide +kernel
theorem dX12_choiceOf_51 : decode cX12_choiceOf 51 = .ok (.iload_n 3, 1) := by decide +kernel
theorem dX12_choiceOf_52 : decode cX12_choiceOf 52 = .ok (.if_icmp .gt 6, 3) := by decide +kernel
theorem dX12_choiceOf_55 : decode cX12_choiceOf 55 = .ok (.goto 9, 3) := by decide +kernel
theorem dX12_choiceOf_58 : decode cX12_choiceOf 58 = .ok (.iload 4, 2) := by decide +kernel
theorem dX12_choiceOf_60 : decode cX12_choiceOf 60 = .ok (.istore_n 2, 1) := by decide +kernel
theorem dX12_choiceOf_61 : decode cX12_choiceOf 61 = .ok (.iload 5, 2) := by decide +kernel
theorem dX12_choiceOf_63 : decode cX12_choiceOf 63 = .ok (.istore_n 3, 1) := by decide +kernel
theorem dX12_choiceOf_64 : decode cX12_choiceOf 64 = .ok (.iinc 4 1, 3) := by decide +kernel
theorem dX12_choiceOf_67 : decode cX12_choiceOf 67 = .ok (.goto (-59), 3) := by decide +kernel
theorem dX12_choiceOf_70 : decode cX12_choiceOf 70 = .ok (.iload_n 2, 1) := by decide +kernel
theorem dX12_choiceOf_71 : decode cX12_choiceOf 71 = .ok (.ireturn, 1) := by decide +kernel
theorem dX12_choice_0 : decode cX12_choice 0 = .ok (.aload_n 0, 1) := by decide +kernel
theorem dX12_choice_1 : decode cX12_choice 1 = .ok (.iconst 0, 1) := by decide +kernel
theorem dX12_choice_2 : decode cX12_choice 2 = .ok (.putfield 157, 3) := by decide +kernel
theorem dX12_choice_5 : decode cX12_choice 5 = .ok (.aload_n 0, 1) := by decide +kernel
theorem dX12_choice_6 : decode cX12_choice 6 = .ok (.iload_n 1, 1) := by decide +kernel
theorem dX12_choice_7 : decode cX12_choice 7 = .ok (.invokevirtual 414, 3) := by decide +kernel
theorem dX12_choice_10 : decode cX12_choice 10 = .ok (.ifCond .ne 5, 3) := by decide +kernel
theorem dX12_choice_13 : decode cX12_choice 13 = .ok (.iconst (-1), 1) := by decide +kernel
theorem dX12_choice_14 : decode cX12_choice 14 = .ok (.ireturn, 1) := by decide +kernel
theorem dX12_choice_15 : decode cX12_choice 15 = .ok (.iconst 0, 1) := by decide +kernel
theorem dX12_choice_16 : decode cX12_choice 16 = .ok (.istore_n 2, 1) := by decide +kernel
theorem dX12_choice_17 : decode cX12_choice 17 = .ok (.iload_n 2, 1) := by decide +kernel
theorem dX12_choice_18 : decode cX12_choice 18 = .ok (.iconst 3, 1) := by decide +kernel
theorem dX12_choice_19 : decode cX12_choice 19 = .ok (.if_icmp .ge 21, 3) := by decide +kernel
theorem dX12_choice_22 : decode cX12_choice 22 = .ok (.aload_n 0, 1) := by decide +kernel
theorem dX12_choice_23 : decode cX12_choice 23 = .ok (.getfield 129, 3) := by decide +kernel
theorem dX12_choice_26 : decode cX12_choice 26 = .ok (.iload_n 2, 1) := by decide +kernel
theorem dX12_choice_27 : decode cX12_choice 27 = .ok (.aload_n 0, 1) := by decide +kernel
theorem dX12_choice_28 : decode cX12_choice 28 = .ok (.getfield 96, 3) := by decide +kernel
theorem dX12_choice_31 : decode cX12_choice 31 = .ok (.iload_n 2, 1) := by decide +kernel
theorem dX12_choice_32 : decode cX12_choice 32 = .ok (.iaload, 1) := by decide +kernel
theorem dX12_choice_33 : decode cX12_choice 33 = .ok (.iastore, 1) := by decide +kernel
theorem dX12_choice_34 : decode cX12_choice 34 = .ok (.iinc 2 1, 3) := by decide +kernel
theorem dX12_choice_37 : decode cX12_choice 37 = .ok (.goto (-20), 3) := by decide +kernel
theorem dX12_choice_40 : decode cX12_choice 40 = .ok (.aload_n 0, 1) := by decide +kernel
theorem dX12_choice_41 : decode cX12_choice 41 = .ok (.iload_n 1, 1) := by decide +kernel
theorem dX12_choice_42 : decode cX12_choice 42 = .ok (.invokevirtual 446, 3) := by decide +kernel
theorem dX12_choice_45 : decode cX12_choice 45 = .ok (.ireturn, 1) := by decide +kernel
theorem dX12_isLevel_0 : decode cX12_isLevel 0 = .ok (.iconst 0, 1) := by decide +kernel
theorem dX12_isLevel_1 : decode cX12_isLevel 1 = .ok (.istore_n 1, 1) := by decide +kernel
theorem dX12_isLevel_2 : decode cX12_isLevel 2 = .ok (.iload_n 1, 1) := by decide +kernel
theorem dX12_isLevel_3 : decode cX12_isLevel 3 = .ok (.aload_n 0, 1) := by decide +kernel
theorem dX12_isLevel_4 : decode cX12_isLevel 4 = .ok (.getfield 13, 3) := by decide +kernel
theorem dX12_isLevel_7 : decode cX12_isLevel 7 = .ok (.iconst 2, 1) := by decide +kernel
theorem dX12_isLevel_8 : decode cX12_isLevel 8 = .ok (.iaload, 1) := by decide +kernel
theorem dX12_isLevel_9 : decode cX12_isLevel 9 = .ok (.if_icmp .ge 63, 3) := by decide +kernel
theorem dX12_isLevel_12 : decode cX12_isLevel 12 = .ok (.iconst 0, 1) := by decide +kernel
theorem dX12_isLevel_13 : decode cX12_isLevel 13 = .ok (.istore_n 2, 1) := by decide +kernel
theorem dX12_isLevel_14 : decode cX12_isLevel 14 = .ok (.iconst 0, 1) := by decide +kernel
theorem dX12_isLevel_15 : decode cX12_isLevel 15 = .ok (.istore_n 3, 1) := by decide +kernel
theorem dX12_isLevel_16 : decode cX12_isLevel 16 = .ok (.iload_n 3, 1) := by decide +kernel
theorem dX12_isLevel_17 : decode cX12_isLevel 17 = .ok (.aload_n 0, 1) := by decide +kernel
theorem dX12_isLevel_18 : decode cX12_isLevel 18 = .ok (.getfield 13, 3) := by decide +kernel
theorem dX12_isLevel_21 : decode cX12_isLevel 21 = .ok (.iconst 0, 1) := by decide +kernel
theorem dX12_isLevel_22 : decode cX12_isLevel 22 = .ok (.iaload, 1) := by decide +kernel
theorem dX12_isLevel_23 : decode cX12_isLevel 23 = .ok (.if_icmp .ge 31, 3) := by decide +kernel
theorem dX12_isLevel_26 : decode cX12_isLevel 26 = .ok (.iload_n 2, 1) := by decide +kernel
theorem dX12_isLevel_27 : decode cX12_isLevel 27 = .ok (.aload_n 0, 1) := by decide +kernel
theorem dX12_isLevel_28 : decode cX12_isLevel 28 = .ok (.iload_n 3, 1) := by decide +kernel
theorem dX12_isLevel_29 : decode cX12_isLevel 29 = .ok (.invokevirtual 446, 3) := by decide +kernel
theorem dX12_isLevel_32 : decode cX12_isLevel 32 = .ok (.iload_n 1, 1) := by decide +kernel
theorem dX12_isLevel_33 : decode cX12_isLevel 33 = .ok (.if_icmp .ne 12, 3) := by decide +kernel
theorem dX12_isLevel_36 : decode cX12_isLevel 36 = .ok (.aload_n 0, 1) := by decide +kernel
theorem dX12_isLevel_37 : decode cX12_isLevel 37 = .ok (.getfield 19, 3) := by decide +kernel
theorem dX12_isLevel_40 : decode cX12_isLevel 40 = .ok (.iload_n 3, 1) := by decide +kernel
theorem dX12_isLevel_41 : decode cX12_isLevel 41 = .ok (.iaload, 1) := by decide +kernel
theorem dX12_isLevel_42 : decode cX12_isLevel 42 = .ok (.goto 4, 3) := by decide +kernel
theorem dX12_isLevel_45 : decode cX12_isLevel 45 = .ok (.iconst 0, 1) := by decide +kernel
theorem dX12_isLevel_46 : decode cX12_isLevel 46 = .ok (.iadd, 1) := by decide +kernel
theorem dX12_isLevel_47 : decode cX12_isLevel 47 = .ok (.istore_n 2, 1) := by decide +kernel
theorem dX12_isLevel_48 : decode cX12_isLevel 48 = .ok (.iinc 3 1, 3) := by decide +kernel
theorem dX12_isLevel_51 : decode cX12_isLevel 51 = .ok (.goto (-35), 3) := by decide +kernel
theorem dX12_isLevel_54 : decode cX12_isLevel 54 = .ok (.iload_n 2, 1) := by decide +kernel
theorem dX12_isLevel_55 : decode cX12_isLevel 55 = .ok (.aload_n 0, 1) := by decide +kernel
theorem dX12_isLevel_56 : decode cX12_isLevel 56 = .ok (.getfield 13, 3) := by decide +kernel
theorem dX12_isLevel_59 : decode cX12_isLevel 59 = .ok (.iconst 1, 1) := by decide +kernel
theorem dX12_isLevel_60 : decode cX12_isLevel 60 = .ok (.iaload, 1) := by decide +kernel
theorem dX12_isLevel_61 : decode cX12_isLevel 61 = .ok (.if_icmp .le 5, 3) := by decide +kernel
theorem dX12_isLevel_64 : decode cX12_isLevel 64 = .ok (.iconst 0, 1) := by decide +kernel
theorem dX12_isLevel_65 : decode cX12_isLevel 65 = .ok (.ireturn, 1) := by decide +kernel
theorem dX12_isLevel_66 : decode cX12_isLevel 66 = .ok (.iinc 1 1, 3) := by decide +kernel
theorem dX12_isLevel_69 : decode cX12_isLevel 69 = .ok (.goto (-67), 3) := by decide +kernel
theorem dX12_isLevel_72 : decode cX12_isLevel 72 = .ok (.iconst 1, 1) := by decide +kernel
theorem dX12_isLevel_73 : decode cX12_isLevel 73 = .ok (.ireturn, 1) := by decide +kernel
theorem dX12_level_0 : decode cX12_level 0 = .ok (.aload_n 0, 1) := by decide +kernel
theorem dX12_level_1 : decode cX12_level 1 = .ok (.iconst 0, 1) := by decide +kernel
theorem dX12_level_2 : decode cX12_level 2 = .ok (.putfield 157, 3) := by decide +kernel
theorem dX12_level_5 : decode cX12_level 5 = .ok (.aload_n 0, 1) := by decide +kernel
theorem dX12_level_6 : decode cX12_level 6 = .ok (.iload_n 1, 1) := by decide +kernel
theorem dX12_level_7 : decode cX12_level 7 = .ok (.invokevirtual 417, 3) := by decide +kernel
theorem dX12_level_10 : decode cX12_level 10 = .ok (.ifCond .ne 5, 3) := by decide +kernel
theorem dX12_level_13 : decode cX12_level 13 = .ok (.iconst (-1), 1) := by decide +kernel
theorem dX12_level_14 : decode cX12_level 14 = .ok (.ireturn, 1) := by decide +kernel
theorem dX12_level_15 : decode cX12_level 15 = .ok (.iconst 1, 1) := by decide +kernel
theorem dX12_level_16 : decode cX12_level 16 = .ok (.istore_n 2, 1) := by decide +kernel
theorem dX12_level_17 : decode cX12_level 17 = .ok (.iconst 0, 1) := by decide +kernel
theorem dX12_level_18 : decode cX12_level 18 = .ok (.istore_n 3, 1) := by decide +kernel
theorem dX12_level_19 : decode cX12_level 19 = .ok (.iload_n 3, 1) := by decide +kernel
theorem dX12_level_20 : decode cX12_level 20 = .ok (.aload_n 0, 1) := by decide +kernel
theorem dX12_level_21 : decode cX12_level 21 = .ok (.getfield 13, 3) := by decide +kernel
theorem dX12_level_24 : decode cX12_level 24 = .ok (.iconst 2, 1) := by decide +kernel
theorem dX12_level_25 : decode cX12_level 25 = .ok (.iaload, 1) := by decide +kernel
theorem dX12_level_26 : decode cX12_level 26 = .ok (.if_icmp .ge 14, 3) := by decide +kernel
theorem dX12_level_29 : decode cX12_level 29 = .ok (.iload_n 2, 1) := by decide +kernel
theorem dX12_level_30 : decode cX12_level 30 = .ok (.bipush 10, 2) := by decide +kernel
theorem dX12_level_32 : decode cX12_level 32 = .ok (.imul, 1) := by decide +kernel
theorem dX12_level_33 : decode cX12_level 33 = .ok (.istore_n 2, 1) := by decide +kernel
theorem dX12_level_34 : decode cX12_level 34 = .ok (.iinc 3 1, 3) := by decide +kernel
theorem dX12_level_37 : decode cX12_level 37 = .ok (.goto (-18), 3) := by decide +kernel
theorem dX12_level_40 : decode cX12_level 40 = .ok (.iconst (-1), 1) := by decide +kernel
theorem dX12_level_41 : decode cX12_level 41 = .ok (.istore_n 3, 1) := by decide +kernel
theorem dX12_level_42 : decode cX12_level 42 = .ok (.iconst 0, 1) := by decide +kernel
theorem dX12_level_43 : decode cX12_level 43 = .ok (.istore 4, 2) := by decide +kernel
theorem dX12_level_45 : decode cX12_level 45 = .ok (.iconst 0, 1) := by decide +kernel
theorem dX12_level_46 : decode cX12_level 46 = .ok (.istore 5, 2) := by decide +kernel
theorem dX12_level_48 : decode cX12_level 48 = .ok (.iload 5, 2) := by decide +kernel
theorem dX12_level_50 : decode cX12_level 50 = .ok (.iload_n 2, 1) := by decide +kernel
theorem dX12_level_51 : decode cX12_level 51 = .ok (.if_icmp .ge 46, 3) := by decide +kernel
theorem dX12_level_54 : decode cX12_level 54 = .ok (.aload_n 0, 1) := by decide +kernel
theorem dX12_level_55 : decode cX12_level 55 = .ok (.iload 5, 2) := by decide +kernel
theorem dX12_level_57 : decode cX12_level 57 = .ok (.invokevirtual 449, 3) := by decide +kernel
theorem dX12_level_60 : decode cX12_level 60 = .ok (.istore 6, 2) := by decide +kernel
theorem dX12_level_62 : decode cX12_level 62 = .ok (.iload_n 3, 1) := by decide +kernel
theorem dX12_level_63 : decode cX12_level 63 = .ok (.iconst (-1), 1) := by decide +kernel
theorem dX12_level_64 : decode cX12_level 64 = .ok (.if_icmp .eq 10, 3) := by decide +kernel
theorem dX12_level_67 : decode cX12_level 67 = .ok (.iload 6, 2) := by decide +kernel
theorem dX12_level_69 : decode cX12_level 69 = .ok (.iload 4, 2) := by decide +kernel
theorem dX12_level_71 : decode cX12_level 71 = .ok (.if_icmp .ge 20, 3) := by decide +kernel
theorem dX12_level_74 : decode cX12_level 74 = .ok (.aload_n 0, 1) := by decide +kernel
theorem dX12_level_75 : decode cX12_level 75 = .ok (.invokevirtual 452, 3) := by decide +kernel
theorem dX12_level_78 : decode cX12_level 78 = .ok (.ifCond .ne 6, 3) := by decide +kernel
theorem dX12_level_81 : decode cX12_level 81 = .ok (.goto 10, 3) := by decide +kernel
theorem dX12_level_84 : decode cX12_level 84 = .ok (.iload 5, 2) := by decide +kernel
theorem dX12_level_86 : decode cX12_level 86 = .ok (.istore_n 3, 1) := by decide +kernel
theorem dX12_level_87 : decode cX12_level 87 = .ok (.iload 6, 2) := by decide +kernel
theorem dX12_level_89 : decode cX12_level 89 = .ok (.istore 4, 2) := by decide +kernel
theorem dX12_level_91 : decode cX12_level 91 = .ok (.iinc 5 1, 3) := by decide +kernel
theorem dX12_level_94 : decode cX12_level 94 = .ok (.goto (-46), 3) := by decide +kernel
theorem dX12_level_97 : decode cX12_level 97 = .ok (.iload_n 3, 1) := by decide +kernel
theorem dX12_level_98 : decode cX12_level 98 = .ok (.iconst (-1), 1) := by decide +kernel
theorem dX12_level_99 : decode cX12_level 99 = .ok (.if_icmp .ne 6, 3) := by decide +kernel
theorem dX12_level_102 : decode cX12_level 102 = .ok (.bipush (-2), 2) := by decide +kernel
theorem dX12_level_104 : decode cX12_level 104 = .ok (.ireturn, 1) := by decide +kernel
theorem dX12_level_105 : decode cX12_level 105 = .ok (.aload_n 0, 1) := by decide +kernel
theorem dX12_level_106 : decode cX12_level 106 = .ok (.iload_n 3, 1) := by decide +kernel
theorem dX12_level_107 : decode cX12_level 107 = .ok (.invokevirtual 449, 3) := by decide +kernel
theorem dX12_level_110 : decode cX12_level 110 = .ok (.pop, 1) := by decide +kernel
theorem dX12_level_111 : decode cX12_level 111 = .ok (.aload_n 0, 1) := by decide +kernel
theorem dX12_level_112 : decode cX12_level 112 = .ok (.getfield 129, 3) := by decide +kernel
theorem dX12_level_115 : decode cX12_level 115 = .ok (.iload_n 1, 1) := by decide +kernel
theorem dX12_level_116 : decode cX12_level 116 = .ok (.iaload, 1) := by decide +kernel
theorem dX12_level_117 : decode cX12_level 117 = .ok (.ireturn, 1) := by decide +kernel
theorem dX12_layCode_0 : decode cX12_layCode 0 = .ok (.iload_n 1, 1) := by decide +kernel
theorem dX12_layCode_1 : decode cX12_layCode 1 = .ok (.istore_n 2, 1) := by decide +kernel
theorem dX12_layCode_2 : decode cX12_layCode 2 = .ok (.iconst 0, 1) := by decide +kernel
theorem dX12_layCode_3 : decode cX12_layCode 3 = .ok (.istore_n 3, 1) := by decide +kernel
theorem dX12_layCode_4 : decode cX12_layCode 4 = .ok (.aload_n 0, 1) := by decide +kernel
theorem dX12_layCode_5 : decode cX12_layCode 5 = .ok (.getfield 13, 3) := by decide +kernel
theorem dX12_layCode_8 : decode cX12_layCode 8 = .ok (.iconst 2, 1) := by decide +kernel
theorem dX12_layCode_9 : decode cX12_layCode 9 = .ok (.iaload, 1) := by decide +kernel
theorem dX12_layCode_10 : decode cX12_layCode 10 = .ok (.iconst 1, 1) := by decide +kernel
theorem dX12_layCode_11 : decode cX12_layCode 11 = .ok (.isub, 1) := by decide +kernel
theorem dX12_layCode_12 : decode cX12_layCode 12 = .ok (.istore 4, 2) := by decide +kernel
theorem dX12_layCode_14 : decode cX12_layCode 14 = .ok (.iload 4, 2) := by decide +kernel
theorem dX12_layCode_16 : decode cX12_layCode 16 = .ok (.ifCond .lt 35, 3) := by decide +kernel
theorem dX12_layCode_19 : decode cX12_layCode 19 = .ok (.aload_n 0, 1) := by decide +kernel
theorem dX12_layCode_20 : decode cX12_layCode 20 = .ok (.getfield 129, 3) := by decide +kernel
theorem dX12_layCode_23 : decode cX12_layCode 23 = .ok (.iload 4, 2) := by decide +kernel
theorem dX12_layCode_25 : decode cX12_layCode 25 = .ok (.iload_n 2, 1) := by decide +kernel
theorem dX12_layCode_26 : decode cX12_layCode 26 = .ok (.bipush 10, 2) := by decide +kernel
theorem dX12_layCode_28 : decode cX12_layCode 28 = .ok (.irem, 1) := by decide +kernel
theorem dX12_layCode_29 : decode cX12_layCode 29 = .ok (.iastore, 1) := by decide +kernel
theorem dX12_layCode_30 : decode cX12_layCode 30 = .ok (.iload_n 2, 1) := by decide +kernel
theorem dX12_layCode_31 : decode cX12_layCode 31 = .ok (.bipush 10, 2) := by decide +kernel
theorem dX12_layCode_33 : decode cX12_layCode 33 = .ok (.idiv, 1) := by decide +kernel
theorem dX12_layCode_34 : decode cX12_layCode 34 = .ok (.istore_n 2, 1) := by decide +kernel
theorem dX12_layCode_35 : decode cX12_layCode 35 = .ok (.iload_n 3, 1) := by decide +kernel
theorem dX12_layCode_36 : decode cX12_layCode 36 = .ok (.aload_n 0, 1) := by decide +kernel
theorem dX12_layCode_37 : decode cX12_layCode 37 = .ok (.getfield 129, 3) := by decide +kernel
theorem dX12_layCode_40 : decode cX12_layCode 40 = .ok (.iload 4, 2) := by decide +kernel
theorem dX12_layCode_42 : decode cX12_layCode 42 = .ok (.iaload, 1) := by decide +kernel
theorem dX12_layCode_43 : decode cX12_layCode 43 = .ok (.iadd, 1) := by decide +kernel
theorem dX12_layCode_44 : decode cX12_layCode 44 = .ok (.istore_n 3, 1) := by decide +kernel
theorem dX12_layCode_45 : decode cX12_layCode 45 = .ok (.iinc 4 (-1), 3) := by decide +kernel
theorem dX12_layCode_48 : decode cX12_layCode 48 = .ok (.goto (-34), 3) := by decide +kernel
theorem dX12_layCode_51 : decode cX12_layCode 51 = .ok (.iload_n 3, 1) := by decide +kernel
theorem dX12_layCode_52 : decode cX12_layCode 52 = .ok (.ireturn, 1) := by decide +kernel
theorem dX12_common_0 : decode cX12_common 0 = .ok (.lload_n 0, 1) := by decide +kernel
theorem dX12_common_1 : decode cX12_common 1 = .ok (.lstore 4, 2) := by decide +kernel
theorem dX12_common_3 : decode cX12_common 3 = .ok (.lload_n 2, 1) := by decide +kernel
theorem dX12_common_4 : decode cX12_common 4 = .ok (.lstore 6, 2) := by decide +kernel
theorem dX12_common_6 : decode cX12_common 6 = .ok (.lload 6, 2) := by decide +kernel
theorem dX12_common_8 : decode cX12_common 8 = .ok (.lconst 0, 1) := by decide +kernel
theorem dX12_common_9 : decode cX12_common 9 = .ok (.lcmp, 1) := by decide +kernel
theorem dX12_common_10 : decode cX12_common 10 = .ok (.ifCond .eq 21, 3) := by decide +kernel
theorem dX12_common_13 : decode cX12_common 13 = .ok (.lload 4, 2) := by decide +kernel
theorem dX12_common_15 : decode cX12_common 15 = .ok (.lload 6, 2) := by decide +kernel
theorem dX12_common_17 : decode cX12_common 17 = .ok (.lrem, 1) := by decide +kernel
theorem dX12_common_18 : decode cX12_common 18 = .ok (.lstore 8, 2) := by decide +kernel
theorem dX12_common_20 : decode cX12_common 20 = .ok (.lload 6, 2) := by decide +kernel
theorem dX12_common_22 : decode cX12_common 22 = .ok (.lstore 4, 2) := by decide +kernel
theorem dX12_common_24 : decode cX12_common 24 = .ok (.lload 8, 2) := by decide +kernel
theorem dX12_common_26 : decode cX12_common 26 = .ok (.lstore 6, 2) := by decide +kernel
theorem dX12_common_28 : decode cX12_common 28 = .ok (.goto (-22), 3) := by decide +kernel
theorem dX12_common_31 : decode cX12_common 31 = .ok (.lload 4, 2) := by decide +kernel
theorem dX12_common_33 : decode cX12_common 33 = .ok (.lreturn, 1) := by decide +kernel
theorem dX12_crowd_0 : decode cX12_crowd 0 = .ok (.aload_n 0, 1) := by decide +kernel
theorem dX12_crowd_1 : decode cX12_crowd 1 = .ok (.iconst 0, 1) := by decide +kernel
theorem dX12_crowd_2 : decode cX12_crowd 2 = .ok (.putfield 157, 3) := by decide +kernel
theorem dX12_crowd_5 : decode cX12_crowd 5 = .ok (.aload_n 0, 1) := by decide +kernel
theorem dX12_crowd_6 : decode cX12_crowd 6 = .ok (.iload_n 1, 1) := by decide +kernel
theorem dX12_crowd_7 : decode cX12_crowd 7 = .ok (.invokevirtual 417, 3) := by decide +kernel
theorem dX12_crowd_10 : decode cX12_crowd 10 = .ok (.ifCond .eq 12, 3) := by decide +kernel
theorem dX12_crowd_13 : decode cX12_crowd 13 = .ok (.iload_n 2, 1) := by decide +kernel
theorem dX12_crowd_14 : decode cX12_crowd 14 = .ok (.ifCond .lt 8, 3) := by decide +kernel
theorem dX12_crowd_17 : decode cX12_crowd 17 = .ok (.iload_n 2, 1) := by decide +kernel
theorem dX12_crowd_18 : decode cX12_crowd 18 = .ok (.iconst 1, 1) := by decide +kernel
theorem dX12_crowd_19 : decode cX12_crowd 19 = .ok (.if_icmp .le 7, 3) := by decide +kernel
theorem dX12_crowd_22 : decode cX12_crowd 22 = .ok (.ldc2_w 456, 3) := by decide +kernel
theorem dX12_crowd_25 : decode cX12_crowd 25 = .ok (.lreturn, 1) := by decide +kernel
theorem dX12_crowd_26 : decode cX12_crowd 26 = .ok (.iconst 0, 1) := by decide +kernel
theorem dX12_crowd_27 : decode cX12_crowd 27 = .ok (.istore_n 3, 1) := by decide +kernel
theorem dX12_crowd_28 : decode cX12_crowd 28 = .ok (.lconst 1, 1) := by decide +kernel
theorem dX12_crowd_29 : decode cX12_crowd 29 = .ok (.lstore 4, 2) := by decide +kernel
theorem dX12_crowd_31 : decode cX12_crowd 31 = .ok (.iconst 0, 1) := by decide +kernel
theorem dX12_crowd_32 : decode cX12_crowd 32 = .ok (.istore 6, 2) := by decide +kernel
theorem dX12_crowd_34 : decode cX12_crowd 34 = .ok (.iload 6, 2) := by decide +kernel
theorem dX12_crowd_36 : decode cX12_crowd 36 = .ok (.aload_n 0, 1) := by decide +kernel
theorem dX12_crowd_37 : decode cX12_crowd 37 = .ok (.getfield 13, 3) := by decide +kernel
theorem dX12_crowd_40 : decode cX12_crowd 40 = .ok (.iconst 0, 1) := by decide +kernel
theorem dX12_crowd_41 : decode cX12_crowd 41 = .ok (.iaload, 1) := by decide +kernel
theorem dX12_crowd_42 : decode cX12_crowd 42 = .ok (.if_icmp .ge 42, 3) := by decide +kernel
theorem dX12_crowd_45 : decode cX12_crowd 45 = .ok (.aload_n 0, 1) := by decide +kernel
theorem dX12_crowd_46 : decode cX12_crowd 46 = .ok (.getfield 78, 3) := by decide +kernel
theorem dX12_crowd_49 : decode cX12_crowd 49 = .ok (.iload 6, 2) := by decide +kernel
theorem dX12_crowd_51 : decode cX12_crowd 51 = .ok (.iaload, 1) := by decide +kernel
theorem dX12_crowd_52 : decode cX12_crowd 52 = .ok (.iload_n 1, 1) := by decide +kernel
theorem dX12_crowd_53 : decode cX12_crowd 53 = .ok (.if_icmp .eq 6, 3) := by decide +kernel
theorem dX12_crowd_56 : decode cX12_crowd 56 = .ok (.goto 22, 3) := by decide +kernel
theorem dX12_crowd_59 : decode cX12_crowd 59 = .ok (.aload_n 0, 1) := by decide +kernel
theorem dX12_crowd_60 : decode cX12_crowd 60 = .ok (.getfield 132, 3) := by decide +kernel
theorem dX12_crowd_63 : decode cX12_crowd 63 = .ok (.iload_n 3, 1) := by decide +kernel
theorem dX12_crowd_64 : decode cX12_crowd 64 = .ok (.iload 6, 2) := by decide +kernel
theorem dX12_crowd_66 : decode cX12_crowd 66 = .ok (.iastore, 1) := by decide +kernel
theorem dX12_crowd_67 : decode cX12_crowd 67 = .ok (.iinc 3 1, 3) := by decide +kernel
theorem dX12_crowd_70 : decode cX12_crowd 70 = .ok (.lload 4, 2) := by decide +kernel
theorem dX12_crowd_72 : decode cX12_crowd 72 = .ok (.ldc2_w 458, 3) := by decide +kernel
theorem dX12_crowd_75 : decode cX12_crowd 75 = .ok (.lmul, 1) := by decide +kernel
theorem dX12_crowd_76 : decode cX12_crowd 76 = .ok (.lstore 4, 2) := by decide +kernel
theorem dX12_crowd_78 : decode cX12_crowd 78 = .ok (.iinc 6 1, 3) := by decide +kernel
theorem dX12_crowd_81 : decode cX12_crowd 81 = .ok (.goto (-47), 3) := by decide +kernel
theorem dX12_crowd_84 : decode cX12_crowd 84 = .ok (.lconst 0, 1) := by decide +kernel
theorem dX12_crowd_85 : decode cX12_crowd 85 = .ok (.lstore 6, 2) := by decide +kernel
theorem dX12_crowd_87 : decode cX12_crowd 87 = .ok (.iconst 0, 1) := by decide +kernel
theorem dX12_crowd_88 : decode cX12_crowd 88 = .ok (.istore 8, 2) := by decide +kernel
theorem dX12_crowd_90 : decode cX12_crowd 90 = .ok (.iload 8, 2) := by decide +kernel
theorem dX12_crowd_92 : decode cX12_crowd 92 = .ok (.iconst 1, 1) := by decide +kernel
theorem dX12_crowd_93 : decode cX12_crowd 93 = .ok (.iload_n 3, 1) := by decide +kernel
theorem dX12_crowd_94 : decode cX12_crowd 94 = .ok (.ishl, 1) := by decide +kernel
theorem dX12_crowd_95 : decode cX12_crowd 95 = .ok (.if_icmp .ge 130, 3) := by decide +kernel
theorem dX12_crowd_98 : decode cX12_crowd 98 = .ok (.iconst 0, 1) := by decide +kernel
theorem dX12_crowd_99 : decode cX12_crowd 99 = .ok (.istore 9, 2) := by decide +kernel
theorem dX12_crowd_101 : decode cX12_crowd 101 = .ok (.lconst 1, 1) := by decide +kernel
theorem dX12_crowd_102 : decode cX12_crowd 102 = .ok (.lstore 10, 2) := by decide +kernel
theorem dX12_crowd_104 : decode cX12_crowd 104 = .ok (.iconst 0, 1) := by decide +kernel
theorem dX12_crowd_105 : decode cX12_crowd 105 = .ok (.istore 12, 2) := by decide +kernel
theorem dX12_crowd_107 : decode cX12_crowd 107 = .ok (.iload 12, 2) := by decide +kernel
theorem dX12_crowd_109 : decode cX12_crowd 109 = .ok (.iload_n 3, 1) := by decide +kernel
theorem dX12_crowd_110 : decode cX12_crowd 110 = .ok (.if_icmp .ge 91, 3) := by decide +kernel
theorem dX12_crowd_113 : decode cX12_crowd 113 = .ok (.aload_n 0, 1) := by decide +kernel
theorem dX12_crowd_114 : decode cX12_crowd 114 = .ok (.iconst 0, 1) := by decide +kernel
theorem dX12_crowd_115 : decode cX12_crowd 115 = .ok (.aload_n 0, 1) := by decide +kernel
theorem dX12_crowd_116 : decode cX12_crowd 116 = .ok (.getfield 132, 3) := by decide +kernel
theorem dX12_crowd_119 : decode cX12_crowd 119 = .ok (.iload 12, 2) := by decide +kernel
theorem dX12_crowd_121 : decode cX12_crowd 121 = .ok (.iaload, 1) := by decide +kernel
theorem dX12_crowd_122 : decode cX12_crowd 122 = .ok (.iload_n 1, 1) := by decide +kernel
theorem dX12_crowd_123 : decode cX12_crowd 123 = .ok (.iconst 0, 1) := by decide +kernel
theorem dX12_crowd_124 : decode cX12_crowd 124 = .ok (.invokevirtual 393, 3) := by decide +kernel
theorem dX12_crowd_127 : decode cX12_crowd 127 = .ok (.istore 13, 2) := by decide +kernel
theorem dX12_crowd_129 : decode cX12_crowd 129 = .ok (.iload 8, 2) := by decide +kernel
theorem dX12_crowd_131 : decode cX12_crowd 131 = .ok (.iload 12, 2) := by decide +kernel
theorem dX12_crowd_133 : decode cX12_crowd 133 = .ok (.ishr, 1) := by decide +kernel
theorem dX12_crowd_134 : decode cX12_crowd 134 = .ok (.iconst 1, 1) := by decide +kernel
theorem dX12_crowd_135 : decode cX12_crowd 135 = .ok (.iand, 1) := by decide +kernel
theorem dX12_crowd_136 : decode cX12_crowd 136 = .ok (.iconst 1, 1) := by decide +kernel
theorem dX12_crowd_137 : decode cX12_crowd 137 = .ok (.if_icmp .ne 7, 3) := by decide +kernel
theorem dX12_crowd_140 : decode cX12_crowd 140 = .ok (.iconst 1, 1) := by decide +kernel
theorem dX12_crowd_141 : decode cX12_crowd 141 = .ok (.goto 4, 3) := by decide +kernel
theorem dX12_crowd_144 : decode cX12_crowd 144 = .ok (.iconst 0, 1) := by decide +kernel
theorem dX12_crowd_145 : decode cX12_crowd 145 = .ok (.istore 14, 2) := by decide +kernel
theorem dX12_crowd_147 : decode cX12_crowd 147 = .ok (.lload 10, 2) := by decide +kernel
theorem dX12_crowd_149 : decode cX12_crowd 149 = .ok (.iload 14, 2) := by decide +kernel
theorem dX12_crowd_151 : decode cX12_crowd 151 = .ok (.ifCond .eq 12, 3) := by decide +kernel
theorem dX12_crowd_154 : decode cX12_crowd 154 = .ok (.bipush 100, 2) := by decide +kernel
theorem dX12_crowd_156 : decode cX12_crowd 156 = .ok (.iload 13, 2) := by decide +kernel
theorem dX12_crowd_158 : decode cX12_crowd 158 = .ok (.isub, 1) := by decide +kernel
theorem dX12_crowd_159 : decode cX12_crowd 159 = .ok (.i2l, 1) := by decide +kernel
theorem dX12_crowd_160 : decode cX12_crowd 160 = .ok (.goto 6, 3) := by decide +kernel
theorem dX12_crowd_163 : decode cX12_crowd 163 = .ok (.iload 13, 2) := by decide +kernel
theorem dX12_crowd_165 : decode cX12_crowd 165 = .ok (.i2l, 1) := by decide +kernel
theorem dX12_crowd_166 : decode cX12_crowd 166 = .ok (.lmul, 1) := by decide +kernel
theorem dX12_crowd_167 : decode cX12_crowd 167 = .ok (.lstore 10, 2) := by decide +kernel
theorem dX12_crowd_169 : decode cX12_crowd 169 = .ok (.iload 9, 2) := by decide +kernel
theorem dX12_crowd_171 : decode cX12_crowd 171 = .ok (.iload 14, 2) := by decide +kernel
theorem dX12_crowd_173 : decode cX12_crowd 173 = .ok (.ifCond .eq 18, 3) := by decide +kernel
theorem dX12_crowd_176 : decode cX12_crowd 176 = .ok (.aload_n 0, 1) := by decide +kernel
theorem dX12_crowd_177 : decode cX12_crowd 177 = .ok (.getfield 19, 3) := by decide +kernel
theorem dX12_crowd_180 : decode cX12_crowd 180 = .ok (.aload_n 0, 1) := by decide +kernel
theorem dX12_crowd_181 : decode cX12_crowd 181 = .ok (.getfield 132, 3) := by decide +kernel
theorem dX12_crowd_184 : decode cX12_crowd 184 = .ok (.iload 12, 2) := by decide +kernel
theorem dX12_crowd_186 : decode cX12_crowd 186 = .ok (.iaload, 1) := by decide +kernel
theorem dX12_crowd_187 : decode cX12_crowd 187 = .ok (.iaload, 1) := by decide +kernel
theorem dX12_crowd_188 : decode cX12_crowd 188 = .ok (.goto 4, 3) := by decide +kernel
theorem dX12_crowd_191 : decode cX12_crowd 191 = .ok (.iconst 0, 1) := by decide +kernel
theorem dX12_crowd_192 : decode cX12_crowd 192 = .ok (.iadd, 1) := by decide +kernel
theorem dX12_crowd_193 : decode cX12_crowd 193 = .ok (.istore 9, 2) := by decide +kernel
theorem dX12_crowd_195 : decode cX12_crowd 195 = .ok (.iinc 12 1, 3) := by decide +kernel
theorem dX12_crowd_198 : decode cX12_crowd 198 = .ok (.goto (-91), 3) := by decide +kernel
theorem dX12_crowd_201 : decode cX12_crowd 201 = .ok (.iload 9, 2) := by decide +kernel
theorem dX12_crowd_203 : decode cX12_crowd 203 = .ok (.aload_n 0, 1) := by decide +kernel
theorem dX12_crowd_204 : decode cX12_crowd 204 = .ok (.getfield 13, 3) := by decide +kernel
theorem dX12_crowd_207 : decode cX12_crowd 207 = .ok (.iconst 1, 1) := by decide +kernel
theorem dX12_crowd_208 : decode cX12_crowd 208 = .ok (.iaload, 1) := by decide +kernel
theorem dX12_crowd_209 : decode cX12_crowd 209 = .ok (.if_icmp .le 10, 3) := by decide +kernel
theorem dX12_crowd_212 : decode cX12_crowd 212 = .ok (.lload 6, 2) := by decide +kernel
theorem dX12_crowd_214 : decode cX12_crowd 214 = .ok (.lload 10, 2) := by decide +kernel
theorem dX12_crowd_216 : decode cX12_crowd 216 = .ok (.ladd, 1) := by decide +kernel
theorem dX12_crowd_217 : decode cX12_crowd 217 = .ok (.lstore 6, 2) := by decide +kernel
theorem dX12_crowd_219 : decode cX12_crowd 219 = .ok (.iinc 8 1, 3) := by decide +kernel
theorem dX12_crowd_222 : decode cX12_crowd 222 = .ok (.goto (-132), 3) := by decide +kernel
theorem dX12_crowd_225 : decode cX12_crowd 225 = .ok (.lload 6, 2) := by decide +kernel
theorem dX12_crowd_227 : decode cX12_crowd 227 = .ok (.lload 4, 2) := by decide +kernel
theorem dX12_crowd_229 : decode cX12_crowd 229 = .ok (.invokestatic 460, 3) := by decide +kernel
theorem dX12_crowd_232 : decode cX12_crowd 232 = .ok (.lstore 8, 2) := by decide +kernel
theorem dX12_crowd_234 : decode cX12_crowd 234 = .ok (.iload_n 2, 1) := by decide +kernel
theorem dX12_crowd_235 : decode cX12_crowd 235 = .ok (.ifCond .ne 11, 3) := by decide +kernel
theorem dX12_crowd_238 : decode cX12_crowd 238 = .ok (.lload 6, 2) := by decide +kernel
theorem dX12_crowd_240 : decode cX12_crowd 240 = .ok (.lload 8, 2) := by decide +kernel
theorem dX12_crowd_242 : decode cX12_crowd 242 = .ok (.ldiv, 1) := by decide +kernel
theorem dX12_crowd_243 : decode cX12_crowd 243 = .ok (.goto 8, 3) := by decide +kernel
theorem dX12_crowd_246 : decode cX12_crowd 246 = .ok (.lload 4, 2) := by decide +kernel
theorem dX12_crowd_248 : decode cX12_crowd 248 = .ok (.lload 8, 2) := by decide +kernel
theorem dX12_crowd_250 : decode cX12_crowd 250 = .ok (.ldiv, 1) := by decide +kernel
theorem dX12_crowd_251 : decode cX12_crowd 251 = .ok (.lreturn, 1) := by decide +kernel
theorem dX12_late_0 : decode cX12_late 0 = .ok (.aload_n 0, 1) := by decide +kernel
theorem dX12_late_1 : decode cX12_late 1 = .ok (.iconst 0, 1) := by decide +kernel
theorem dX12_late_2 : decode cX12_late 2 = .ok (.putfield 157, 3) := by decide +kernel
theorem dX12_late_5 : decode cX12_late 5 = .ok (.aload_n 0, 1) := by decide +kernel
theorem dX12_late_6 : decode cX12_late 6 = .ok (.iload_n 1, 1) := by decide +kernel
theorem dX12_late_7 : decode cX12_late 7 = .ok (.invokevirtual 417, 3) := by decide +kernel
theorem dX12_late_10 : decode cX12_late 10 = .ok (.ifCond .ne 5, 3) := by decide +kernel
theorem dX12_late_13 : decode cX12_late 13 = .ok (.iconst (-1), 1) := by decide +kernel
theorem dX12_late_14 : decode cX12_late 14 = .ok (.ireturn, 1) := by decide +kernel
theorem dX12_late_15 : decode cX12_late 15 = .ok (.aload_n 0, 1) := by decide +kernel
theorem dX12_late_16 : decode cX12_late 16 = .ok (.invokevirtual 430, 3) := by decide +kernel
theorem dX12_late_19 : decode cX12_late 19 = .ok (.aload_n 0, 1) := by decide +kernel
theorem dX12_late_20 : decode cX12_late 20 = .ok (.iconst 1, 1) := by decide +kernel
theorem dX12_late_21 : decode cX12_late 21 = .ok (.iload_n 1, 1) := by decide +kernel
theorem dX12_late_22 : decode cX12_late 22 = .ok (.invokevirtual 463, 3) := by decide +kernel
theorem dX12_late_25 : decode cX12_late 25 = .ok (.ireturn, 1) := by decide +kernel
theorem dX12_catchUp_0 : decode cX12_catchUp 0 = .ok (.aload_n 0, 1) := by decide +kernel
theorem dX12_catchUp_1 : decode cX12_catchUp 1 = .ok (.iconst 0, 1) := by decide +kernel
theorem dX12_catchUp_2 : decode cX12_catchUp 2 = .ok (.putfield 157, 3) := by decide +kernel
theorem dX12_catchUp_5 : decode cX12_catchUp 5 = .ok (.aload_n 0, 1) := by decide +kernel
theorem dX12_catchUp_6 : decode cX12_catchUp 6 = .ok (.iload_n 1, 1) := by decide +kernel
theorem dX12_catchUp_7 : decode cX12_catchUp 7 = .ok (.invokevirtual 417, 3) := by decide +kernel
theorem dX12_catchUp_10 : decode cX12_catchUp 10 = .ok (.ifCond .eq 7, 3) := by decide +kernel
theorem dX12_catchUp_13 : decode cX12_catchUp 13 = .ok (.iload_n 1, 1) := by decide +kernel
theorem dX12_catchUp_14 : decode cX12_catchUp 14 = .ok (.ifCond .ne 5, 3) := by decide +kernel
theorem dX12_catchUp_17 : decode cX12_catchUp 17 = .ok (.iconst (-1), 1) := by decide +kernel
theorem dX12_catchUp_18 : decode cX12_catchUp 18 = .ok (.ireturn, 1) := by decide +kernel
theorem dX12_catchUp_19 : decode cX12_catchUp 19 = .ok (.iconst 0, 1) := by decide +kernel
theorem dX12_catchUp_20 : decode cX12_catchUp 20 = .ok (.istore_n 2, 1) := by decide +kernel
theorem dX12_catchUp_21 : decode cX12_catchUp 21 = .ok (.iload_n 2, 1) := by decide +kernel
theorem dX12_catchUp_22 : decode cX12_catchUp 22 = .ok (.iconst 3, 1) := by decide +kernel
theorem dX12_catchUp_23 : decode cX12_catchUp 23 = .ok (.if_icmp .gt 43, 3) := by decide +kernel
theorem dX12_catchUp_26 : decode cX12_catchUp 26 = .ok (.aload_n 0, 1) := by decide +kernel
theorem dX12_catchUp_27 : decode cX12_catchUp 27 = .ok (.iconst 1, 1) := by decide +kernel
theorem dX12_catchUp_28 : decode cX12_catchUp 28 = .ok (.iconst 0, 1) := by decide +kernel
theorem dX12_catchUp_29 : decode cX12_catchUp 29 = .ok (.invokevirtual 407, 3) := by decide +kernel
theorem dX12_catchUp_32 : decode cX12_catchUp 32 = .ok (.aload_n 0, 1) := by decide +kernel
theorem dX12_catchUp_33 : decode cX12_catchUp 33 = .ok (.getfield 93, 3) := by decide +kernel
theorem dX12_catchUp_36 : decode cX12_catchUp 36 = .ok (.iconst 3, 1) := by decide +kernel
theorem dX12_catchUp_37 : decode cX12_catchUp 37 = .ok (.iload_n 1, 1) := by decide +kernel
theorem dX12_catchUp_38 : decode cX12_catchUp 38 = .ok (.iadd, 1) := by decide +kernel
theorem dX12_catchUp_39 : decode cX12_catchUp 39 = .ok (.iconst 1, 1) := by decide +kernel
theorem dX12_catchUp_40 : decode cX12_catchUp 40 = .ok (.isub, 1) := by decide +kernel
theorem dX12_catchUp_41 : decode cX12_catchUp 41 = .ok (.iload_n 2, 1) := by decide +kernel
theorem dX12_catchUp_42 : decode cX12_catchUp 42 = .ok (.iastore, 1) := by decide +kernel
theorem dX12_catchUp_43 : decode cX12_catchUp 43 = .ok (.aload_n 0, 1) := by decide +kernel
theorem dX12_catchUp_44 : decode cX12_catchUp 44 = .ok (.iconst 1, 1) := by decide +kernel
theorem dX12_catchUp_45 : decode cX12_catchUp 45 = .ok (.iconst 0, 1) := by decide +kernel
theorem dX12_catchUp_46 : decode cX12_catchUp 46 = .ok (.invokevirtual 410, 3) := by decide +kernel
theorem dX12_catchUp_49 : decode cX12_catchUp 49 = .ok (.aload_n 0, 1) := by decide +kernel
theorem dX12_catchUp_50 : decode cX12_catchUp 50 = .ok (.iconst 1, 1) := by decide +kernel
theorem dX12_catchUp_51 : decode cX12_catchUp 51 = .ok (.iload_n 1, 1) := by decide +kernel
theorem dX12_catchUp_52 : decode cX12_catchUp 52 = .ok (.invokevirtual 463, 3) := by decide +kernel
theorem dX12_catchUp_55 : decode cX12_catchUp 55 = .ok (.ifCond .ne 5, 3) := by decide +kernel
theorem dX12_catchUp_58 : decode cX12_catchUp 58 = .ok (.iload_n 2, 1) := by decide +kernel
theorem dX12_catchUp_59 : decode cX12_catchUp 59 = .ok (.ireturn, 1) := by decide +kernel
theorem dX12_catchUp_60 : decode cX12_catchUp 60 = .ok (.iinc 2 1, 3) := by decide +kernel
theorem dX12_catchUp_63 : decode cX12_catchUp 63 = .ok (.goto (-42), 3) := by decide +kernel
theorem dX12_catchUp_66 : decode cX12_catchUp 66 = .ok (.bipush (-2), 2) := by decide +kernel
theorem dX12_catchUp_68 : decode cX12_catchUp 68 = .ok (.ireturn, 1) := by decide +kernel
theorem dX12_isAnyLate_0 : decode cX12_isAnyLate 0 = .ok (.iconst 0, 1) := by decide +kernel
theorem dX12_isAnyLate_1 : decode cX12_isAnyLate 1 = .ok (.istore_n 1, 1) := by decide +kernel
theorem dX12_isAnyLate_2 : decode cX12_isAnyLate 2 = .ok (.iload_n 1, 1) := by decide +kernel
theorem dX12_isAnyLate_3 : decode cX12_isAnyLate 3 = .ok (.aload_n 0, 1) := by decide +kernel
theorem dX12_isAnyLate_4 : decode cX12_isAnyLate 4 = .ok (.getfield 13, 3) := by decide +kernel
theorem dX12_isAnyLate_7 : decode cX12_isAnyLate 7 = .ok (.iconst 2, 1) := by decide +kernel
theorem dX12_isAnyLate_8 : decode cX12_isAnyLate 8 = .ok (.iaload, 1) := by decide +kernel
theorem dX12_isAnyLate_9 : decode cX12_isAnyLate 9 = .ok (.if_icmp .ge 20, 3) := by decide +kernel
theorem dX12_isAnyLate_12 : decode cX12_isAnyLate 12 = .ok (.aload_n 0, 1) := by decide +kernel
theorem dX12_isAnyLate_13 : decode cX12_isAnyLate 13 = .ok (.iconst 1, 1) := by decide +kernel
theorem dX12_isAnyLate_14 : decode cX12_isAnyLate 14 = .ok (.iload_n 1, 1) := by decide +kernel
theorem dX12_isAnyLate_15 : decode cX12_isAnyLate 15 = .ok (.invokevirtual 463, 3) := by decide +kernel
theorem dX12_isAnyLate_18 : decode cX12_isAnyLate 18 = .ok (.ifCond .le 5, 3) := by decide +kernel
theorem dX12_isAnyLate_21 : decode cX12_isAnyLate 21 = .ok (.iconst 1, 1) := by decide +kernel
theorem dX12_isAnyLate_22 : decode cX12_isAnyLate 22 = .ok (.ireturn, 1) := by decide +kernel
theorem dX12_isAnyLate_23 : decode cX12_isAnyLate 23 = .ok (.iinc 1 1, 3) := by decide +kernel
theorem dX12_isAnyLate_26 : decode cX12_isAnyLate 26 = .ok (.goto (-24), 3) := by decide +kernel
theorem dX12_isAnyLate_29 : decode cX12_isAnyLate 29 = .ok (.iconst 0, 1) := by decide +kernel
theorem dX12_isAnyLate_30 : decode cX12_isAnyLate 30 = .ok (.ireturn, 1) := by decide +kernel
theorem dX12_hands_0 : decode cX12_hands 0 = .ok (.aload_n 0, 1) := by decide +kernel
theorem dX12_hands_1 : decode cX12_hands 1 = .ok (.iconst 0, 1) := by decide +kernel
theorem dX12_hands_2 : decode cX12_hands 2 = .ok (.putfield 157, 3) := by decide +kernel
theorem dX12_hands_5 : decode cX12_hands 5 = .ok (.bipush (-2), 2) := by decide +kernel
theorem dX12_hands_7 : decode cX12_hands 7 = .ok (.istore_n 1, 1) := by decide +kernel
theorem dX12_hands_8 : decode cX12_hands 8 = .ok (.bipush 9, 2) := by decide +kernel
theorem dX12_hands_10 : decode cX12_hands 10 = .ok (.istore_n 2, 1) := by decide +kernel
theorem dX12_hands_11 : decode cX12_hands 11 = .ok (.iload_n 2, 1) := by decide +kernel
theorem dX12_hands_12 : decode cX12_hands 12 = .ok (.iconst 1, 1) := by decide +kernel
theorem dX12_hands_13 : decode cX12_hands 13 = .ok (.if_icmp .lt 27, 3) := by decide +kernel
theorem dX12_hands_16 : decode cX12_hands 16 = .ok (.aload_n 0, 1) := by decide +kernel
theorem dX12_hands_17 : decode cX12_hands 17 = .ok (.iload_n 2, 1) := by decide +kernel
theorem dX12_hands_18 : decode cX12_hands 18 = .ok (.putfield 362, 3) := by decide +kernel
theorem dX12_hands_21 : decode cX12_hands 21 = .ok (.aload_n 0, 1) := by decide +kernel
theorem dX12_hands_22 : decode cX12_hands 22 = .ok (.invokevirtual 430, 3) := by decide +kernel
theorem dX12_hands_25 : decode cX12_hands 25 = .ok (.aload_n 0, 1) := by decide +kernel
theorem dX12_hands_26 : decode cX12_hands 26 = .ok (.invokevirtual 466, 3) := by decide +kernel
theorem dX12_hands_29 : decode cX12_hands 29 = .ok (.ifCond .ne 5, 3) := by decide +kernel
theorem dX12_hands_32 : decode cX12_hands 32 = .ok (.iload_n 2, 1) := by decide +kernel
theorem dX12_hands_33 : decode cX12_hands 33 = .ok (.istore_n 1, 1) := by decide +kernel
theorem dX12_hands_34 : decode cX12_hands 34 = .ok (.iinc 2 (-1), 3) := by decide +kernel
theorem dX12_hands_37 : decode cX12_hands 37 = .ok (.goto (-26), 3) := by decide +kernel
theorem dX12_hands_40 : decode cX12_hands 40 = .ok (.aload_n 0, 1) := by decide +kernel
theorem dX12_hands_41 : decode cX12_hands 41 = .ok (.iconst 0, 1) := by decide +kernel
theorem dX12_hands_42 : decode cX12_hands 42 = .ok (.putfield 362, 3) := by decide +kernel
theorem dX12_hands_45 : decode cX12_hands 45 = .ok (.iload_n 1, 1) := by decide +kernel
theorem dX12_hands_46 : decode cX12_hands 46 = .ok (.ireturn, 1) := by decide +kernel
theorem dX12_later_0 : decode cX12_later 0 = .ok (.aload_n 0, 1) := by decide +kernel
theorem dX12_later_1 : decode cX12_later 1 = .ok (.iconst 0, 1) := by decide +kernel
theorem dX12_later_2 : decode cX12_later 2 = .ok (.putfield 157, 3) := by decide +kernel
theorem dX12_later_5 : decode cX12_later 5 = .ok (.aload_n 0, 1) := by decide +kernel
theorem dX12_later_6 : decode cX12_later 6 = .ok (.iload_n 1, 1) := by decide +kernel
theorem dX12_later_7 : decode cX12_later 7 = .ok (.invokevirtual 417, 3) := by decide +kernel
theorem dX12_later_10 : decode cX12_later 10 = .ok (.ifCond .ne 5, 3) := by decide +kernel
theorem dX12_later_13 : decode cX12_later 13 = .ok (.iconst (-1), 1) := by decide +kernel
theorem dX12_later_14 : decode cX12_later 14 = .ok (.ireturn, 1) := by decide +kernel
theorem dX12_later_15 : decode cX12_later 15 = .ok (.iconst 0, 1) := by decide +kernel
theorem dX12_later_16 : decode cX12_later 16 = .ok (.istore_n 2, 1) := by decide +kernel
theorem dX12_later_17 : decode cX12_later 17 = .ok (.iload_n 2, 1) := by decide +kernel
theorem dX12_later_18 : decode cX12_later 18 = .ok (.aload_n 0, 1) := by decide +kernel
theorem dX12_later_19 : decode cX12_later 19 = .ok (.getfield 13, 3) := by decide +kernel
theorem dX12_later_22 : decode cX12_later 22 = .ok (.iconst 2, 1) := by decide +kernel
theorem dX12_later_23 : decode cX12_later 23 = .ok (.iaload, 1) := by decide +kernel
theorem dX12_later_24 : decode cX12_later 24 = .ok (.if_icmp .ge 28, 3) := by decide +kernel
theorem dX12_later_27 : decode cX12_later 27 = .ok (.aload_n 0, 1) := by decide +kernel
theorem dX12_later_28 : decode cX12_later 28 = .ok (.invokevirtual 430, 3) := by decide +kernel
theorem dX12_later_31 : decode cX12_later 31 = .ok (.aload_n 0, 1) := by decide +kernel
theorem dX12_later_32 : decode cX12_later 32 = .ok (.getfield 117, 3) := by decide +kernel
theorem dX12_later_35 : decode cX12_later 35 = .ok (.iload_n 2, 1) := by decide +kernel
theorem dX12_later_36 : decode cX12_later 36 = .ok (.dup2, 1) := by decide +kernel
theorem dX12_later_37 : decode cX12_later 37 = .ok (.iaload, 1) := by decide +kernel
theorem dX12_later_38 : decode cX12_later 38 = .ok (.aload_n 0, 1) := by decide +kernel
theorem dX12_later_39 : decode cX12_later 39 = .ok (.iconst 1, 1) := by decide +kernel
theorem dX12_later_40 : decode cX12_later 40 = .ok (.iload_n 2, 1) := by decide +kernel
theorem dX12_later_41 : decode cX12_later 41 = .ok (.invokevirtual 463, 3) := by decide +kernel
theorem dX12_later_44 : decode cX12_later 44 = .ok (.iadd, 1) := by decide +kernel
theorem dX12_later_45 : decode cX12_later 45 = .ok (.iastore, 1) := by decide +kernel
theorem dX12_later_46 : decode cX12_later 46 = .ok (.iinc 2 1, 3) := by decide +kernel
theorem dX12_later_49 : decode cX12_later 49 = .ok (.goto (-32), 3) := by decide +kernel
theorem dX12_later_52 : decode cX12_later 52 = .ok (.aload_n 0, 1) := by decide +kernel
theorem dX12_later_53 : decode cX12_later 53 = .ok (.getfield 117, 3) := by decide +kernel
theorem dX12_later_56 : decode cX12_later 56 = .ok (.iload_n 1, 1) := by decide +kernel
theorem dX12_later_57 : decode cX12_later 57 = .ok (.iaload, 1) := by decide +kernel
theorem dX12_later_58 : decode cX12_later 58 = .ok (.istore_n 2, 1) := by decide +kernel
theorem dX12_later_59 : decode cX12_later 59 = .ok (.iconst 0, 1) := by decide +kernel
theorem dX12_later_60 : decode cX12_later 60 = .ok (.istore_n 3, 1) := by decide +kernel
theorem dX12_later_61 : decode cX12_later 61 = .ok (.iload_n 3, 1) := by decide +kernel
theorem dX12_later_62 : decode cX12_later 62 = .ok (.iconst 3, 1) := by decide +kernel
theorem dX12_later_63 : decode cX12_later 63 = .ok (.if_icmp .ge 16, 3) := by decide +kernel
theorem dX12_later_66 : decode cX12_later 66 = .ok (.aload_n 0, 1) := by decide +kernel
theorem dX12_later_67 : decode cX12_later 67 = .ok (.getfield 117, 3) := by decide +kernel
theorem dX12_later_70 : decode cX12_later 70 = .ok (.iload_n 3, 1) := by decide +kernel
theorem dX12_later_71 : decode cX12_later 71 = .ok (.iconst 0, 1) := by decide +kernel
theorem dX12_later_72 : decode cX12_later 72 = .ok (.iastore, 1) := by decide +kernel
theorem dX12_later_73 : decode cX12_later 73 = .ok (.iinc 3 1, 3) := by decide +kernel
theorem dX12_later_76 : decode cX12_later 76 = .ok (.goto (-15), 3) := by decide +kernel
theorem dX12_later_79 : decode cX12_later 79 = .ok (.iload_n 2, 1) := by decide +kernel
theorem dX12_later_80 : decode cX12_later 80 = .ok (.ireturn, 1) := by decide +kernel
theorem dX12_swap_0 : decode cX12_swap 0 = .ok (.aload_n 0, 1) := by decide +kernel
theorem dX12_swap_1 : decode cX12_swap 1 = .ok (.iconst 0, 1) := by decide +kernel
theorem dX12_swap_2 : decode cX12_swap 2 = .ok (.putfield 157, 3) := by decide +kernel
theorem dX12_swap_5 : decode cX12_swap 5 = .ok (.iload_n 1, 1) := by decide +kernel
theorem dX12_swap_6 : decode cX12_swap 6 = .ok (.ifCond .lt 8, 3) := by decide +kernel
theorem dX12_swap_9 : decode cX12_swap 9 = .ok (.iload_n 1, 1) := by decide +kernel
theorem dX12_swap_10 : decode cX12_swap 10 = .ok (.iconst 1, 1) := by decide +kernel
theorem dX12_swap_11 : decode cX12_swap 11 = .ok (.if_icmp .le 5, 3) := by decide +kernel
theorem dX12_swap_14 : decode cX12_swap 14 = .ok (.iconst (-1), 1) := by decide +kernel
theorem dX12_swap_15 : decode cX12_swap 15 = .ok (.ireturn, 1) := by decide +kernel
theorem dX12_swap_16 : decode cX12_swap 16 = .ok (.iconst 0, 1) := by decide +kernel
theorem dX12_swap_17 : decode cX12_swap 17 = .ok (.istore_n 2, 1) := by decide +kernel
theorem dX12_swap_18 : decode cX12_swap 18 = .ok (.iload_n 2, 1) := by decide +kernel
theorem dX12_swap_19 : decode cX12_swap 19 = .ok (.aload_n 0, 1) := by decide +kernel
theorem dX12_swap_20 : decode cX12_swap 20 = .ok (.getfield 13, 3) := by decide +kernel
theorem dX12_swap_23 : decode cX12_swap 23 = .ok (.iconst 0, 1) := by decide +kernel
theorem dX12_swap_24 : decode cX12_swap 24 = .ok (.iaload, 1) := by decide +kernel
theorem dX12_swap_25 : decode cX12_swap 25 = .ok (.if_icmp .ge 85, 3) := by decide +kernel
theorem dX12_swap_28 : decode cX12_swap 28 = .ok (.iload_n 2, 1) := by decide +kernel
theorem dX12_swap_29 : decode cX12_swap 29 = .ok (.iconst 1, 1) := by decide +kernel
theorem dX12_swap_30 : decode cX12_swap 30 = .ok (.iadd, 1) := by decide +kernel
theorem dX12_swap_31 : decode cX12_swap 31 = .ok (.istore_n 3, 1) := by decide +kernel
theorem dX12_swap_32 : decode cX12_swap 32 = .ok (.iload_n 3, 1) := by decide +kernel
theorem dX12_swap_33 : decode cX12_swap 33 = .ok (.aload_n 0, 1) := by decide +kernel
theorem dX12_swap_34 : decode cX12_swap 34 = .ok (.getfield 13, 3) := by decide +kernel
theorem dX12_swap_37 : decode cX12_swap 37 = .ok (.iconst 0, 1) := by decide +kernel
theorem dX12_swap_38 : decode cX12_swap 38 = .ok (.iaload, 1) := by decide +kernel
theorem dX12_swap_39 : decode cX12_swap 39 = .ok (.if_icmp .ge 65, 3) := by decide +kernel
theorem dX12_swap_42 : decode cX12_swap 42 = .ok (.aload_n 0, 1) := by decide +kernel
theorem dX12_swap_43 : decode cX12_swap 43 = .ok (.iload_n 2, 1) := by decide +kernel
theorem dX12_swap_44 : decode cX12_swap 44 = .ok (.aload_n 0, 1) := by decide +kernel
theorem dX12_swap_45 : decode cX12_swap 45 = .ok (.getfield 78, 3) := by decide +kernel
theorem dX12_swap_48 : decode cX12_swap 48 = .ok (.iload_n 3, 1) := by decide +kernel
theorem dX12_swap_49 : decode cX12_swap 49 = .ok (.iaload, 1) := by decide +kernel
theorem dX12_swap_50 : decode cX12_swap 50 = .ok (.invokevirtual 469, 3) := by decide +kernel
theorem dX12_swap_53 : decode cX12_swap 53 = .ok (.ifCond .eq 45, 3) := by decide +kernel
theorem dX12_swap_56 : decode cX12_swap 56 = .ok (.aload_n 0, 1) := by decide +kernel
theorem dX12_swap_57 : decode cX12_swap 57 = .ok (.iload_n 3, 1) := by decide +kernel
theorem dX12_swap_58 : decode cX12_swap 58 = .ok (.aload_n 0, 1) := by decide +kernel
theorem dX12_swap_59 : decode cX12_swap 59 = .ok (.getfield 78, 3) := by decide +kernel
theorem dX12_swap_62 : decode cX12_swap 62 = .ok (.iload_n 2, 1) := by decide +kernel
theorem dX12_swap_63 : decode cX12_swap 63 = .ok (.iaload, 1) := by decide +kernel
theorem dX12_swap_64 : decode cX12_swap 64 = .ok (.invokevirtual 469, 3) := by decide +kernel
theorem dX12_swap_67 : decode cX12_swap 67 = .ok (.ifCond .eq 31, 3) := by decide +kernel
theorem dX12_swap_70 : decode cX12_swap 70 = .ok (.aload_n 0, 1) := by decide +kernel
theorem dX12_swap_71 : decode cX12_swap 71 = .ok (.iload_n 2, 1) := by decide +kernel
theorem dX12_swap_72 : decode cX12_swap 72 = .ok (.iload_n 3, 1) := by decide +kernel
theorem dX12_swap_73 : decode cX12_swap 73 = .ok (.invokevirtual 472, 3) := by decide +kernel
theorem dX12_swap_76 : decode cX12_swap 76 = .ok (.ifCond .eq 22, 3) := by decide +kernel
theorem dX12_swap_79 : decode cX12_swap 79 = .ok (.aload_n 0, 1) := by decide +kernel
theorem dX12_swap_80 : decode cX12_swap 80 = .ok (.iload_n 3, 1) := by decide +kernel
theorem dX12_swap_81 : decode cX12_swap 81 = .ok (.iload_n 2, 1) := by decide +kernel
theorem dX12_swap_82 : decode cX12_swap 82 = .ok (.invokevirtual 472, 3) := by decide +kernel
theorem dX12_swap_85 : decode cX12_swap 85 = .ok (.ifCond .eq 13, 3) := by decide +kernel
theorem dX12_swap_88 : decode cX12_swap 88 = .ok (.iload_n 1, 1) := by decide +kernel
theorem dX12_swap_89 : decode cX12_swap 89 = .ok (.ifCond .ne 7, 3) := by decide +kernel
theorem dX12_swap_92 : decode cX12_swap 92 = .ok (.iload_n 2, 1) := by decide +kernel
theorem dX12_swap_93 : decode cX12_swap 93 = .ok (.goto 4, 3) := by decide +kernel
theorem dX12_swap_96 : decode cX12_swap 96 = .ok (.iload_n 3, 1) := by decide +kernel
theorem dX12_swap_97 : decode cX12_swap 97 = .ok (.ireturn, 1) := by decide +kernel
theorem dX12_swap_98 : decode cX12_swap 98 = .ok (.iinc 3 1, 3) := by decide +kernel
theorem dX12_swap_101 : decode cX12_swap 101 = .ok (.goto (-69), 3) := by decide +kernel
theorem dX12_swap_104 : decode cX12_swap 104 = .ok (.iinc 2 1, 3) := by decide +kernel
theorem dX12_swap_107 : decode cX12_swap 107 = .ok (.goto (-89), 3) := by decide +kernel
theorem dX12_swap_110 : decode cX12_swap 110 = .ok (.bipush (-2), 2) := by decide +kernel
theorem dX12_swap_112 : decode cX12_swap 112 = .ok (.ireturn, 1) := by decide +kernel
theorem dX12_gains_0 : decode cX12_gains 0 = .ok (.aload_n 0, 1) := by decide +kernel
theorem dX12_gains_1 : decode cX12_gains 1 = .ok (.getfield 78, 3) := by decide +kernel
theorem dX12_gains_4 : decode cX12_gains 4 = .ok (.iload_n 1, 1) := by decide +kernel
theorem dX12_gains_5 : decode cX12_gains 5 = .ok (.iaload, 1) := by decide +kernel
theorem dX12_gains_6 : decode cX12_gains 6 = .ok (.iconst (-1), 1) := by decide +kernel
theorem dX12_gains_7 : decode cX12_gains 7 = .ok (.if_icmp .ne 7, 3) := by decide +kernel
theorem dX12_gains_10 : decode cX12_gains 10 = .ok (.iconst 0, 1) := by decide +kernel
theorem dX12_gains_11 : decode cX12_gains 11 = .ok (.goto 16, 3) := by decide +kernel
theorem dX12_gains_14 : decode cX12_gains 14 = .ok (.aload_n 0, 1) := by decide +kernel
theorem dX12_gains_15 : decode cX12_gains 15 = .ok (.iconst 0, 1) := by decide +kernel
theorem dX12_gains_16 : decode cX12_gains 16 = .ok (.iload_n 1, 1) := by decide +kernel
theorem dX12_gains_17 : decode cX12_gains 17 = .ok (.aload_n 0, 1) := by decide +kernel
theorem dX12_gains_18 : decode cX12_gains 18 = .ok (.getfield 78, 3) := by decide +kernel
theorem dX12_gains_21 : decode cX12_gains 21 = .ok (.iload_n 1, 1) := by decide +kernel
theorem dX12_gains_22 : decode cX12_gains 22 = .ok (.iaload, 1) := by decide +kernel
theorem dX12_gains_23 : decode cX12_gains 23 = .ok (.iconst 0, 1) := by decide +kernel
theorem dX12_gains_24 : decode cX12_gains 24 = .ok (.invokevirtual 375, 3) := by decide +kernel
theorem dX12_gains_27 : decode cX12_gains 27 = .ok (.istore_n 3, 1) := by decide +kernel
theorem dX12_gains_28 : decode cX12_gains 28 = .ok (.iload_n 2, 1) := by decide +kernel
theorem dX12_gains_29 : decode cX12_gains 29 = .ok (.iconst (-1), 1) := by decide +kernel
theorem dX12_gains_30 : decode cX12_gains 30 = .ok (.if_icmp .ne 7, 3) := by decide +kernel
theorem dX12_gains_33 : decode cX12_gains 33 = .ok (.iconst 0, 1) := by decide +kernel
theorem dX12_gains_34 : decode cX12_gains 34 = .ok (.goto 11, 3) := by decide +kernel
theorem dX12_gains_37 : decode cX12_gains 37 = .ok (.aload_n 0, 1) := by decide +kernel
theorem dX12_gains_38 : decode cX12_gains 38 = .ok (.iconst 0, 1) := by decide +kernel
theorem dX12_gains_39 : decode cX12_gains 39 = .ok (.iload_n 1, 1) := by decide +kernel
theorem dX12_gains_40 : decode cX12_gains 40 = .ok (.iload_n 2, 1) := by decide +kernel
theorem dX12_gains_41 : decode cX12_gains 41 = .ok (.iconst 0, 1) := by decide +kernel
theorem dX12_gains_42 : decode cX12_gains 42 = .ok (.invokevirtual 375, 3) := by decide +kernel
theorem dX12_gains_45 : decode cX12_gains 45 = .ok (.iload_n 3, 1) := by decide +kernel
theorem dX12_gains_46 : decode cX12_gains 46 = .ok (.if_icmp .le 7, 3) := by decide +kernel
theorem dX12_gains_49 : decode cX12_gains 49 = .ok (.iconst 1, 1) := by decide +kernel
theorem dX12_gains_50 : decode cX12_gains 50 = .ok (.goto 4, 3) := by decide +kernel
theorem dX12_gains_53 : decode cX12_gains 53 = .ok (.iconst 0, 1) := by decide +kernel
theorem dX12_gains_54 : decode cX12_gains 54 = .ok (.ireturn, 1) := by decide +kernel
theorem dX12_fits_0 : decode cX12_fits 0 = .ok (.aload_n 0, 1) := by decide +kernel
theorem dX12_fits_1 : decode cX12_fits 1 = .ok (.getfield 78, 3) := by decide +kernel
theorem dX12_fits_4 : decode cX12_fits 4 = .ok (.iload_n 2, 1) := by decide +kernel
theorem dX12_fits_5 : decode cX12_fits 5 = .ok (.iaload, 1) := by decide +kernel
theorem dX12_fits_6 : decode cX12_fits 6 = .ok (.istore_n 3, 1) := by decide +kernel
theorem dX12_fits_7 : decode cX12_fits 7 = .ok (.iload_n 3, 1) := by decide +kernel
theorem dX12_fits_8 : decode cX12_fits 8 = .ok (.iconst (-1), 1) := by decide +kernel
theorem dX12_fits_9 : decode cX12_fits 9 = .ok (.if_icmp .eq 39, 3) := by decide +kernel
theorem dX12_fits_12 : decode cX12_fits 12 = .ok (.aload_n 0, 1) := by decide +kernel
theorem dX12_fits_13 : decode cX12_fits 13 = .ok (.iload_n 3, 1) := by decide +kernel
theorem dX12_fits_14 : decode cX12_fits 14 = .ok (.invokevirtual 420, 3) := by decide +kernel
theorem dX12_fits_17 : decode cX12_fits 17 = .ok (.aload_n 0, 1) := by decide +kernel
theorem dX12_fits_18 : decode cX12_fits 18 = .ok (.getfield 19, 3) := by decide +kernel
theorem dX12_fits_21 : decode cX12_fits 21 = .ok (.iload_n 2, 1) := by decide +kernel
theorem dX12_fits_22 : decode cX12_fits 22 = .ok (.iaload, 1) := by decide +kernel
theorem dX12_fits_23 : decode cX12_fits 23 = .ok (.isub, 1) := by decide +kernel
theorem dX12_fits_24 : decode cX12_fits 24 = .ok (.aload_n 0, 1) := by decide +kernel
theorem dX12_fits_25 : decode cX12_fits 25 = .ok (.getfield 19, 3) := by decide +kernel
theorem dX12_fits_28 : decode cX12_fits 28 = .ok (.iload_n 1, 1) := by decide +kernel
theorem dX12_fits_29 : decode cX12_fits 29 = .ok (.iaload, 1) := by decide +kernel
theorem dX12_fits_30 : decode cX12_fits 30 = .ok (.iadd, 1) := by decide +kernel
theorem dX12_fits_31 : decode cX12_fits 31 = .ok (.aload_n 0, 1) := by decide +kernel
theorem dX12_fits_32 : decode cX12_fits 32 = .ok (.getfield 13, 3) := by decide +kernel
theorem dX12_fits_35 : decode cX12_fits 35 = .ok (.iconst 1, 1) := by decide +kernel
theorem dX12_fits_36 : decode cX12_fits 36 = .ok (.iaload, 1) := by decide +kernel
theorem dX12_fits_37 : decode cX12_fits 37 = .ok (.aload_n 0, 1) := by decide +kernel
theorem dX12_fits_38 : decode cX12_fits 38 = .ok (.getfield 13, 3) := by decide +kernel
theorem dX12_fits_41 : decode cX12_fits 41 = .ok (.bipush 6, 2) := by decide +kernel
theorem dX12_fits_43 : decode cX12_fits 43 = .ok (.iaload, 1) := by decide +kernel
theorem dX12_fits_44 : decode cX12_fits 44 = .ok (.iadd, 1) := by decide +kernel
theorem dX12_fits_45 : decode cX12_fits 45 = .ok (.if_icmp .gt 7, 3) := by decide +kernel
theorem dX12_fits_48 : decode cX12_fits 48 = .ok (.iconst 1, 1) := by decide +kernel
theorem dX12_fits_49 : decode cX12_fits 49 = .ok (.goto 4, 3) := by decide +kernel
theorem dX12_fits_52 : decode cX12_fits 52 = .ok (.iconst 0, 1) := by decide +kernel
theorem dX12_fits_53 : decode cX12_fits 53 = .ok (.ireturn, 1) := by decide +kernel
theorem dX12_has_0 : decode cX12_has 0 = .ok (.iload_n 1, 1) := by decide +kernel
theorem dX12_has_1 : decode cX12_has 1 = .ok (.ifCond .ne 7, 3) := by decide +kernel
theorem dX12_has_4 : decode cX12_has 4 = .ok (.iconst 0, 1) := by decide +kernel
theorem dX12_has_5 : decode cX12_has 5 = .ok (.goto 17, 3) := by decide +kernel
theorem dX12_has_8 : decode cX12_has 8 = .ok (.iload_n 2, 1) := by decide +kernel
theorem dX12_has_9 : decode cX12_has 9 = .ok (.ifCond .ne 7, 3) := by decide +kernel
theorem dX12_has_12 : decode cX12_has 12 = .ok (.iload_n 3, 1) := by decide +kernel
theorem dX12_has_13 : decode cX12_has 13 = .ok (.goto 9, 3) := by decide +kernel
theorem dX12_has_16 : decode cX12_has 16 = .ok (.iload_n 3, 1) := by decide +kernel
theorem dX12_has_17 : decode cX12_has 17 = .ok (.iconst 2, 1) := by decide +kernel
theorem dX12_has_18 : decode cX12_has 18 = .ok (.iload 4, 2) := by decide +kernel
theorem dX12_has_20 : decode cX12_has 20 = .ok (.imul, 1) := by decide +kernel
theorem dX12_has_21 : decode cX12_has 21 = .ok (.isub, 1) := by decide +kernel
theorem dX12_has_22 : decode cX12_has 22 = .ok (.ireturn, 1) := by decide +kernel
theorem dX12_isRest_0 : decode cX12_isRest 0 = .ok (.aload_n 0, 1) := by decide +kernel
theorem dX12_isRest_1 : decode cX12_isRest 1 = .ok (.getfield 28, 3) := by decide +kernel
theorem dX12_isRest_4 : decode cX12_isRest 4 = .ok (.iload_n 3, 1) := by decide +kernel
theorem dX12_isRest_5 : decode cX12_isRest 5 = .ok (.iaload, 1) := by decide +kernel
theorem dX12_isRest_6 : decode cX12_isRest 6 = .ok (.istore 5, 2) := by decide +kernel
theorem dX12_isRest_8 : decode cX12_isRest 8 = .ok (.aload_n 0, 1) := by decide +kernel
theorem dX12_isRest_9 : decode cX12_isRest 9 = .ok (.getfield 28, 3) := by decide +kernel
theorem dX12_isRest_12 : decode cX12_isRest 12 = .ok (.iload 4, 2) := by decide +kernel
theorem dX12_isRest_14 : decode cX12_isRest 14 = .ok (.iaload, 1) := by decide +kernel
theorem dX12_isRest_15 : decode cX12_isRest 15 = .ok (.istore 6, 2) := by decide +kernel
theorem dX12_isRest_17 : decode cX12_isRest 17 = .ok (.aload_n 0, 1) := by decide +kernel
theorem dX12_isRest_18 : decode cX12_isRest 18 = .ok (.iconst 1, 1) := by decide +kernel
theorem dX12_isRest_19 : decode cX12_isRest 19 = .ok (.iload_n 1, 1) := by decide +kernel
theorem dX12_isRest_20 : decode cX12_isRest 20 = .ok (.isub, 1) := by decide +kernel
theorem dX12_isRest_21 : decode cX12_isRest 21 = .ok (.iload_n 2, 1) := by decide +kernel
theorem dX12_isRest_22 : decode cX12_isRest 22 = .ok (.iload 5, 2) := by decide +kernel
theorem dX12_isRest_24 : decode cX12_isRest 24 = .ok (.iload 6, 2) := by decide +kernel
theorem dX12_isRest_26 : decode cX12_isRest 26 = .ok (.invokevirtual 475, 3) := by decide +kernel
theorem dX12_isRest_29 : decode cX12_isRest 29 = .ok (.aload_n 0, 1) := by decide +kernel
theorem dX12_isRest_30 : decode cX12_isRest 30 = .ok (.iload_n 1, 1) := by decide +kernel
theorem dX12_isRest_31 : decode cX12_isRest 31 = .ok (.iload_n 2, 1) := by decide +kernel
theorem dX12_isRest_32 : decode cX12_isRest 32 = .ok (.iload 5, 2) := by decide +kernel
theorem dX12_isRest_34 : decode cX12_isRest 34 = .ok (.iload 6, 2) := by decide +kernel
theorem dX12_isRest_36 : decode cX12_isRest 36 = .ok (.invokevirtual 475, 3) := by decide +kernel
theorem dX12_isRest_39 : decode cX12_isRest 39 = .ok (.if_icmp .gt 32, 3) := by decide +kernel
theorem dX12_isRest_42 : decode cX12_isRest 42 = .ok (.aload_n 0, 1) := by decide +kernel
theorem dX12_isRest_43 : decode cX12_isRest 43 = .ok (.iconst 1, 1) := by decide +kernel
theorem dX12_isRest_44 : decode cX12_isRest 44 = .ok (.iload_n 2, 1) := by decide +kernel
theorem dX12_isRest_45 : decode cX12_isRest 45 = .ok (.isub, 1) := by decide +kernel
theorem dX12_isRest_46 : decode cX12_isRest 46 = .ok (.iload_n 1, 1) := by decide +kernel
theorem dX12_isRest_47 : decode cX12_isRest 47 = .ok (.iload 6, 2) := by decide +kernel
theorem dX12_isRest_49 : decode cX12_isRest 49 = .ok (.iload 5, 2) := by decide +kernel
theorem dX12_isRest_51 : decode cX12_isRest 51 = .ok (.invokevirtual 475, 3) := by decide +kernel
theorem dX12_isRest_54 : decode cX12_isRest 54 = .ok (.aload_n 0, 1) := by decide +kernel
theorem dX12_isRest_55 : decode cX12_isRest 55 = .ok (.iload_n 2, 1) := by decide +kernel
theorem dX12_isRest_56 : decode cX12_isRest 56 = .ok (.iload_n 1, 1) := by decide +kernel
theorem dX12_isRest_57 : decode cX12_isRest 57 = .ok (.iload 6, 2) := by decide +kernel
theorem dX12_isRest_59 : decode cX12_isRest 59 = .ok (.iload 5, 2) := by decide +kernel
theorem dX12_isRest_61 : decode cX12_isRest 61 = .ok (.invokevirtual 475, 3) := by decide +kernel
theorem dX12_isRest_64 : decode cX12_isRest 64 = .ok (.if_icmp .gt 7, 3) := by decide +kernel
theorem dX12_isRest_67 : decode cX12_isRest 67 = .ok (.iconst 1, 1) := by decide +kernel
theorem dX12_isRest_68 : decode cX12_isRest 68 = .ok (.goto 4, 3) := by decide +kernel
theorem dX12_isRest_71 : decode cX12_isRest 71 = .ok (.iconst 0, 1) := by decide +kernel
theorem dX12_isRest_72 : decode cX12_isRest 72 = .ok (.ireturn, 1) := by decide +kernel
theorem dX12_restOf_0 : decode cX12_restOf 0 = .ok (.iconst 0, 1) := by decide +kernel
theorem dX12_restOf_1 : decode cX12_restOf 1 = .ok (.istore 4, 2) := by decide +kernel
theorem dX12_restOf_3 : decode cX12_restOf 3 = .ok (.iconst 0, 1) := by decide +kernel
theorem dX12_restOf_4 : decode cX12_restOf 4 = .ok (.istore 5, 2) := by decide +kernel
theorem dX12_restOf_6 : decode cX12_restOf 6 = .ok (.iload 5, 2) := by decide +kernel
theorem dX12_restOf_8 : decode cX12_restOf 8 = .ok (.iconst 4, 1) := by decide +kernel
theorem dX12_restOf_9 : decode cX12_restOf 9 = .ok (.if_icmp .ge 51, 3) := by decide +kernel
theorem dX12_restOf_12 : decode cX12_restOf 12 = .ok (.aload_n 0, 1) := by decide +kernel
theorem dX12_restOf_13 : decode cX12_restOf 13 = .ok (.iload 5, 2) := by decide +kernel
theorem dX12_restOf_15 : decode cX12_restOf 15 = .ok (.iconst 2, 1) := by decide +kernel
theorem dX12_restOf_16 : decode cX12_restOf 16 = .ok (.idiv, 1) := by decide +kernel
theorem dX12_restOf_17 : decode cX12_restOf 17 = .ok (.iload 5, 2) := by decide +kernel
theorem dX12_restOf_19 : decode cX12_restOf 19 = .ok (.iconst 2, 1) := by decide +kernel
theorem dX12_restOf_20 : decode cX12_restOf 20 = .ok (.irem, 1) := by decide +kernel
theorem dX12_restOf_21 : decode cX12_restOf 21 = .ok (.iload_n 1, 1) := by decide +kernel
theorem dX12_restOf_22 : decode cX12_restOf 22 = .ok (.iload_n 2, 1) := by decide +kernel
theorem dX12_restOf_23 : decode cX12_restOf 23 = .ok (.invokevirtual 478, 3) := by decide +kernel
theorem dX12_restOf_26 : decode cX12_restOf 26 = .ok (.ifCond .ne 6, 3) := by decide +kernel
theorem dX12_restOf_29 : decode cX12_restOf 29 = .ok (.goto 25, 3) := by decide +kernel
theorem dX12_restOf_32 : decode cX12_restOf 32 = .ok (.iload 4, 2) := by decide +kernel
theorem dX12_restOf_34 : decode cX12_restOf 34 = .ok (.iload_n 3, 1) := by decide +kernel
theorem dX12_restOf_35 : decode cX12_restOf 35 = .ok (.if_icmp .ne 16, 3) := by decide +kernel
theorem dX12_restOf_38 : decode cX12_restOf 38 = .ok (.bipush 10, 2) := by decide +kernel
theorem dX12_restOf_40 : decode cX12_restOf 40 = .ok (.iload 5, 2) := by decide +kernel
theorem dX12_restOf_42 : decode cX12_restOf 42 = .ok (.iconst 2, 1) := by decide +kernel
theorem dX12_restOf_43 : decode cX12_restOf 43 = .ok (.idiv, 1) := by decide +kernel
theorem dX12_restOf_44 : decode cX12_restOf 44 = .ok (.imul, 1) := by decide +kernel
theorem dX12_restOf_45 : decode cX12_restOf 45 = .ok (.iload 5, 2) := by decide +kernel
theorem dX12_restOf_47 : decode cX12_restOf 47 = .ok (.iconst 2, 1) := by decide +kernel
theorem dX12_restOf_48 : decode cX12_restOf 48 = .ok (.irem, 1) := by decide +kernel
theorem dX12_restOf_49 : decode cX12_restOf 49 = .ok (.iadd, 1) := by decide +kernel
theorem dX12_restOf_50 : decode cX12_restOf 50 = .ok (.ireturn, 1) := by decide +kernel
theorem dX12_restOf_51 : decode cX12_restOf 51 = .ok (.iinc 4 1, 3) := by decide +kernel
theorem dX12_restOf_54 : decode cX12_restOf 54 = .ok (.iinc 5 1, 3) := by decide +kernel
theorem dX12_restOf_57 : decode cX12_restOf 57 = .ok (.goto (-51), 3) := by decide +kernel
theorem dX12_restOf_60 : decode cX12_restOf 60 = .ok (.iload_n 3, 1) := by decide +kernel
theorem dX12_restOf_61 : decode cX12_restOf 61 = .ok (.iconst (-1), 1) := by decide +kernel
theorem dX12_restOf_62 : decode cX12_restOf 62 = .ok (.if_icmp .ne 8, 3) := by decide +kernel
theorem dX12_restOf_65 : decode cX12_restOf 65 = .ok (.iload 4, 2) := by decide +kernel
theorem dX12_restOf_67 : decode cX12_restOf 67 = .ok (.goto 5, 3) := by decide +kernel
theorem dX12_restOf_70 : decode cX12_restOf 70 = .ok (.bipush (-2), 2) := by decide +kernel
theorem dX12_restOf_72 : decode cX12_restOf 72 = .ok (.ireturn, 1) := by decide +kernel
theorem dX12_areTwo_0 : decode cX12_areTwo 0 = .ok (.aload_n 0, 1) := by decide +kernel
theorem dX12_areTwo_1 : decode cX12_areTwo 1 = .ok (.iload_n 1, 1) := by decide +kernel
theorem dX12_areTwo_2 : decode cX12_areTwo 2 = .ok (.invokevirtual 414, 3) := by decide +kernel
theorem dX12_areTwo_5 : decode cX12_areTwo 5 = .ok (.ifCond .eq 20, 3) := by decide +kernel
theorem dX12_areTwo_8 : decode cX12_areTwo 8 = .ok (.aload_n 0, 1) := by decide +kernel
theorem dX12_areTwo_9 : decode cX12_areTwo 9 = .ok (.iload_n 2, 1) := by decide +kernel
theorem dX12_areTwo_10 : decode cX12_areTwo 10 = .ok (.invokevirtual 414, 3) := by decide +kernel
theorem dX12_areTwo_13 : decode cX12_areTwo 13 = .ok (.ifCond .eq 12, 3) := by decide +kernel
theorem dX12_areTwo_16 : decode cX12_areTwo 16 = .ok (.iload_n 1, 1) := by decide +kernel
theorem dX12_areTwo_17 : decode cX12_areTwo 17 = .ok (.iload_n 2, 1) := by decide +kernel
theorem dX12_areTwo_18 : decode cX12_areTwo 18 = .ok (.if_icmp .eq 7, 3) := by decide +kernel
theorem dX12_areTwo_21 : decode cX12_areTwo 21 = .ok (.iconst 1, 1) := by decide +kernel
theorem dX12_areTwo_22 : decode cX12_areTwo 22 = .ok (.goto 4, 3) := by decide +kernel
theorem dX12_areTwo_25 : decode cX12_areTwo 25 = .ok (.iconst 0, 1) := by decide +kernel
theorem dX12_areTwo_26 : decode cX12_areTwo 26 = .ok (.ireturn, 1) := by decide +kernel
theorem dX12_rests_0 : decode cX12_rests 0 = .ok (.aload_n 0, 1) := by decide +kernel
theorem dX12_rests_1 : decode cX12_rests 1 = .ok (.iconst 0, 1) := by decide +kernel
theorem dX12_rests_2 : decode cX12_rests 2 = .ok (.putfield 157, 3) := by decide +kernel
theorem dX12_rests_5 : decode cX12_rests 5 = .ok (.aload_n 0, 1) := by decide +kernel
theorem dX12_rests_6 : decode cX12_rests 6 = .ok (.iload_n 1, 1) := by decide +kernel
theorem dX12_rests_7 : decode cX12_rests 7 = .ok (.iload_n 2, 1) := by decide +kernel
theorem dX12_rests_8 : decode cX12_rests 8 = .ok (.invokevirtual 482, 3) := by decide +kernel
theorem dX12_rests_11 : decode cX12_rests 11 = .ok (.ifCond .eq 13, 3) := by decide +kernel
theorem dX12_rests_14 : decode cX12_rests 14 = .ok (.aload_n 0, 1) := by decide +kernel
theorem dX12_rests_15 : decode cX12_rests 15 = .ok (.iload_n 1, 1) := by decide +kernel
theorem dX12_rests_16 : decode cX12_rests 16 = .ok (.iload_n 2, 1) := by decide +kernel
theorem dX12_rests_17 : decode cX12_rests 17 = .ok (.iconst (-1), 1) := by decide +kernel
theorem dX12_rests_18 : decode cX12_rests 18 = .ok (.invokevirtual 485, 3) := by decide +kernel
theorem dX12_rests_21 : decode cX12_rests 21 = .ok (.goto 4, 3) := by decide +kernel
theorem dX12_rests_24 : decode cX12_rests 24 = .ok (.iconst (-1), 1) := by decide +kernel
theorem dX12_rests_25 : decode cX12_rests 25 = .ok (.ireturn, 1) := by decide +kernel
theorem dX12_rest_0 : decode cX12_rest 0 = .ok (.aload_n 0, 1) := by decide +kernel
theorem dX12_rest_1 : decode cX12_rest 1 = .ok (.iconst 0, 1) := by decide +kernel
theorem dX12_rest_2 : decode cX12_rest 2 = .ok (.putfield 157, 3) := by decide +kernel
theorem dX12_rest_5 : decode cX12_rest 5 = .ok (.aload_n 0, 1) := by decide +kernel
theorem dX12_rest_6 : decode cX12_rest 6 = .ok (.iload_n 1, 1) := by decide +kernel
theorem dX12_rest_7 : decode cX12_rest 7 = .ok (.iload_n 2, 1) := by decide +kernel
theorem dX12_rest_8 : decode cX12_rest 8 = .ok (.invokevirtual 482, 3) := by decide +kernel
theorem dX12_rest_11 : decode cX12_rest 11 = .ok (.ifCond .eq 17, 3) := by decide +kernel
theorem dX12_rest_14 : decode cX12_rest 14 = .ok (.iload_n 3, 1) := by decide +kernel
theorem dX12_rest_15 : decode cX12_rest 15 = .ok (.ifCond .lt 13, 3) := by decide +kernel
theorem dX12_rest_18 : decode cX12_rest 18 = .ok (.aload_n 0, 1) := by decide +kernel
theorem dX12_rest_19 : decode cX12_rest 19 = .ok (.iload_n 1, 1) := by decide +kernel
theorem dX12_rest_20 : decode cX12_rest 20 = .ok (.iload_n 2, 1) := by decide +kernel
theorem dX12_rest_21 : decode cX12_rest 21 = .ok (.iload_n 3, 1) := by decide +kernel
theorem dX12_rest_22 : decode cX12_rest 22 = .ok (.invokevirtual 485, 3) := by decide +kernel
theorem dX12_rest_25 : decode cX12_rest 25 = .ok (.goto 4, 3) := by decide +kernel
theorem dX12_rest_28 : decode cX12_rest 28 = .ok (.iconst (-1), 1) := by decide +kernel
theorem dX12_rest_29 : decode cX12_rest 29 = .ok (.ireturn, 1) := by decide +kernel
theorem dX12_note_0 : decode cX12_note 0 = .ok (.aload_n 0, 1) := by decide +kernel
theorem dX12_note_1 : decode cX12_note 1 = .ok (.iconst 0, 1) := by decide +kernel
theorem dX12_note_2 : decode cX12_note 2 = .ok (.putfield 157, 3) := by decide +kernel
theorem dX12_note_5 : decode cX12_note 5 = .ok (.aload_n 0, 1) := by decide +kernel
theorem dX12_note_6 : decode cX12_note 6 = .ok (.iload_n 1, 1) := by decide +kernel
theorem dX12_note_7 : decode cX12_note 7 = .ok (.invokevirtual 417, 3) := by decide +kernel
theorem dX12_note_10 : decode cX12_note 10 = .ok (.ifCond .eq 23, 3) := by decide +kernel
theorem dX12_note_13 : decode cX12_note 13 = .ok (.iload_n 2, 1) := by decide +kernel
theorem dX12_note_14 : decode cX12_note 14 = .ok (.ifCond .lt 19, 3) := by decide +kernel
theorem dX12_note_17 : decode cX12_note 17 = .ok (.iload_n 2, 1) := by decide +kernel
theorem dX12_note_18 : decode cX12_note 18 = .ok (.sipush 999, 3) := by decide +kernel
theorem dX12_note_21 : decode cX12_note 21 = .ok (.if_icmp .gt 12, 3) := by decide +kernel
theorem dX12_note_24 : decode cX12_note 24 = .ok (.aload_n 0, 1) := by decide +kernel
theorem dX12_note_25 : decode cX12_note 25 = .ok (.getfield 303, 3) := by decide +kernel
theorem dX12_note_28 : decode cX12_note 28 = .ok (.bipush 24, 2) := by decide +kernel
theorem dX12_note_30 : decode cX12_note 30 = .ok (.if_icmp .ne 5, 3) := by decide +kernel
theorem dX12_note_33 : decode cX12_note 33 = .ok (.iconst (-1), 1) := by decide +kernel
theorem dX12_note_34 : decode cX12_note 34 = .ok (.ireturn, 1) := by decide +kernel
theorem dX12_note_35 : decode cX12_note 35 = .ok (.aload_n 0, 1) := by decide +kernel
theorem dX12_note_36 : decode cX12_note 36 = .ok (.getfield 138, 3) := by decide +kernel
theorem dX12_note_39 : decode cX12_note 39 = .ok (.aload_n 0, 1) := by decide +kernel
theorem dX12_note_40 : decode cX12_note 40 = .ok (.getfield 303, 3) := by decide +kernel
theorem dX12_note_43 : decode cX12_note 43 = .ok (.iload_n 1, 1) := by decide +kernel
theorem dX12_note_44 : decode cX12_note 44 = .ok (.iastore, 1) := by decide +kernel
theorem dX12_note_45 : decode cX12_note 45 = .ok (.aload_n 0, 1) := by decide +kernel
theorem dX12_note_46 : decode cX12_note 46 = .ok (.getfield 141, 3) := by decide +kernel
theorem dX12_note_49 : decode cX12_note 49 = .ok (.aload_n 0, 1) := by decide +kernel
theorem dX12_note_50 : decode cX12_note 50 = .ok (.getfield 303, 3) := by decide +kernel
theorem dX12_note_53 : decode cX12_note 53 = .ok (.iload_n 2, 1) := by decide +kernel
theorem dX12_note_54 : decode cX12_note 54 = .ok (.iastore, 1) := by decide +kernel
theorem dX12_note_55 : decode cX12_note 55 = .ok (.aload_n 0, 1) := by decide +kernel
theorem dX12_note_56 : decode cX12_note 56 = .ok (.getfield 144, 3) := by decide +kernel
theorem dX12_note_59 : decode cX12_note 59 = .ok (.aload_n 0, 1) := by decide +kernel
theorem dX12_note_60 : decode cX12_note 60 = .ok (.getfield 303, 3) := by decide +kernel
theorem dX12_note_63 : decode cX12_note 63 = .ok (.iload_n 3, 1) := by decide +kernel
theorem dX12_note_64 : decode cX12_note 64 = .ok (.bastore, 1) := by decide +kernel
theorem dX12_note_65 : decode cX12_note 65 = .ok (.aload_n 0, 1) := by decide +kernel
theorem dX12_note_66 : decode cX12_note 66 = .ok (.getfield 148, 3) := by decide +kernel
theorem dX12_note_69 : decode cX12_note 69 = .ok (.aload_n 0, 1) := by decide +kernel
theorem dX12_note_70 : decode cX12_note 70 = .ok (.getfield 303, 3) := by decide +kernel
theorem dX12_note_73 : decode cX12_note 73 = .ok (.iconst (-1), 1) := by decide +kernel
theorem dX12_note_74 : decode cX12_note 74 = .ok (.iastore, 1) := by decide +kernel
theorem dX12_note_75 : decode cX12_note 75 = .ok (.aload_n 0, 1) := by decide +kernel
theorem dX12_note_76 : decode cX12_note 76 = .ok (.dup, 1) := by decide +kernel
theorem dX12_note_77 : decode cX12_note 77 = .ok (.getfield 303, 3) := by decide +kernel
theorem dX12_note_80 : decode cX12_note 80 = .ok (.iconst 1, 1) := by decide +kernel
theorem dX12_note_81 : decode cX12_note 81 = .ok (.iadd, 1) := by decide +kernel
theorem dX12_note_82 : decode cX12_note 82 = .ok (.putfield 303, 3) := by decide +kernel
theorem dX12_note_85 : decode cX12_note 85 = .ok (.aload_n 0, 1) := by decide +kernel
theorem dX12_note_86 : decode cX12_note 86 = .ok (.getfield 303, 3) := by decide +kernel
theorem dX12_note_89 : decode cX12_note 89 = .ok (.iconst 1, 1) := by decide +kernel
theorem dX12_note_90 : decode cX12_note 90 = .ok (.isub, 1) := by decide +kernel
theorem dX12_note_91 : decode cX12_note 91 = .ok (.ireturn, 1) := by decide +kernel
theorem dX12_out_0 : decode cX12_out 0 = .ok (.aload_n 0, 1) := by decide +kernel
theorem dX12_out_1 : decode cX12_out 1 = .ok (.iconst 0, 1) := by decide +kernel
theorem dX12_out_2 : decode cX12_out 2 = .ok (.putfield 157, 3) := by decide +kernel
theorem dX12_out_5 : decode cX12_out 5 = .ok (.iload_n 1, 1) := by decide +kernel
theorem dX12_out_6 : decode cX12_out 6 = .ok (.ifCond .lt 20, 3) := by decide +kernel
theorem dX12_out_9 : decode cX12_out 9 = .ok (.iload_n 1, 1) := by decide +kernel
theorem dX12_out_10 : decode cX12_out 10 = .ok (.aload_n 0, 1) := by decide +kernel
theorem dX12_out_11 : decode cX12_out 11 = .ok (.getfield 303, 3) := by decide +kernel
theorem dX12_out_14 : decode cX12_out 14 = .ok (.if_icmp .ge 12, 3) := by decide +kernel
theorem dX12_out_17 : decode cX12_out 17 = .ok (.aload_n 0, 1) := by decide +kernel
theorem dX12_out_18 : decode cX12_out 18 = .ok (.getfield 303, 3) := by decide +kernel
theorem dX12_out_21 : decode cX12_out 21 = .ok (.bipush 24, 2) := by decide +kernel
theorem dX12_out_23 : decode cX12_out 23 = .ok (.if_icmp .ne 5, 3) := by decide +kernel
theorem dX12_out_26 : decode cX12_out 26 = .ok (.iconst (-1), 1) := by decide +kernel
theorem dX12_out_27 : decode cX12_out 27 = .ok (.ireturn, 1) := by decide +kernel
theorem dX12_out_28 : decode cX12_out 28 = .ok (.aload_n 0, 1) := by decide +kernel
theorem dX12_out_29 : decode cX12_out 29 = .ok (.getfield 148, 3) := by decide +kernel
theorem dX12_out_32 : decode cX12_out 32 = .ok (.aload_n 0, 1) := by decide +kernel
theorem dX12_out_33 : decode cX12_out 33 = .ok (.getfield 303, 3) := by decide +kernel
theorem dX12_out_36 : decode cX12_out 36 = .ok (.iload_n 1, 1) := by decide +kernel
theorem dX12_out_37 : decode cX12_out 37 = .ok (.iastore, 1) := by decide +kernel
theorem dX12_out_38 : decode cX12_out 38 = .ok (.aload_n 0, 1) := by decide +kernel
theorem dX12_out_39 : decode cX12_out 39 = .ok (.dup, 1) := by decide +kernel
theorem dX12_out_40 : decode cX12_out 40 = .ok (.getfield 303, 3) := by decide +kernel
theorem dX12_out_43 : decode cX12_out 43 = .ok (.iconst 1, 1) := by decide +kernel
theorem dX12_out_44 : decode cX12_out 44 = .ok (.iadd, 1) := by decide +kernel
theorem dX12_out_45 : decode cX12_out 45 = .ok (.putfield 303, 3) := by decide +kernel
theorem dX12_out_48 : decode cX12_out 48 = .ok (.aload_n 0, 1) := by decide +kernel
theorem dX12_out_49 : decode cX12_out 49 = .ok (.getfield 303, 3) := by decide +kernel
theorem dX12_out_52 : decode cX12_out 52 = .ok (.iconst 1, 1) := by decide +kernel
theorem dX12_out_53 : decode cX12_out 53 = .ok (.isub, 1) := by decide +kernel
theorem dX12_out_54 : decode cX12_out 54 = .ok (.ireturn, 1) := by decide +kernel
theorem dX12_known_0 : decode cX12_known 0 = .ok (.aload_n 0, 1) := by decide +kernel
theorem dX12_known_1 : decode cX12_known 1 = .ok (.iconst 0, 1) := by decide +kernel
theorem dX12_known_2 : decode cX12_known 2 = .ok (.putfield 157, 3) := by decide +kernel
theorem dX12_known_5 : decode cX12_known 5 = .ok (.iload_n 1, 1) := by decide +kernel
theorem dX12_known_6 : decode cX12_known 6 = .ok (.iconst (-1), 1) := by decide +kernel
theorem dX12_known_7 : decode cX12_known 7 = .ok (.if_icmp .lt 11, 3) := by decide +kernel
theorem dX12_known_10 : decode cX12_known 10 = .ok (.iload_n 1, 1) := by decide +kernel
theorem dX12_known_11 : decode cX12_known 11 = .ok (.aload_n 0, 1) := by decide +kernel
theorem dX12_known_12 : decode cX12_known 12 = .ok (.getfield 303, 3) := by decide +kernel
theorem dX12_known_15 : decode cX12_known 15 = .ok (.if_icmp .le 5, 3) := by decide +kernel
theorem dX12_known_18 : decode cX12_known 18 = .ok (.iconst 0, 1) := by decide +kernel
theorem dX12_known_19 : decode cX12_known 19 = .ok (.ireturn, 1) := by decide +kernel
theorem dX12_known_20 : decode cX12_known 20 = .ok (.aload_n 0, 1) := by decide +kernel
theorem dX12_known_21 : decode cX12_known 21 = .ok (.iload_n 1, 1) := by decide +kernel
theorem dX12_known_22 : decode cX12_known 22 = .ok (.putfield 135, 3) := by decide +kernel
theorem dX12_known_25 : decode cX12_known 25 = .ok (.iconst 1, 1) := by decide +kernel
theorem dX12_known_26 : decode cX12_known 26 = .ok (.ireturn, 1) := by decide +kernel
theorem dX12_knownMany_0 : decode cX12_knownMany 0 = .ok (.aload_n 0, 1) := by decide +kernel
theorem dX12_knownMany_1 : decode cX12_knownMany 1 = .ok (.getfield 135, 3) := by decide +kernel
theorem dX12_knownMany_4 : decode cX12_knownMany 4 = .ok (.iconst (-1), 1) := by decide +kernel
theorem dX12_knownMany_5 : decode cX12_knownMany 5 = .ok (.if_icmp .ne 10, 3) := by decide +kernel
theorem dX12_knownMany_8 : decode cX12_knownMany 8 = .ok (.aload_n 0, 1) := by decide +kernel
theorem dX12_knownMany_9 : decode cX12_knownMany 9 = .ok (.getfield 303, 3) := by decide +kernel
theorem dX12_knownMany_12 : decode cX12_knownMany 12 = .ok (.goto 7, 3) := by decide +kernel
theorem dX12_knownMany_15 : decode cX12_knownMany 15 = .ok (.aload_n 0, 1) := by decide +kernel
theorem dX12_knownMany_16 : decode cX12_knownMany 16 = .ok (.getfield 135, 3) := by decide +kernel
theorem dX12_knownMany_19 : decode cX12_knownMany 19 = .ok (.ireturn, 1) := by decide +kernel
theorem dX12_isLinger_0 : decode cX12_isLinger 0 = .ok (.aload_n 0, 1) := by decide +kernel
theorem dX12_isLinger_1 : decode cX12_isLinger 1 = .ok (.iconst 1, 1) := by decide +kernel
theorem dX12_isLinger_2 : decode cX12_isLinger 2 = .ok (.iconst 0, 1) := by decide +kernel
theorem dX12_isLinger_3 : decode cX12_isLinger 3 = .ok (.invokevirtual 407, 3) := by decide +kernel
theorem dX12_isLinger_6 : decode cX12_isLinger 6 = .ok (.aload_n 0, 1) := by decide +kernel
theorem dX12_isLinger_7 : decode cX12_isLinger 7 = .ok (.getfield 63, 3) := by decide +kernel
theorem dX12_isLinger_10 : decode cX12_isLinger 10 = .ok (.iconst 1, 1) := by decide +kernel
theorem dX12_isLinger_11 : decode cX12_isLinger 11 = .ok (.iconst 0, 1) := by decide +kernel
theorem dX12_isLinger_12 : decode cX12_isLinger 12 = .ok (.iastore, 1) := by decide +kernel
theorem dX12_isLinger_13 : decode cX12_isLinger 13 = .ok (.aload_n 0, 1) := by decide +kernel
theorem dX12_isLinger_14 : decode cX12_isLinger 14 = .ok (.iload_n 1, 1) := by decide +kernel
theorem dX12_isLinger_15 : decode cX12_isLinger 15 = .ok (.putfield 114, 3) := by decide +kernel
theorem dX12_isLinger_18 : decode cX12_isLinger 18 = .ok (.aload_n 0, 1) := by decide +kernel
theorem dX12_isLinger_19 : decode cX12_isLinger 19 = .ok (.iconst 1, 1) := by decide +kernel
theorem dX12_isLinger_20 : decode cX12_isLinger 20 = .ok (.iconst 0, 1) := by decide +kernel
theorem dX12_isLinger_21 : decode cX12_isLinger 21 = .ok (.invokevirtual 410, 3) := by decide +kernel
theorem dX12_isLinger_24 : decode cX12_isLinger 24 = .ok (.aload_n 0, 1) := by decide +kernel
theorem dX12_isLinger_25 : decode cX12_isLinger 25 = .ok (.iconst (-1), 1) := by decide +kernel
theorem dX12_isLinger_26 : decode cX12_isLinger 26 = .ok (.putfield 114, 3) := by decide +kernel
theorem dX12_isLinger_29 : decode cX12_isLinger 29 = .ok (.iconst 0, 1) := by decide +kernel
theorem dX12_isLinger_30 : decode cX12_isLinger 30 = .ok (.istore_n 2, 1) := by decide +kernel
theorem dX12_isLinger_31 : decode cX12_isLinger 31 = .ok (.iload_n 2, 1) := by decide +kernel
theorem dX12_isLinger_32 : decode cX12_isLinger 32 = .ok (.aload_n 0, 1) := by decide +kernel
theorem dX12_isLinger_33 : decode cX12_isLinger 33 = .ok (.invokevirtual 488, 3) := by decide +kernel
theorem dX12_isLinger_36 : decode cX12_isLinger 36 = .ok (.if_icmp .ge 67, 3) := by decide +kernel
theorem dX12_isLinger_39 : decode cX12_isLinger 39 = .ok (.aload_n 0, 1) := by decide +kernel
theorem dX12_isLinger_40 : decode cX12_isLinger 40 = .ok (.getfield 151, 3) := by decide +kernel
theorem dX12_isLinger_43 : decode cX12_isLinger 43 = .ok (.iload_n 2, 1) := by decide +kernel
theorem dX12_isLinger_44 : decode cX12_isLinger 44 = .ok (.baload, 1) := by decide +kernel
theorem dX12_isLinger_45 : decode cX12_isLinger 45 = .ok (.ifCond .ne 52, 3) := by decide +kernel
theorem dX12_isLinger_48 : decode cX12_isLinger 48 = .ok (.aload_n 0, 1) := by decide +kernel
theorem dX12_isLinger_49 : decode cX12_isLinger 49 = .ok (.getfield 148, 3) := by decide +kernel
theorem dX12_isLinger_52 : decode cX12_isLinger 52 = .ok (.iload_n 2, 1) := by decide +kernel
theorem dX12_isLinger_53 : decode cX12_isLinger 53 = .ok (.iaload, 1) := by decide +kernel
theorem dX12_isLinger_54 : decode cX12_isLinger 54 = .ok (.iconst (-1), 1) := by decide +kernel
theorem dX12_isLinger_55 : decode cX12_isLinger 55 = .ok (.if_icmp .eq 6, 3) := by decide +kernel
theorem dX12_isLinger_58 : decode cX12_isLinger 58 = .ok (.goto 39, 3) := by decide +kernel
theorem dX12_isLinger_61 : decode cX12_isLinger 61 = .ok (.aload_n 0, 1) := by decide +kernel
theorem dX12_isLinger_62 : decode cX12_isLinger 62 = .ok (.iconst 1, 1) := by decide +kernel
theorem dX12_isLinger_63 : decode cX12_isLinger 63 = .ok (.aload_n 0, 1) := by decide +kernel
theorem dX12_isLinger_64 : decode cX12_isLinger 64 = .ok (.getfield 138, 3) := by decide +kernel
theorem dX12_isLinger_67 : decode cX12_isLinger 67 = .ok (.iload_n 2, 1) := by decide +kernel
theorem dX12_isLinger_68 : decode cX12_isLinger 68 = .ok (.iaload, 1) := by decide +kernel
theorem dX12_isLinger_69 : decode cX12_isLinger 69 = .ok (.invokevirtual 463, 3) := by decide +kernel
theorem dX12_isLinger_72 : decode cX12_isLinger 72 = .ok (.aload_n 0, 1) := by decide +kernel
theorem dX12_isLinger_73 : decode cX12_isLinger 73 = .ok (.getfield 141, 3) := by decide +kernel
theorem dX12_isLinger_76 : decode cX12_isLinger 76 = .ok (.iload_n 2, 1) := by decide +kernel
theorem dX12_isLinger_77 : decode cX12_isLinger 77 = .ok (.iaload, 1) := by decide +kernel
theorem dX12_isLinger_78 : decode cX12_isLinger 78 = .ok (.if_icmp .lt 7, 3) := by decide +kernel
theorem dX12_isLinger_81 : decode cX12_isLinger 81 = .ok (.iconst 1, 1) := by decide +kernel
theorem dX12_isLinger_82 : decode cX12_isLinger 82 = .ok (.goto 4, 3) := by decide +kernel
theorem dX12_isLinger_85 : decode cX12_isLinger 85 = .ok (.iconst 0, 1) := by decide +kernel
theorem dX12_isLinger_86 : decode cX12_isLinger 86 = .ok (.aload_n 0, 1) := by decide +kernel
theorem dX12_isLinger_87 : decode cX12_isLinger 87 = .ok (.getfield 144, 3) := by decide +kernel
theorem dX12_isLinger_90 : decode cX12_isLinger 90 = .ok (.iload_n 2, 1) := by decide +kernel
theorem dX12_isLinger_91 : decode cX12_isLinger 91 = .ok (.baload, 1) := by decide +kernel
theorem dX12_isLinger_92 : decode cX12_isLinger 92 = .ok (.if_icmp .eq 5, 3) := by decide +kernel
theorem dX12_isLinger_95 : decode cX12_isLinger 95 = .ok (.iconst 0, 1) := by decide +kernel
theorem dX12_isLinger_96 : decode cX12_isLinger 96 = .ok (.ireturn, 1) := by decide +kernel
theorem dX12_isLinger_97 : decode cX12_isLinger 97 = .ok (.iinc 2 1, 3) := by decide +kernel
theorem dX12_isLinger_100 : decode cX12_isLinger 100 = .ok (.goto (-69), 3) := by decide +kernel
theorem dX12_isLinger_103 : decode cX12_isLinger 103 = .ok (.iconst 1, 1) := by decide +kernel
theorem dX12_isLinger_104 : decode cX12_isLinger 104 = .ok (.ireturn, 1) := by decide +kernel
theorem dX12_lingered_0 : decode cX12_lingered 0 = .ok (.aload_n 0, 1) := by decide +kernel
theorem dX12_lingered_1 : decode cX12_lingered 1 = .ok (.iconst 0, 1) := by decide +kernel
theorem dX12_lingered_2 : decode cX12_lingered 2 = .ok (.putfield 157, 3) := by decide +kernel
theorem dX12_lingered_5 : decode cX12_lingered 5 = .ok (.iconst 0, 1) := by decide +kernel
theorem dX12_lingered_6 : decode cX12_lingered 6 = .ok (.istore_n 1, 1) := by decide +kernel
theorem dX12_lingered_7 : decode cX12_lingered 7 = .ok (.iload_n 1, 1) := by decide +kernel
theorem dX12_lingered_8 : decode cX12_lingered 8 = .ok (.aload_n 0, 1) := by decide +kernel
theorem dX12_lingered_9 : decode cX12_lingered 9 = .ok (.invokevirtual 488, 3) := by decide +kernel
theorem dX12_lingered_12 : decode cX12_lingered 12 = .ok (.if_icmp .ge 16, 3) := by decide +kernel
theorem dX12_lingered_15 : decode cX12_lingered 15 = .ok (.aload_n 0, 1) := by decide +kernel
theorem dX12_lingered_16 : decode cX12_lingered 16 = .ok (.getfield 151, 3) := by decide +kernel
theorem dX12_lingered_19 : decode cX12_lingered 19 = .ok (.iload_n 1, 1) := by decide +kernel
theorem dX12_lingered_20 : decode cX12_lingered 20 = .ok (.iconst 0, 1) := by decide +kernel
theorem dX12_lingered_21 : decode cX12_lingered 21 = .ok (.bastore, 1) := by decide +kernel
theorem dX12_lingered_22 : decode cX12_lingered 22 = .ok (.iinc 1 1, 3) := by decide +kernel
theorem dX12_lingered_25 : decode cX12_lingered 25 = .ok (.goto (-18), 3) := by decide +kernel
theorem dX12_lingered_28 : decode cX12_lingered 28 = .ok (.aload_n 0, 1) := by decide +kernel
theorem dX12_lingered_29 : decode cX12_lingered 29 = .ok (.invokevirtual 488, 3) := by decide +kernel
theorem dX12_lingered_32 : decode cX12_lingered 32 = .ok (.iconst 1, 1) := by decide +kernel
theorem dX12_lingered_33 : decode cX12_lingered 33 = .ok (.isub, 1) := by decide +kernel
theorem dX12_lingered_34 : decode cX12_lingered 34 = .ok (.istore_n 1, 1) := by decide +kernel
theorem dX12_lingered_35 : decode cX12_lingered 35 = .ok (.iload_n 1, 1) := by decide +kernel
theorem dX12_lingered_36 : decode cX12_lingered 36 = .ok (.ifCond .lt 40, 3) := by decide +kernel
theorem dX12_lingered_39 : decode cX12_lingered 39 = .ok (.aload_n 0, 1) := by decide +kernel
theorem dX12_lingered_40 : decode cX12_lingered 40 = .ok (.getfield 151, 3) := by decide +kernel
theorem dX12_lingered_43 : decode cX12_lingered 43 = .ok (.iload_n 1, 1) := by decide +kernel
theorem dX12_lingered_44 : decode cX12_lingered 44 = .ok (.baload, 1) := by decide +kernel
theorem dX12_lingered_45 : decode cX12_lingered 45 = .ok (.ifCond .ne 25, 3) := by decide +kernel
theorem dX12_lingered_48 : decode cX12_lingered 48 = .ok (.aload_n 0, 1) := by decide +kernel
theorem dX12_lingered_49 : decode cX12_lingered 49 = .ok (.getfield 148, 3) := by decide +kernel
theorem dX12_lingered_52 : decode cX12_lingered 52 = .ok (.iload_n 1, 1) := by decide +kernel
theorem dX12_lingered_53 : decode cX12_lingered 53 = .ok (.iaload, 1) := by decide +kernel
theorem dX12_lingered_54 : decode cX12_lingered 54 = .ok (.iconst (-1), 1) := by decide +kernel
theorem dX12_lingered_55 : decode cX12_lingered 55 = .ok (.if_icmp .eq 15, 3) := by decide +kernel
theorem dX12_lingered_58 : decode cX12_lingered 58 = .ok (.aload_n 0, 1) := by decide +kernel
theorem dX12_lingered_59 : decode cX12_lingered 59 = .ok (.getfield 151, 3) := by decide +kernel
theorem dX12_lingered_62 : decode cX12_lingered 62 = .ok (.aload_n 0, 1) := by decide +kernel
theorem dX12_lingered_63 : decode cX12_lingered 63 = .ok (.getfield 148, 3) := by decide +kernel
theorem dX12_lingered_66 : decode cX12_lingered 66 = .ok (.iload_n 1, 1) := by decide +kernel
theorem dX12_lingered_67 : decode cX12_lingered 67 = .ok (.iaload, 1) := by decide +kernel
theorem dX12_lingered_68 : decode cX12_lingered 68 = .ok (.iconst 1, 1) := by decide +kernel
theorem dX12_lingered_69 : decode cX12_lingered 69 = .ok (.bastore, 1) := by decide +kernel
theorem dX12_lingered_70 : decode cX12_lingered 70 = .ok (.iinc 1 (-1), 3) := by decide +kernel
theorem dX12_lingered_73 : decode cX12_lingered 73 = .ok (.goto (-38), 3) := by decide +kernel
theorem dX12_lingered_76 : decode cX12_lingered 76 = .ok (.iconst 0, 1) := by decide +kernel
theorem dX12_lingered_77 : decode cX12_lingered 77 = .ok (.istore_n 1, 1) := by decide +kernel
theorem dX12_lingered_78 : decode cX12_lingered 78 = .ok (.iconst 0, 1) := by decide +kernel
theorem dX12_lingered_79 : decode cX12_lingered 79 = .ok (.istore_n 2, 1) := by decide +kernel
theorem dX12_lingered_80 : decode cX12_lingered 80 = .ok (.iload_n 2, 1) := by decide +kernel
theorem dX12_lingered_81 : decode cX12_lingered 81 = .ok (.aload_n 0, 1) := by decide +kernel
theorem dX12_lingered_82 : decode cX12_lingered 82 = .ok (.getfield 13, 3) := by decide +kernel
theorem dX12_lingered_85 : decode cX12_lingered 85 = .ok (.iconst 0, 1) := by decide +kernel
theorem dX12_lingered_86 : decode cX12_lingered 86 = .ok (.iaload, 1) := by decide +kernel
theorem dX12_lingered_87 : decode cX12_lingered 87 = .ok (.if_icmp .gt 41, 3) := by decide +kernel
theorem dX12_lingered_90 : decode cX12_lingered 90 = .ok (.iload_n 1, 1) := by decide +kernel
theorem dX12_lingered_91 : decode cX12_lingered 91 = .ok (.aload_n 0, 1) := by decide +kernel
theorem dX12_lingered_92 : decode cX12_lingered 92 = .ok (.iload_n 2, 1) := by decide +kernel
theorem dX12_lingered_93 : decode cX12_lingered 93 = .ok (.aload_n 0, 1) := by decide +kernel
theorem dX12_lingered_94 : decode cX12_lingered 94 = .ok (.getfield 13, 3) := by decide +kernel
theorem dX12_lingered_97 : decode cX12_lingered 97 = .ok (.iconst 0, 1) := by decide +kernel
theorem dX12_lingered_98 : decode cX12_lingered 98 = .ok (.iaload, 1) := by decide +kernel
theorem dX12_lingered_99 : decode cX12_lingered 99 = .ok (.if_icmp .ge 7, 3) := by decide +kernel
theorem dX12_lingered_102 : decode cX12_lingered 102 = .ok (.iload_n 2, 1) := by decide +kernel
theorem dX12_lingered_103 : decode cX12_lingered 103 = .ok (.goto 4, 3) := by decide +kernel
theorem dX12_lingered_106 : decode cX12_lingered 106 = .ok (.iconst (-1), 1) := by decide +kernel
theorem dX12_lingered_107 : decode cX12_lingered 107 = .ok (.invokevirtual 491, 3) := by decide +kernel
theorem dX12_lingered_110 : decode cX12_lingered 110 = .ok (.ifCond .eq 9, 3) := by decide +kernel
theorem dX12_lingered_113 : decode cX12_lingered 113 = .ok (.iconst 1, 1) := by decide +kernel
theorem dX12_lingered_114 : decode cX12_lingered 114 = .ok (.iload_n 2, 1) := by decide +kernel
theorem dX12_lingered_115 : decode cX12_lingered 115 = .ok (.ishl, 1) := by decide +kernel
theorem dX12_lingered_116 : decode cX12_lingered 116 = .ok (.goto 4, 3) := by decide +kernel
theorem dX12_lingered_119 : decode cX12_lingered 119 = .ok (.iconst 0, 1) := by decide +kernel
theorem dX12_lingered_120 : decode cX12_lingered 120 = .ok (.ior, 1) := by decide +kernel
theorem dX12_lingered_121 : decode cX12_lingered 121 = .ok (.istore_n 1, 1) := by decide +kernel
theorem dX12_lingered_122 : decode cX12_lingered 122 = .ok (.iinc 2 1, 3) := by decide +kernel
theorem dX12_lingered_125 : decode cX12_lingered 125 = .ok (.goto (-45), 3) := by decide +kernel
theorem dX12_lingered_128 : decode cX12_lingered 128 = .ok (.iload_n 1, 1) := by decide +kernel
theorem dX12_lingered_129 : decode cX12_lingered 129 = .ok (.ireturn, 1) := by decide +kernel
theorem dX12_chance_0 : decode cX12_chance 0 = .ok (.aload_n 0, 1) := by decide +kernel
theorem dX12_chance_1 : decode cX12_chance 1 = .ok (.iconst 0, 1) := by decide +kernel
theorem dX12_chance_2 : decode cX12_chance 2 = .ok (.putfield 157, 3) := by decide +kernel
theorem dX12_chance_5 : decode cX12_chance 5 = .ok (.iload_n 1, 1) := by decide +kernel
theorem dX12_chance_6 : decode cX12_chance 6 = .ok (.ifCond .lt 25, 3) := by decide +kernel
theorem dX12_chance_9 : decode cX12_chance 9 = .ok (.iload_n 2, 1) := by decide +kernel
theorem dX12_chance_10 : decode cX12_chance 10 = .ok (.iconst 1, 1) := by decide +kernel
theorem dX12_chance_11 : decode cX12_chance 11 = .ok (.if_icmp .lt 20, 3) := by decide +kernel
theorem dX12_chance_14 : decode cX12_chance 14 = .ok (.iload_n 2, 1) := by decide +kernel
theorem dX12_chance_15 : decode cX12_chance 15 = .ok (.bipush 20, 2) := by decide +kernel
theorem dX12_chance_17 : decode cX12_chance 17 = .ok (.if_icmp .gt 14, 3) := by decide +kernel
theorem dX12_chance_20 : decode cX12_chance 20 = .ok (.iload_n 3, 1) := by decide +kernel
theorem dX12_chance_21 : decode cX12_chance 21 = .ok (.ifCond .lt 10, 3) := by decide +kernel
theorem dX12_chance_24 : decode cX12_chance 24 = .ok (.iload_n 3, 1) := by decide +kernel
theorem dX12_chance_25 : decode cX12_chance 25 = .ok (.sipush 9999, 3) := by decide +kernel
theorem dX12_chance_28 : decode cX12_chance 28 = .ok (.if_icmp .le 5, 3) := by decide +kernel
theorem dX12_chance_31 : decode cX12_chance 31 = .ok (.iconst (-1), 1) := by decide +kernel
theorem dX12_chance_32 : decode cX12_chance 32 = .ok (.ireturn, 1) := by decide +kernel
theorem dX12_chance_33 : decode cX12_chance 33 = .ok (.iload_n 1, 1) := by decide +kernel
theorem dX12_chance_34 : decode cX12_chance 34 = .ok (.istore 4, 2) := by decide +kernel
theorem dX12_chance_36 : decode cX12_chance 36 = .ok (.iconst 0, 1) := by decide +kernel
theorem dX12_chance_37 : decode cX12_chance 37 = .ok (.istore 5, 2) := by decide +kernel
theorem dX12_chance_39 : decode cX12_chance 39 = .ok (.iconst 0, 1) := by decide +kernel
theorem dX12_chance_40 : decode cX12_chance 40 = .ok (.istore 6, 2) := by decide +kernel
theorem dX12_chance_42 : decode cX12_chance 42 = .ok (.iload 6, 2) := by decide +kernel
theorem dX12_chance_44 : decode cX12_chance 44 = .ok (.bipush 10, 2) := by decide +kernel
theorem dX12_chance_46 : decode cX12_chance 46 = .ok (.if_icmp .ge 79, 3) := by decide +kernel
theorem dX12_chance_49 : decode cX12_chance 49 = .ok (.aload_n 0, 1) := by decide +kernel
theorem dX12_chance_50 : decode cX12_chance 50 = .ok (.iconst 1, 1) := by decide +kernel
theorem dX12_chance_51 : decode cX12_chance 51 = .ok (.iconst 0, 1) := by decide +kernel
theorem dX12_chance_52 : decode cX12_chance 52 = .ok (.invokevirtual 407, 3) := by decide +kernel
theorem dX12_chance_55 : decode cX12_chance 55 = .ok (.aload_n 0, 1) := by decide +kernel
theorem dX12_chance_56 : decode cX12_chance 56 = .ok (.getfield 75, 3) := by decide +kernel
theorem dX12_chance_59 : decode cX12_chance 59 = .ok (.iconst 1, 1) := by decide +kernel
theorem dX12_chance_60 : decode cX12_chance 60 = .ok (.iload 4, 2) := by decide +kernel
theorem dX12_chance_62 : decode cX12_chance 62 = .ok (.iastore, 1) := by decide +kernel
theorem dX12_chance_63 : decode cX12_chance 63 = .ok (.iconst 0, 1) := by decide +kernel
theorem dX12_chance_64 : decode cX12_chance 64 = .ok (.istore 7, 2) := by decide +kernel
theorem dX12_chance_66 : decode cX12_chance 66 = .ok (.iload 7, 2) := by decide +kernel
theorem dX12_chance_68 : decode cX12_chance 68 = .ok (.iload_n 2, 1) := by decide +kernel
theorem dX12_chance_69 : decode cX12_chance 69 = .ok (.if_icmp .ge 15, 3) := by decide +kernel
theorem dX12_chance_72 : decode cX12_chance 72 = .ok (.aload_n 0, 1) := by decide +kernel
theorem dX12_chance_73 : decode cX12_chance 73 = .ok (.iconst 1, 1) := by decide +kernel
theorem dX12_chance_74 : decode cX12_chance 74 = .ok (.iconst 1, 1) := by decide +kernel
theorem dX12_chance_75 : decode cX12_chance 75 = .ok (.invokevirtual 410, 3) := by decide +kernel
theorem dX12_chance_78 : decode cX12_chance 78 = .ok (.iinc 7 1, 3) := by decide +kernel
theorem dX12_chance_81 : decode cX12_chance 81 = .ok (.goto (-15), 3) := by decide +kernel
theorem dX12_chance_84 : decode cX12_chance 84 = .ok (.aload_n 0, 1) := by decide +kernel
theorem dX12_chance_85 : decode cX12_chance 85 = .ok (.getfield 75, 3) := by decide +kernel
theorem dX12_chance_88 : decode cX12_chance 88 = .ok (.iconst 1, 1) := by decide +kernel
theorem dX12_chance_89 : decode cX12_chance 89 = .ok (.iaload, 1) := by decide +kernel
theorem dX12_chance_90 : decode cX12_chance 90 = .ok (.istore 4, 2) := by decide +kernel
theorem dX12_chance_92 : decode cX12_chance 92 = .ok (.iload 5, 2) := by decide +kernel
theorem dX12_chance_94 : decode cX12_chance 94 = .ok (.aload_n 0, 1) := by decide +kernel
theorem dX12_chance_95 : decode cX12_chance 95 = .ok (.getfield 69, 3) := by decide +kernel
theorem dX12_chance_98 : decode cX12_chance 98 = .ok (.iconst 1, 1) := by decide +kernel
theorem dX12_chance_99 : decode cX12_chance 99 = .ok (.iaload, 1) := by decide +kernel
theorem dX12_chance_100 : decode cX12_chance 100 = .ok (.aload_n 0, 1) := by decide +kernel
theorem dX12_chance_101 : decode cX12_chance 101 = .ok (.getfield 69, 3) := by decide +kernel
theorem dX12_chance_104 : decode cX12_chance 104 = .ok (.iconst 0, 1) := by decide +kernel
theorem dX12_chance_105 : decode cX12_chance 105 = .ok (.iaload, 1) := by decide +kernel
theorem dX12_chance_106 : decode cX12_chance 106 = .ok (.isub, 1) := by decide +kernel
theorem dX12_chance_107 : decode cX12_chance 107 = .ok (.iload_n 3, 1) := by decide +kernel
theorem dX12_chance_108 : decode cX12_chance 108 = .ok (.if_icmp .gt 7, 3) := by decide +kernel
theorem dX12_chance_111 : decode cX12_chance 111 = .ok (.iconst 1, 1) := by decide +kernel
theorem dX12_chance_112 : decode cX12_chance 112 = .ok (.goto 4, 3) := by decide +kernel
theorem dX12_chance_115 : decode cX12_chance 115 = .ok (.iconst 0, 1) := by decide +kernel
theorem dX12_chance_116 : decode cX12_chance 116 = .ok (.iadd, 1) := by decide +kernel
theorem dX12_chance_117 : decode cX12_chance 117 = .ok (.istore 5, 2) := by decide +kernel
theorem dX12_chance_119 : decode cX12_chance 119 = .ok (.iinc 6 1, 3) := by decide +kernel
theorem dX12_chance_122 : decode cX12_chance 122 = .ok (.goto (-80), 3) := by decide +kernel
theorem dX12_chance_125 : decode cX12_chance 125 = .ok (.iload 5, 2) := by decide +kernel
theorem dX12_chance_127 : decode cX12_chance 127 = .ok (.ireturn, 1) := by decide +kernel
theorem dX12_tried_0 : decode cX12_tried 0 = .ok (.aload_n 0, 1) := by decide +kernel
theorem dX12_tried_1 : decode cX12_tried 1 = .ok (.iconst 0, 1) := by decide +kernel
theorem dX12_tried_2 : decode cX12_tried 2 = .ok (.putfield 157, 3) := by decide +kernel
theorem dX12_tried_5 : decode cX12_tried 5 = .ok (.iload_n 1, 1) := by decide +kernel
theorem dX12_tried_6 : decode cX12_tried 6 = .ok (.iconst 2, 1) := by decide +kernel
theorem dX12_tried_7 : decode cX12_tried 7 = .ok (.if_icmp .ne 11, 3) := by decide +kernel
theorem dX12_tried_10 : decode cX12_tried 10 = .ok (.aload_n 0, 1) := by decide +kernel
theorem dX12_tried_11 : decode cX12_tried 11 = .ok (.iload_n 2, 1) := by decide +kernel
theorem dX12_tried_12 : decode cX12_tried 12 = .ok (.invokevirtual 414, 3) := by decide +kernel
theorem dX12_tried_15 : decode cX12_tried 15 = .ok (.goto 21, 3) := by decide +kernel
theorem dX12_tried_18 : decode cX12_tried 18 = .ok (.iload_n 1, 1) := by decide +kernel
theorem dX12_tried_19 : decode cX12_tried 19 = .ok (.ifCond .lt 16, 3) := by decide +kernel
theorem dX12_tried_22 : decode cX12_tried 22 = .ok (.iload_n 1, 1) := by decide +kernel
theorem dX12_tried_23 : decode cX12_tried 23 = .ok (.iconst 5, 1) := by decide +kernel
theorem dX12_tried_24 : decode cX12_tried 24 = .ok (.if_icmp .gt 11, 3) := by decide +kernel
theorem dX12_tried_27 : decode cX12_tried 27 = .ok (.iload_n 2, 1) := by decide +kernel
theorem dX12_tried_28 : decode cX12_tried 28 = .ok (.ifCond .ne 7, 3) := by decide +kernel
theorem dX12_tried_31 : decode cX12_tried 31 = .ok (.iconst 1, 1) := by decide +kernel
theorem dX12_tried_32 : decode cX12_tried 32 = .ok (.goto 4, 3) := by decide +kernel
theorem dX12_tried_35 : decode cX12_tried 35 = .ok (.iconst 0, 1) := by decide +kernel
theorem dX12_tried_36 : decode cX12_tried 36 = .ok (.istore 4, 2) := by decide +kernel
theorem dX12_tried_38 : decode cX12_tried 38 = .ok (.iload 4, 2) := by decide +kernel
theorem dX12_tried_40 : decode cX12_tried 40 = .ok (.ifCond .eq 13, 3) := by decide +kernel
theorem dX12_tried_43 : decode cX12_tried 43 = .ok (.iload_n 3, 1) := by decide +kernel
theorem dX12_tried_44 : decode cX12_tried 44 = .ok (.ifCond .lt 9, 3) := by decide +kernel
theorem dX12_tried_47 : decode cX12_tried 47 = .ok (.iload_n 3, 1) := by decide +kernel
theorem dX12_tried_48 : decode cX12_tried 48 = .ok (.bipush 20, 2) := by decide +kernel
theorem dX12_tried_50 : decode cX12_tried 50 = .ok (.if_icmp .le 5, 3) := by decide +kernel
theorem dX12_tried_53 : decode cX12_tried 53 = .ok (.iconst (-1), 1) := by decide +kernel
theorem dX12_tried_54 : decode cX12_tried 54 = .ok (.ireturn, 1) := by decide +kernel
theorem dX12_tried_55 : decode cX12_tried 55 = .ok (.aload_n 0, 1) := by decide +kernel
theorem dX12_tried_56 : decode cX12_tried 56 = .ok (.iload_n 1, 1) := by decide +kernel
theorem dX12_tried_57 : decode cX12_tried 57 = .ok (.putfield 359, 3) := by decide +kernel
theorem dX12_tried_60 : decode cX12_tried 60 = .ok (.aload_n 0, 1) := by decide +kernel
theorem dX12_tried_61 : decode cX12_tried 61 = .ok (.iload_n 2, 1) := by decide +kernel
theorem dX12_tried_62 : decode cX12_tried 62 = .ok (.putfield 111, 3) := by decide +kernel
theorem dX12_tried_65 : decode cX12_tried 65 = .ok (.aload_n 0, 1) := by decide +kernel
theorem dX12_tried_66 : decode cX12_tried 66 = .ok (.iconst 1, 1) := by decide +kernel
theorem dX12_tried_67 : decode cX12_tried 67 = .ok (.iconst 0, 1) := by decide +kernel
theorem dX12_tried_68 : decode cX12_tried 68 = .ok (.invokevirtual 407, 3) := by decide +kernel
theorem dX12_tried_71 : decode cX12_tried 71 = .ok (.iconst 0, 1) := by decide +kernel
theorem dX12_tried_72 : decode cX12_tried 72 = .ok (.istore 5, 2) := by decide +kernel
theorem dX12_tried_74 : decode cX12_tried 74 = .ok (.iload 5, 2) := by decide +kernel
theorem dX12_tried_76 : decode cX12_tried 76 = .ok (.iload_n 3, 1) := by decide +kernel
theorem dX12_tried_77 : decode cX12_tried 77 = .ok (.if_icmp .ge 15, 3) := by decide +kernel
theorem dX12_tried_80 : decode cX12_tried 80 = .ok (.aload_n 0, 1) := by decide +kernel
theorem dX12_tried_81 : decode cX12_tried 81 = .ok (.iconst 1, 1) := by decide +kernel
theorem dX12_tried_82 : decode cX12_tried 82 = .ok (.iconst 0, 1) := by decide +kernel
theorem dX12_tried_83 : decode cX12_tried 83 = .ok (.invokevirtual 410, 3) := by decide +kernel
theorem dX12_tried_86 : decode cX12_tried 86 = .ok (.iinc 5 1, 3) := by decide +kernel
theorem dX12_tried_89 : decode cX12_tried 89 = .ok (.goto (-15), 3) := by decide +kernel
theorem dX12_tried_92 : decode cX12_tried 92 = .ok (.aload_n 0, 1) := by decide +kernel
theorem dX12_tried_93 : decode cX12_tried 93 = .ok (.iconst 0, 1) := by decide +kernel
theorem dX12_tried_94 : decode cX12_tried 94 = .ok (.putfield 359, 3) := by decide +kernel
theorem dX12_tried_97 : decode cX12_tried 97 = .ok (.aload_n 0, 1) := by decide +kernel
theorem dX12_tried_98 : decode cX12_tried 98 = .ok (.iconst (-1), 1) := by decide +kernel
theorem dX12_tried_99 : decode cX12_tried 99 = .ok (.putfield 111, 3) := by decide +kernel
theorem dX12_tried_102 : decode cX12_tried 102 = .ok (.aload_n 0, 1) := by decide +kernel
theorem dX12_tried_103 : decode cX12_tried 103 = .ok (.getfield 66, 3) := by decide +kernel
theorem dX12_tried_106 : decode cX12_tried 106 = .ok (.iconst 1, 1) := by decide +kernel
theorem dX12_tried_107 : decode cX12_tried 107 = .ok (.iaload, 1) := by decide +kernel
theorem dX12_tried_108 : decode cX12_tried 108 = .ok (.aload_n 0, 1) := by decide +kernel
theorem dX12_tried_109 : decode cX12_tried 109 = .ok (.getfield 66, 3) := by decide +kernel
theorem dX12_tried_112 : decode cX12_tried 112 = .ok (.iconst 0, 1) := by decide +kernel
theorem dX12_tried_113 : decode cX12_tried 113 = .ok (.iaload, 1) := by decide +kernel
theorem dX12_tried_114 : decode cX12_tried 114 = .ok (.isub, 1) := by decide +kernel
theorem dX12_tried_115 : decode cX12_tried 115 = .ok (.ireturn, 1) := by decide +kernel
theorem dX12_undo_0 : decode cX12_undo 0 = .ok (.aload_n 0, 1) := by decide +kernel
theorem dX12_undo_1 : decode cX12_undo 1 = .ok (.iconst 0, 1) := by decide +kernel
theorem dX12_undo_2 : decode cX12_undo 2 = .ok (.putfield 157, 3) := by decide +kernel
theorem dX12_undo_5 : decode cX12_undo 5 = .ok (.aload_n 0, 1) := by decide +kernel
theorem dX12_undo_6 : decode cX12_undo 6 = .ok (.getfield 310, 3) := by decide +kernel
theorem dX12_undo_9 : decode cX12_undo 9 = .ok (.ifCond .ne 5, 3) := by decide +kernel
theorem dX12_undo_12 : decode cX12_undo 12 = .ok (.iconst (-1), 1) := by decide +kernel
theorem dX12_undo_13 : decode cX12_undo 13 = .ok (.ireturn, 1) := by decide +kernel
theorem dX12_undo_14 : decode cX12_undo 14 = .ok (.aload_n 0, 1) := by decide +kernel
theorem dX12_undo_15 : decode cX12_undo 15 = .ok (.dup, 1) := by decide +kernel
theorem dX12_undo_16 : decode cX12_undo 16 = .ok (.getfield 310, 3) := by decide +kernel
theorem dX12_undo_19 : decode cX12_undo 19 = .ok (.iconst 1, 1) := by decide +kernel
theorem dX12_undo_20 : decode cX12_undo 20 = .ok (.isub, 1) := by decide +kernel
theorem dX12_undo_21 : decode cX12_undo 21 = .ok (.putfield 310, 3) := by decide +kernel
theorem dX12_undo_24 : decode cX12_undo 24 = .ok (.aload_n 0, 1) := by decide +kernel
theorem dX12_undo_25 : decode cX12_undo 25 = .ok (.iconst 0, 1) := by decide +kernel
theorem dX12_undo_26 : decode cX12_undo 26 = .ok (.iconst 3, 1) := by decide +kernel
theorem dX12_undo_27 : decode cX12_undo 27 = .ok (.aload_n 0, 1) := by decide +kernel
theorem dX12_undo_28 : decode cX12_undo 28 = .ok (.getfield 310, 3) := by decide +kernel
theorem dX12_undo_31 : decode cX12_undo 31 = .ok (.iadd, 1) := by decide +kernel
theorem dX12_undo_32 : decode cX12_undo 32 = .ok (.invokevirtual 407, 3) := by decide +kernel
theorem dX12_undo_35 : decode cX12_undo 35 = .ok (.aload_n 0, 1) := by decide +kernel
theorem dX12_undo_36 : decode cX12_undo 36 = .ok (.getfield 310, 3) := by decide +kernel
theorem dX12_undo_39 : decode cX12_undo 39 = .ok (.ireturn, 1) := by decide +kernel
theorem dX12_keep_0 : decode cX12_keep 0 = .ok (.aload_n 0, 1) := by decide +kernel
theorem dX12_keep_1 : decode cX12_keep 1 = .ok (.iconst 0, 1) := by decide +kernel
theorem dX12_keep_2 : decode cX12_keep 2 = .ok (.putfield 157, 3) := by decide +kernel
theorem dX12_keep_5 : decode cX12_keep 5 = .ok (.aload_n 0, 1) := by decide +kernel
theorem dX12_keep_6 : decode cX12_keep 6 = .ok (.iconst 2, 1) := by decide +kernel
theorem dX12_keep_7 : decode cX12_keep 7 = .ok (.iconst 0, 1) := by decide +kernel
theorem dX12_keep_8 : decode cX12_keep 8 = .ok (.invokevirtual 407, 3) := by decide +kernel
theorem dX12_keep_11 : decode cX12_keep 11 = .ok (.aload_n 0, 1) := by decide +kernel
theorem dX12_keep_12 : decode cX12_keep 12 = .ok (.iconst 1, 1) := by decide +kernel
theorem dX12_keep_13 : decode cX12_keep 13 = .ok (.putfield 306, 3) := by decide +kernel
theorem dX12_keep_16 : decode cX12_keep 16 = .ok (.aload_n 0, 1) := by decide +kernel
theorem dX12_keep_17 : decode cX12_keep 17 = .ok (.getfield 63, 3) := by decide +kernel
theorem dX12_keep_20 : decode cX12_keep 20 = .ok (.iconst 0, 1) := by decide +kernel
theorem dX12_keep_21 : decode cX12_keep 21 = .ok (.iaload, 1) := by decide +kernel
theorem dX12_keep_22 : decode cX12_keep 22 = .ok (.ireturn, 1) := by decide +kernel
theorem dX12_back_0 : decode cX12_back 0 = .ok (.aload_n 0, 1) := by decide +kernel
theorem dX12_back_1 : decode cX12_back 1 = .ok (.iconst 0, 1) := by decide +kernel
theorem dX12_back_2 : decode cX12_back 2 = .ok (.putfield 157, 3) := by decide +kernel
theorem dX12_back_5 : decode cX12_back 5 = .ok (.aload_n 0, 1) := by decide +kernel
theorem dX12_back_6 : decode cX12_back 6 = .ok (.getfield 306, 3) := by decide +kernel
theorem dX12_back_9 : decode cX12_back 9 = .ok (.ifCond .ne 5, 3) := by decide +kernel
theorem dX12_back_12 : decode cX12_back 12 = .ok (.iconst (-1), 1) := by decide +kernel
theorem dX12_back_13 : decode cX12_back 13 = .ok (.ireturn, 1) := by decide +kernel
theorem dX12_back_14 : decode cX12_back 14 = .ok (.aload_n 0, 1) := by decide +kernel
theorem dX12_back_15 : decode cX12_back 15 = .ok (.iconst 0, 1) := by decide +kernel
theorem dX12_back_16 : decode cX12_back 16 = .ok (.iconst 2, 1) := by decide +kernel
theorem dX12_back_17 : decode cX12_back 17 = .ok (.invokevirtual 407, 3) := by decide +kernel
theorem dX12_back_20 : decode cX12_back 20 = .ok (.aload_n 0, 1) := by decide +kernel
theorem dX12_back_21 : decode cX12_back 21 = .ok (.iconst 0, 1) := by decide +kernel
theorem dX12_back_22 : decode cX12_back 22 = .ok (.putfield 310, 3) := by decide +kernel
theorem dX12_back_25 : decode cX12_back 25 = .ok (.aload_n 0, 1) := by decide +kernel
theorem dX12_back_26 : decode cX12_back 26 = .ok (.getfield 63, 3) := by decide +kernel
theorem dX12_back_29 : decode cX12_back 29 = .ok (.iconst 0, 1) := by decide +kernel
theorem dX12_back_30 : decode cX12_back 30 = .ok (.iaload, 1) := by decide +kernel
theorem dX12_back_31 : decode cX12_back 31 = .ok (.ireturn, 1) := by decide +kernel
theorem dX12_count_0 : decode cX12_count 0 = .ok (.aload_n 0, 1) := by decide +kernel
theorem dX12_count_1 : decode cX12_count 1 = .ok (.iconst 0, 1) := by decide +kernel
theorem dX12_count_2 : decode cX12_count 2 = .ok (.putfield 157, 3) := by decide +kernel
theorem dX12_count_5 : decode cX12_count 5 = .ok (.iconst 0, 1) := by decide +kernel
theorem dX12_count_6 : decode cX12_count 6 = .ok (.istore_n 2, 1) := by decide +kernel
theorem dX12_count_7 : decode cX12_count 7 = .ok (.iload_n 1, 1) := by decide +kernel
theorem dX12_count_8 : decode cX12_count 8 = .ok (.tableswitch 257 0 14 #[76, 83, 90, 97, 126, 134, 142, 149, 156, 185, 192, 199, 242, 247, 252], 76) := by decide +kernel
theorem dX12_count_84 : decode cX12_count 84 = .ok (.aload_n 0, 1) := by decide +kernel
theorem dX12_count_85 : decode cX12_count 85 = .ok (.getfield 13, 3) := by decide +kernel
theorem dX12_count_88 : decode cX12_count 88 = .ok (.iconst 0, 1) := by decide +kernel
theorem dX12_count_89 : decode cX12_count 89 = .ok (.iaload, 1) := by decide +kernel
theorem dX12_count_90 : decode cX12_count 90 = .ok (.ireturn, 1) := by decide +kernel
theorem dX12_count_91 : decode cX12_count 91 = .ok (.aload_n 0, 1) := by decide +kernel
theorem dX12_count_92 : decode cX12_count 92 = .ok (.getfield 13, 3) := by decide +kernel
theorem dX12_count_95 : decode cX12_count 95 = .ok (.iconst 2, 1) := by decide +kernel
theorem dX12_count_96 : decode cX12_count 96 = .ok (.iaload, 1) := by decide +kernel
theorem dX12_count_97 : decode cX12_count 97 = .ok (.ireturn, 1) := by decide +kernel
theorem dX12_count_98 : decode cX12_count 98 = .ok (.aload_n 0, 1) := by decide +kernel
theorem dX12_count_99 : decode cX12_count 99 = .ok (.getfield 13, 3) := by decide +kernel
theorem dX12_count_102 : decode cX12_count 102 = .ok (.iconst 1, 1) := by decide +kernel
theorem dX12_count_103 : decode cX12_count 103 = .ok (.iaload, 1) := by decide +kernel
theorem dX12_count_104 : decode cX12_count 104 = .ok (.ireturn, 1) := by decide +kernel
theorem dX12_count_105 : decode cX12_count 105 = .ok (.iconst 0, 1) := by decide +kernel
theorem dX12_count_106 : decode cX12_count 106 = .ok (.istore_n 3, 1) := by decide +kernel
theorem dX12_count_107 : decode cX12_count 107 = .ok (.iload_n 3, 1) := by decide +kernel
theorem dX12_count_108 : decode cX12_count 108 = .ok (.aload_n 0, 1) := by decide +kernel
theorem dX12_count_109 : decode cX12_count 109 = .ok (.getfield 13, 3) := by decide +kernel
theorem dX12_count_112 : decode cX12_count 112 = .ok (.iconst 0, 1) := by decide +kernel
theorem dX12_count_113 : decode cX12_count 113 = .ok (.iaload, 1) := by decide +kernel
theorem dX12_count_114 : decode cX12_count 114 = .ok (.if_icmp .ge 18, 3) := by decide +kernel
theorem dX12_count_117 : decode cX12_count 117 = .ok (.iload_n 2, 1) := by decide +kernel
theorem dX12_count_118 : decode cX12_count 118 = .ok (.aload_n 0, 1) := by decide +kernel
theorem dX12_count_119 : decode cX12_count 119 = .ok (.getfield 19, 3) := by decide +kernel
theorem dX12_count_122 : decode cX12_count 122 = .ok (.iload_n 3, 1) := by decide +kernel
theorem dX12_count_123 : decode cX12_count 123 = .ok (.iaload, 1) := by decide +kernel
theorem dX12_count_124 : decode cX12_count 124 = .ok (.iadd, 1) := by decide +kernel
theorem dX12_count_125 : decode cX12_count 125 = .ok (.istore_n 2, 1) := by decide +kernel
theorem dX12_count_126 : decode cX12_count 126 = .ok (.iinc 3 1, 3) := by decide +kernel
theorem dX12_count_129 : decode cX12_count 129 = .ok (.goto (-22), 3) := by decide +kernel
theorem dX12_count_132 : decode cX12_count 132 = .ok (.iload_n 2, 1) := by decide +kernel
theorem dX12_count_133 : decode cX12_count 133 = .ok (.ireturn, 1) := by decide +kernel
theorem dX12_count_134 : decode cX12_count 134 = .ok (.aload_n 0, 1) := by decide +kernel
theorem dX12_count_135 : decode cX12_count 135 = .ok (.getfield 13, 3) := by decide +kernel
theorem dX12_count_138 : decode cX12_count 138 = .ok (.bipush 6, 2) := by decide +kernel
theorem dX12_count_140 : decode cX12_count 140 = .ok (.iaload, 1) := by decide +kernel
theorem dX12_count_141 : decode cX12_count 141 = .ok (.ireturn, 1) := by decide +kernel
theorem dX12_count_142 : decode cX12_count 142 = .ok (.aload_n 0, 1) := by decide +kernel
theorem dX12_count_143 : decode cX12_count 143 = .ok (.getfield 13, 3) := by decide +kernel
theorem dX12_count_146 : decode cX12_count 146 = .ok (.bipush 8, 2) := by decide +kernel
theorem dX12_count_148 : decode cX12_count 148 = .ok (.iaload, 1) := by decide +kernel
theorem dX12_count_149 : decode cX12_count 149 = .ok (.ireturn, 1) := by decide +kernel
theorem dX12_count_150 : decode cX12_count 150 = .ok (.aload_n 0, 1) := by decide +kernel
theorem dX12_count_151 : decode cX12_count 151 = .ok (.getfield 63, 3) := by decide +kernel
theorem dX12_count_154 : decode cX12_count 154 = .ok (.iconst 0, 1) := by decide +kernel
theorem dX12_count_155 : decode cX12_count 155 = .ok (.iaload, 1) := by decide +kernel
theorem dX12_count_156 : decode cX12_count 156 = .ok (.ireturn, 1) := by decide +kernel
theorem dX12_count_157 : decode cX12_count 157 = .ok (.aload_n 0, 1) := by decide +kernel
theorem dX12_count_158 : decode cX12_count 158 = .ok (.getfield 66, 3) := by decide +kernel
theorem dX12_count_161 : decode cX12_count 161 = .ok (.iconst 0, 1) := by decide +kernel
theorem dX12_count_162 : decode cX12_count 162 = .ok (.iaload, 1) := by decide +kernel
theorem dX12_count_163 : decode cX12_count 163 = .ok (.ireturn, 1) := by decide +kernel
theorem dX12_count_164 : decode cX12_count 164 = .ok (.iconst 0, 1) := by decide +kernel
theorem dX12_count_165 : decode cX12_count 165 = .ok (.istore_n 3, 1) := by decide +kernel
theorem dX12_count_166 : decode cX12_count 166 = .ok (.iload_n 3, 1) := by decide +kernel
theorem dX12_count_167 : decode cX12_count 167 = .ok (.aload_n 0, 1) := by decide +kernel
theorem dX12_count_168 : decode cX12_count 168 = .ok (.getfield 13, 3) := by decide +kernel
theorem dX12_count_171 : decode cX12_count 171 = .ok (.iconst 0, 1) := by decide +kernel
theorem dX12_count_172 : decode cX12_count 172 = .ok (.iaload, 1) := by decide +kernel
theorem dX12_count_173 : decode cX12_count 173 = .ok (.if_icmp .ge 18, 3) := by decide +kernel
theorem dX12_count_176 : decode cX12_count 176 = .ok (.iload_n 2, 1) := by decide +kernel
theorem dX12_count_177 : decode cX12_count 177 = .ok (.aload_n 0, 1) := by decide +kernel
theorem dX12_count_178 : decode cX12_count 178 = .ok (.getfield 84, 3) := by decide +kernel
theorem dX12_count_181 : decode cX12_count 181 = .ok (.iload_n 3, 1) := by decide +kernel
theorem dX12_count_182 : decode cX12_count 182 = .ok (.iaload, 1) := by decide +kernel
theorem dX12_count_183 : decode cX12_count 183 = .ok (.iadd, 1) := by decide +kernel
theorem dX12_count_184 : decode cX12_count 184 = .ok (.istore_n 2, 1) := by decide +kernel
theorem dX12_count_185 : decode cX12_count 185 = .ok (.iinc 3 1, 3) := by decide +kernel
theorem dX12_count_188 : decode cX12_count 188 = .ok (.goto (-22), 3) := by decide +kernel
theorem dX12_count_191 : decode cX12_count 191 = .ok (.iload_n 2, 1) := by decide +kernel
theorem dX12_count_192 : decode cX12_count 192 = .ok (.ireturn, 1) := by decide +kernel
theorem dX12_count_193 : decode cX12_count 193 = .ok (.aload_n 0, 1) := by decide +kernel
theorem dX12_count_194 : decode cX12_count 194 = .ok (.getfield 69, 3) := by decide +kernel
theorem dX12_count_197 : decode cX12_count 197 = .ok (.iconst 0, 1) := by decide +kernel
theorem dX12_count_198 : decode cX12_count 198 = .ok (.iaload, 1) := by decide +kernel
theorem dX12_count_199 : decode cX12_count 199 = .ok (.ireturn, 1) := by decide +kernel
theorem dX12_count_200 : decode cX12_count 200 = .ok (.aload_n 0, 1) := by decide +kernel
theorem dX12_count_201 : decode cX12_count 201 = .ok (.getfield 72, 3) := by decide +kernel
theorem dX12_count_204 : decode cX12_count 204 = .ok (.iconst 0, 1) := by decide +kernel
theorem dX12_count_205 : decode cX12_count 205 = .ok (.iaload, 1) := by decide +kernel
theorem dX12_count_206 : decode cX12_count 206 = .ok (.ireturn, 1) := by decide +kernel
theorem dX12_count_207 : decode cX12_count 207 = .ok (.iconst 0, 1) := by decide +kernel
theorem dX12_count_208 : decode cX12_count 208 = .ok (.istore_n 3, 1) := by decide +kernel
theorem dX12_count_209 : decode cX12_count 209 = .ok (.iload_n 3, 1) := by decide +kernel
theorem dX12_count_210 : decode cX12_count 210 = .ok (.aload_n 0, 1) := by decide +kernel
theorem dX12_count_211 : decode cX12_count 211 = .ok (.getfield 13, 3) := by decide +kernel
theorem dX12_count_214 : decode cX12_count 214 = .ok (.iconst 0, 1) := by decide +kernel
theorem dX12_count_215 : decode cX12_count 215 = .ok (.iaload, 1) := by decide +kernel
theorem dX12_count_216 : decode cX12_count 216 = .ok (.if_icmp .ge 32, 3) := by decide +kernel
theorem dX12_count_219 : decode cX12_count 219 = .ok (.iload_n 2, 1) := by decide +kernel
theorem dX12_count_220 : decode cX12_count 220 = .ok (.aload_n 0, 1) := by decide +kernel
theorem dX12_count_221 : decode cX12_count 221 = .ok (.getfield 78, 3) := by decide +kernel
theorem dX12_count_224 : decode cX12_count 224 = .ok (.iload_n 3, 1) := by decide +kernel
theorem dX12_count_225 : decode cX12_count 225 = .ok (.iaload, 1) := by decide +kernel
theorem dX12_count_226 : decode cX12_count 226 = .ok (.iconst (-1), 1) := by decide +kernel
theorem dX12_count_227 : decode cX12_count 227 = .ok (.if_icmp .ne 7, 3) := by decide +kernel
theorem dX12_count_230 : decode cX12_count 230 = .ok (.iconst 0, 1) := by decide +kernel
theorem dX12_count_231 : decode cX12_count 231 = .ok (.goto 9, 3) := by decide +kernel
theorem dX12_count_234 : decode cX12_count 234 = .ok (.aload_n 0, 1) := by decide +kernel
theorem dX12_count_235 : decode cX12_count 235 = .ok (.getfield 19, 3) := by decide +kernel
theorem dX12_count_238 : decode cX12_count 238 = .ok (.iload_n 3, 1) := by decide +kernel
theorem dX12_count_239 : decode cX12_count 239 = .ok (.iaload, 1) := by decide +kernel
theorem dX12_count_240 : decode cX12_count 240 = .ok (.iadd, 1) := by decide +kernel
theorem dX12_count_241 : decode cX12_count 241 = .ok (.istore_n 2, 1) := by decide +kernel
theorem dX12_count_242 : decode cX12_count 242 = .ok (.iinc 3 1, 3) := by decide +kernel
theorem dX12_count_245 : decode cX12_count 245 = .ok (.goto (-36), 3) := by decide +kernel
theorem dX12_count_248 : decode cX12_count 248 = .ok (.iload_n 2, 1) := by decide +kernel
theorem dX12_count_249 : decode cX12_count 249 = .ok (.ireturn, 1) := by decide +kernel
theorem dX12_count_250 : decode cX12_count 250 = .ok (.aload_n 0, 1) := by decide +kernel
theorem dX12_count_251 : decode cX12_count 251 = .ok (.getfield 303, 3) := by decide +kernel
theorem dX12_count_254 : decode cX12_count 254 = .ok (.ireturn, 1) := by decide +kernel
theorem dX12_count_255 : decode cX12_count 255 = .ok (.aload_n 0, 1) := by decide +kernel
theorem dX12_count_256 : decode cX12_count 256 = .ok (.invokevirtual 488, 3) := by decide +kernel
theorem dX12_count_259 : decode cX12_count 259 = .ok (.ireturn, 1) := by decide +kernel
theorem dX12_count_260 : decode cX12_count 260 = .ok (.aload_n 0, 1) := by decide +kernel
theorem dX12_count_261 : decode cX12_count 261 = .ok (.getfield 310, 3) := by decide +kernel
theorem dX12_count_264 : decode cX12_count 264 = .ok (.ireturn, 1) := by decide +kernel
theorem dX12_count_265 : decode cX12_count 265 = .ok (.iconst (-1), 1) := by decide +kernel
theorem dX12_count_266 : decode cX12_count 266 = .ok (.ireturn, 1) := by decide +kernel
