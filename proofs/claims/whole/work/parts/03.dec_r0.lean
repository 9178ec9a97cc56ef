theorem dX12_cellsOf_0 : decode cX12_cellsOf 0 = .ok (.iload_n 0, 1) := by decide +kernel
theorem dX12_cellsOf_1 : decode cX12_cellsOf 1 = .ok (.ifCond .ge 7, 3) := by decide +kernel
theorem dX12_cellsOf_4 : decode cX12_cellsOf 4 = .ok (.iconst 0, 1) := by decide +kernel
theorem dX12_cellsOf_5 : decode cX12_cellsOf 5 = .ok (.goto 17, 3) := by decide +kernel
theorem dX12_cellsOf_8 : decode cX12_cellsOf 8 = .ok (.iload_n 0, 1) := by decide +kernel
theorem dX12_cellsOf_9 : decode cX12_cellsOf 9 = .ok (.sipush 4096, 3) := by decide +kernel
theorem dX12_cellsOf_12 : decode cX12_cellsOf 12 = .ok (.if_icmp .le 9, 3) := by decide +kernel
theorem dX12_cellsOf_15 : decode cX12_cellsOf 15 = .ok (.sipush 4096, 3) := by decide +kernel
theorem dX12_cellsOf_18 : decode cX12_cellsOf 18 = .ok (.goto 4, 3) := by decide +kernel
theorem dX12_cellsOf_21 : decode cX12_cellsOf 21 = .ok (.iload_n 0, 1) := by decide +kernel
theorem dX12_cellsOf_22 : decode cX12_cellsOf 22 = .ok (.ireturn, 1) := by decide +kernel
theorem dX12_init_0 : decode cX12_init 0 = .ok (.aload_n 0, 1) := by decide +kernel
theorem dX12_init_1 : decode cX12_init 1 = .ok (.invokespecial 1, 3) := by decide +kernel
theorem dX12_init_4 : decode cX12_init 4 = .ok (.aload_n 0, 1) := by decide +kernel
theorem dX12_init_5 : decode cX12_init 5 = .ok (.sipush 4096, 3) := by decide +kernel
theorem dX12_init_8 : decode cX12_init 8 = .ok (.newarray .int, 2) := by decide +kernel
theorem dX12_init_10 : decode cX12_init 10 = .ok (.putfield 7, 3) := by decide +kernel
theorem dX12_init_13 : decode cX12_init 13 = .ok (.aload_n 0, 1) := by decide +kernel
theorem dX12_init_14 : decode cX12_init 14 = .ok (.sipush 4096, 3) := by decide +kernel
theorem dX12_init_17 : decode cX12_init 17 = .ok (.newarray .int, 2) := by decide +kernel
theorem dX12_init_19 : decode cX12_init 19 = .ok (.putfield 13, 3) := by decide +kernel
theorem dX12_init_22 : decode cX12_init 22 = .ok (.aload_n 0, 1) := by decide +kernel
theorem dX12_init_23 : decode cX12_init 23 = .ok (.sipush 4096, 3) := by decide +kernel
theorem dX12_init_26 : decode cX12_init 26 = .ok (.newarray .int, 2) := by decide +kernel
theorem dX12_init_28 : decode cX12_init 28 = .ok (.putfield 16, 3) := by decide +kernel
theorem dX12_init_31 : decode cX12_init 31 = .ok (.aload_n 0, 1) := by decide +kernel
theorem dX12_init_32 : decode cX12_init 32 = .ok (.sipush 4096, 3) := by decide +kernel
theorem dX12_init_35 : decode cX12_init 35 = .ok (.newarray .int, 2) := by decide +kernel
theorem dX12_init_37 : decode cX12_init 37 = .ok (.putfield 19, 3) := by decide +kernel
theorem dX12_init_40 : decode cX12_init 40 = .ok (.aload_n 0, 1) := by decide +kernel
theorem dX12_init_41 : decode cX12_init 41 = .ok (.sipush 4096, 3) := by decide +kernel
theorem dX12_init_44 : decode cX12_init 44 = .ok (.newarray .int, 2) := by decide +kernel
theorem dX12_init_46 : decode cX12_init 46 = .ok (.putfield 22, 3) := by decide +kernel
theorem dX12_init_49 : decode cX12_init 49 = .ok (.aload_n 0, 1) := by decide +kernel
theorem dX12_init_50 : decode cX12_init 50 = .ok (.sipush 4096, 3) := by decide +kernel
theorem dX12_init_53 : decode cX12_init 53 = .ok (.newarray .int, 2) := by decide +kernel
theorem dX12_init_55 : decode cX12_init 55 = .ok (.putfield 25, 3) := by decide +kernel
theorem dX12_init_58 : decode cX12_init 58 = .ok (.aload_n 0, 1) := by decide +kernel
theorem dX12_init_59 : decode cX12_init 59 = .ok (.sipush 1400, 3) := by decide +kernel
theorem dX12_init_62 : decode cX12_init 62 = .ok (.newarray .long, 2) := by decide +kernel
theorem dX12_init_64 : decode cX12_init 64 = .ok (.putfield 28, 3) := by decide +kernel
theorem dX12_init_67 : decode cX12_init 67 = .ok (.aload_n 0, 1) := by decide +kernel
theorem dX12_init_68 : decode cX12_init 68 = .ok (.sipush 1400, 3) := by decide +kernel
theorem dX12_init_71 : decode cX12_init 71 = .ok (.newarray .int, 2) := by decide +kernel
theorem dX12_init_73 : decode cX12_init 73 = .ok (.putfield 32, 3) := by decide +kernel
theorem dX12_init_76 : decode cX12_init 76 = .ok (.aload_n 0, 1) := by decide +kernel
theorem dX12_init_77 : decode cX12_init 77 = .ok (.sipush 1400, 3) := by decide +kernel
theorem dX12_init_80 : decode cX12_init 80 = .ok (.newarray .int, 2) := by decide +kernel
theorem dX12_init_82 : decode cX12_init 82 = .ok (.putfield 35, 3) := by decide +kernel
theorem dX12_init_85 : decode cX12_init 85 = .ok (.aload_n 0, 1) := by decide +kernel
theorem dX12_init_86 : decode cX12_init 86 = .ok (.sipush 1400, 3) := by decide +kernel
theorem dX12_init_89 : decode cX12_init 89 = .ok (.newarray .int, 2) := by decide +kernel
theorem dX12_init_91 : decode cX12_init 91 = .ok (.putfield 38, 3) := by decide +kernel
theorem dX12_init_94 : decode cX12_init 94 = .ok (.aload_n 0, 1) := by decide +kernel
theorem dX12_init_95 : decode cX12_init 95 = .ok (.sipush 1400, 3) := by decide +kernel
theorem dX12_init_98 : decode cX12_init 98 = .ok (.newarray .int, 2) := by decide +kernel
theorem dX12_init_100 : decode cX12_init 100 = .ok (.putfield 41, 3) := by decide +kernel
theorem dX12_init_103 : decode cX12_init 103 = .ok (.aload_n 0, 1) := by decide +kernel
theorem dX12_init_104 : decode cX12_init 104 = .ok (.sipush 1400, 3) := by decide +kernel
theorem dX12_init_107 : decode cX12_init 107 = .ok (.newarray .int, 2) := by decide +kernel
theorem dX12_init_109 : decode cX12_init 109 = .ok (.putfield 44, 3) := by decide +kernel
theorem dX12_init_112 : decode cX12_init 112 = .ok (.aload_n 0, 1) := by decide +kernel
theorem dX12_init_113 : decode cX12_init 113 = .ok (.sipush 1400, 3) := by decide +kernel
theorem dX12_init_116 : decode cX12_init 116 = .ok (.newarray .long, 2) := by decide +kernel
theorem dX12_init_118 : decode cX12_init 118 = .ok (.putfield 47, 3) := by decide +kernel
theorem dX12_init_121 : decode cX12_init 121 = .ok (.aload_n 0, 1) := by decide +kernel
theorem dX12_init_122 : decode cX12_init 122 = .ok (.sipush 1400, 3) := by decide +kernel
theorem dX12_init_125 : decode cX12_init 125 = .ok (.newarray .int, 2) := by decide +kernel
theorem dX12_init_127 : decode cX12_init 127 = .ok (.putfield 50, 3) := by decide +kernel
theorem dX12_init_130 : decode cX12_init 130 = .ok (.aload_n 0, 1) := by decide +kernel
theorem dX12_init_131 : decode cX12_init 131 = .ok (.sipush 4200, 3) := by decide +kernel
theorem dX12_init_134 : decode cX12_init 134 = .ok (.newarray .int, 2) := by decide +kernel
theorem dX12_init_136 : decode cX12_init 136 = .ok (.putfield 53, 3) := by decide +kernel
theorem dX12_init_139 : decode cX12_init 139 = .ok (.aload_n 0, 1) := by decide +kernel
theorem dX12_init_140 : decode cX12_init 140 = .ok (.sipush 4200, 3) := by decide +kernel
theorem dX12_init_143 : decode cX12_init 143 = .ok (.newarray .int, 2) := by decide +kernel
theorem dX12_init_145 : decode cX12_init 145 = .ok (.putfield 56, 3) := by decide +kernel
theorem dX12_init_148 : decode cX12_init 148 = .ok (.aload_n 0, 1) := by decide +kernel
theorem dX12_init_149 : decode cX12_init 149 = .ok (.sipush 4200, 3) := by decide +kernel
theorem dX12_init_152 : decode cX12_init 152 = .ok (.newarray .int, 2) := by decide +kernel
theorem dX12_init_154 : decode cX12_init 154 = .ok (.putfield 59, 3) := by decide +kernel
theorem dX12_init_157 : decode cX12_init 157 = .ok (.aload_n 0, 1) := by decide +kernel
theorem dX12_init_158 : decode cX12_init 158 = .ok (.sipush 4200, 3) := by decide +kernel
theorem dX12_init_161 : decode cX12_init 161 = .ok (.newarray .int, 2) := by decide +kernel
theorem dX12_init_163 : decode cX12_init 163 = .ok (.putfield 62, 3) := by decide +kernel
theorem dX12_init_166 : decode cX12_init 166 = .ok (.aload_n 0, 1) := by decide +kernel
theorem dX12_init_167 : decode cX12_init 167 = .ok (.sipush 4200, 3) := by decide +kernel
theorem dX12_init_170 : decode cX12_init 170 = .ok (.newarray .int, 2) := by decide +kernel
theorem dX12_init_172 : decode cX12_init 172 = .ok (.putfield 65, 3) := by decide +kernel
theorem dX12_init_175 : decode cX12_init 175 = .ok (.aload_n 0, 1) := by decide +kernel
theorem dX12_init_176 : decode cX12_init 176 = .ok (.sipush 4200, 3) := by decide +kernel
theorem dX12_init_179 : decode cX12_init 179 = .ok (.newarray .int, 2) := by decide +kernel
theorem dX12_init_181 : decode cX12_init 181 = .ok (.putfield 68, 3) := by decide +kernel
theorem dX12_init_184 : decode cX12_init 184 = .ok (.aload_n 0, 1) := by decide +kernel
theorem dX12_init_185 : decode cX12_init 185 = .ok (.sipush 4200, 3) := by decide +kernel
theorem dX12_init_188 : decode cX12_init 188 = .ok (.newarray .int, 2) := by decide +kernel
theorem dX12_init_190 : decode cX12_init 190 = .ok (.putfield 71, 3) := by decide +kernel
theorem dX12_init_193 : decode cX12_init 193 = .ok (.aload_n 0, 1) := by decide +kernel
theorem dX12_init_194 : decode cX12_init 194 = .ok (.bipush 100, 2) := by decide +kernel
theorem dX12_init_196 : decode cX12_init 196 = .ok (.newarray .int, 2) := by decide +kernel
theorem dX12_init_198 : decode cX12_init 198 = .ok (.putfield 74, 3) := by decide +kernel
theorem dX12_init_201 : decode cX12_init 201 = .ok (.aload_n 0, 1) := by decide +kernel
theorem dX12_init_202 : decode cX12_init 202 = .ok (.bipush 100, 2) := by decide +kernel
theorem dX12_init_204 : decode cX12_init 204 = .ok (.newarray .int, 2) := by decide +kernel
theorem dX12_init_206 : decode cX12_init 206 = .ok (.putfield 77, 3) := by decide +kernel
theorem dX12_init_209 : decode cX12_init 209 = .ok (.aload_n 0, 1) := by decide +kernel
theorem dX12_init_210 : decode cX12_init 210 = .ok (.bipush 100, 2) := by decide +kernel
theorem dX12_init_212 : decode cX12_init 212 = .ok (.newarray .int, 2) := by decide +kernel
theorem dX12_init_214 : decode cX12_init 214 = .ok (.putfield 80, 3) := by decide +kernel
theorem dX12_init_217 : decode cX12_init 217 = .ok (.aload_n 0, 1) := by decide +kernel
theorem dX12_init_218 : decode cX12_init 218 = .ok (.bipush 100, 2) := by decide +kernel
theorem dX12_init_220 : decode cX12_init 220 = .ok (.newarray .boolean, 2) := by decide +kernel
theorem dX12_init_222 : decode cX12_init 222 = .ok (.putfield 83, 3) := by decide +kernel
theorem dX12_init_225 : decode cX12_init 225 = .ok (.aload_n 0, 1) := by decide +kernel
theorem dX12_init_226 : decode cX12_init 226 = .ok (.bipush 100, 2) := by decide +kernel
theorem dX12_init_228 : decode cX12_init 228 = .ok (.newarray .int, 2) := by decide +kernel
theorem dX12_init_230 : decode cX12_init 230 = .ok (.putfield 87, 3) := by decide +kernel
theorem dX12_init_233 : decode cX12_init 233 = .ok (.aload_n 0, 1) := by decide +kernel
theorem dX12_init_234 : decode cX12_init 234 = .ok (.bipush 100, 2) := by decide +kernel
theorem dX12_init_236 : decode cX12_init 236 = .ok (.newarray .int, 2) := by decide +kernel
theorem dX12_init_238 : decode cX12_init 238 = .ok (.putfield 90, 3) := by decide +kernel
theorem dX12_init_241 : decode cX12_init 241 = .ok (.aload_n 0, 1) := by decide +kernel
theorem dX12_init_242 : decode cX12_init 242 = .ok (.bipush 100, 2) := by decide +kernel
theorem dX12_init_244 : decode cX12_init 244 = .ok (.newarray .int, 2) := by decide +kernel
theorem dX12_init_246 : decode cX12_init 246 = .ok (.putfield 93, 3) := by decide +kernel
theorem dX12_init_249 : decode cX12_init 249 = .ok (.aload_n 0, 1) := by decide +kernel
theorem dX12_init_250 : decode cX12_init 250 = .ok (.sipush 1300, 3) := by decide +kernel
theorem dX12_init_253 : decode cX12_init 253 = .ok (.newarray .int, 2) := by decide +kernel
theorem dX12_init_255 : decode cX12_init 255 = .ok (.putfield 96, 3) := by decide +kernel
theorem dX12_init_258 : decode cX12_init 258 = .ok (.aload_n 0, 1) := by decide +kernel
theorem dX12_init_259 : decode cX12_init 259 = .ok (.sipush 1300, 3) := by decide +kernel
theorem dX12_init_262 : decode cX12_init 262 = .ok (.newarray .int, 2) := by decide +kernel
theorem dX12_init_264 : decode cX12_init 264 = .ok (.putfield 99, 3) := by decide +kernel
theorem dX12_init_267 : decode cX12_init 267 = .ok (.aload_n 0, 1) := by decide +kernel
theorem dX12_init_268 : decode cX12_init 268 = .ok (.sipush 1300, 3) := by decide +kernel
theorem dX12_init_271 : decode cX12_init 271 = .ok (.newarray .int, 2) := by decide +kernel
theorem dX12_init_273 : decode cX12_init 273 = .ok (.putfield 102, 3) := by decide +kernel
theorem dX12_init_276 : decode cX12_init 276 = .ok (.aload_n 0, 1) := by decide +kernel
theorem dX12_init_277 : decode cX12_init 277 = .ok (.sipush 1300, 3) := by decide +kernel
theorem dX12_init_280 : decode cX12_init 280 = .ok (.newarray .int, 2) := by decide +kernel
theorem dX12_init_282 : decode cX12_init 282 = .ok (.putfield 105, 3) := by decide +kernel
theorem dX12_init_285 : decode cX12_init 285 = .ok (.aload_n 0, 1) := by decide +kernel
theorem dX12_init_286 : decode cX12_init 286 = .ok (.sipush 1300, 3) := by decide +kernel
theorem dX12_init_289 : decode cX12_init 289 = .ok (.newarray .int, 2) := by decide +kernel
theorem dX12_init_291 : decode cX12_init 291 = .ok (.putfield 108, 3) := by decide +kernel
theorem dX12_init_294 : decode cX12_init 294 = .ok (.aload_n 0, 1) := by decide +kernel
theorem dX12_init_295 : decode cX12_init 295 = .ok (.sipush 30000, 3) := by decide +kernel
theorem dX12_init_298 : decode cX12_init 298 = .ok (.newarray .int, 2) := by decide +kernel
theorem dX12_init_300 : decode cX12_init 300 = .ok (.putfield 111, 3) := by decide +kernel
theorem dX12_init_303 : decode cX12_init 303 = .ok (.aload_n 0, 1) := by decide +kernel
theorem dX12_init_304 : decode cX12_init 304 = .ok (.sipush 1400, 3) := by decide +kernel
theorem dX12_init_307 : decode cX12_init 307 = .ok (.newarray .int, 2) := by decide +kernel
theorem dX12_init_309 : decode cX12_init 309 = .ok (.putfield 114, 3) := by decide +kernel
theorem dX12_init_312 : decode cX12_init 312 = .ok (.aload_n 0, 1) := by decide +kernel
theorem dX12_init_313 : decode cX12_init 313 = .ok (.sipush 6000, 3) := by decide +kernel
theorem dX12_init_316 : decode cX12_init 316 = .ok (.newarray .int, 2) := by decide +kernel
theorem dX12_init_318 : decode cX12_init 318 = .ok (.putfield 117, 3) := by decide +kernel
theorem dX12_init_321 : decode cX12_init 321 = .ok (.aload_n 0, 1) := by decide +kernel
theorem dX12_init_322 : decode cX12_init 322 = .ok (.sipush 6000, 3) := by decide +kernel
theorem dX12_init_325 : decode cX12_init 325 = .ok (.newarray .int, 2) := by decide +kernel
theorem dX12_init_327 : decode cX12_init 327 = .ok (.putfield 120, 3) := by decide +kernel
theorem dX12_init_330 : decode cX12_init 330 = .ok (.aload_n 0, 1) := by decide +kernel
theorem dX12_init_331 : decode cX12_init 331 = .ok (.sipush 4200, 3) := by decide +kernel
theorem dX12_init_334 : decode cX12_init 334 = .ok (.newarray .int, 2) := by decide +kernel
theorem dX12_init_336 : decode cX12_init 336 = .ok (.putfield 123, 3) := by decide +kernel
theorem dX12_init_339 : decode cX12_init 339 = .ok (.aload_n 0, 1) := by decide +kernel
theorem dX12_init_340 : decode cX12_init 340 = .ok (.sipush 4200, 3) := by decide +kernel
theorem dX12_init_343 : decode cX12_init 343 = .ok (.newarray .int, 2) := by decide +kernel
theorem dX12_init_345 : decode cX12_init 345 = .ok (.putfield 126, 3) := by decide +kernel
theorem dX12_init_348 : decode cX12_init 348 = .ok (.aload_n 0, 1) := by decide +kernel
theorem dX12_init_349 : decode cX12_init 349 = .ok (.sipush 4200, 3) := by decide +kernel
theorem dX12_init_352 : decode cX12_init 352 = .ok (.newarray .int, 2) := by decide +kernel
theorem dX12_init_354 : decode cX12_init 354 = .ok (.putfield 129, 3) := by decide +kernel
theorem dX12_init_357 : decode cX12_init 357 = .ok (.aload_n 0, 1) := by decide +kernel
theorem dX12_init_358 : decode cX12_init 358 = .ok (.sipush 4096, 3) := by decide +kernel
theorem dX12_init_361 : decode cX12_init 361 = .ok (.newarray .int, 2) := by decide +kernel
theorem dX12_init_363 : decode cX12_init 363 = .ok (.putfield 132, 3) := by decide +kernel
theorem dX12_init_366 : decode cX12_init 366 = .ok (.aload_n 0, 1) := by decide +kernel
theorem dX12_init_367 : decode cX12_init 367 = .ok (.sipush 4096, 3) := by decide +kernel
theorem dX12_init_370 : decode cX12_init 370 = .ok (.newarray .int, 2) := by decide +kernel
theorem dX12_init_372 : decode cX12_init 372 = .ok (.putfield 135, 3) := by decide +kernel
theorem dX12_init_375 : decode cX12_init 375 = .ok (.aload_n 0, 1) := by decide +kernel
theorem dX12_init_376 : decode cX12_init 376 = .ok (.sipush 4120, 3) := by decide +kernel
theorem dX12_init_379 : decode cX12_init 379 = .ok (.newarray .int, 2) := by decide +kernel
theorem dX12_init_381 : decode cX12_init 381 = .ok (.putfield 138, 3) := by decide +kernel
theorem dX12_init_384 : decode cX12_init 384 = .ok (.aload_n 0, 1) := by decide +kernel
theorem dX12_init_385 : decode cX12_init 385 = .ok (.sipush 4120, 3) := by decide +kernel
theorem dX12_init_388 : decode cX12_init 388 = .ok (.newarray .int, 2) := by decide +kernel
theorem dX12_init_390 : decode cX12_init 390 = .ok (.putfield 141, 3) := by decide +kernel
theorem dX12_init_393 : decode cX12_init 393 = .ok (.aload_n 0, 1) := by decide +kernel
theorem dX12_init_394 : decode cX12_init 394 = .ok (.sipush 4120, 3) := by decide +kernel
theorem dX12_init_397 : decode cX12_init 397 = .ok (.newarray .int, 2) := by decide +kernel
theorem dX12_init_399 : decode cX12_init 399 = .ok (.putfield 144, 3) := by decide +kernel
theorem dX12_init_402 : decode cX12_init 402 = .ok (.aload_n 0, 1) := by decide +kernel
theorem dX12_init_403 : decode cX12_init 403 = .ok (.sipush 5500, 3) := by decide +kernel
theorem dX12_init_406 : decode cX12_init 406 = .ok (.newarray .int, 2) := by decide +kernel
theorem dX12_init_408 : decode cX12_init 408 = .ok (.putfield 147, 3) := by decide +kernel
theorem dX12_init_411 : decode cX12_init 411 = .ok (.aload_n 0, 1) := by decide +kernel
theorem dX12_init_412 : decode cX12_init 412 = .ok (.sipush 4120, 3) := by decide +kernel
theorem dX12_init_415 : decode cX12_init 415 = .ok (.newarray .int, 2) := by decide +kernel
theorem dX12_init_417 : decode cX12_init 417 = .ok (.putfield 150, 3) := by decide +kernel
theorem dX12_init_420 : decode cX12_init 420 = .ok (.aload_n 0, 1) := by decide +kernel
theorem dX12_init_421 : decode cX12_init 421 = .ok (.sipush 4120, 3) := by decide +kernel
theorem dX12_init_424 : decode cX12_init 424 = .ok (.newarray .int, 2) := by decide +kernel
theorem dX12_init_426 : decode cX12_init 426 = .ok (.putfield 153, 3) := by decide +kernel
theorem dX12_init_429 : decode cX12_init 429 = .ok (.aload_n 0, 1) := by decide +kernel
theorem dX12_init_430 : decode cX12_init 430 = .ok (.iload_n 1, 1) := by decide +kernel
theorem dX12_init_431 : decode cX12_init 431 = .ok (.invokestatic 156, 3) := by decide +kernel
theorem dX12_init_434 : decode cX12_init 434 = .ok (.putfield 160, 3) := by decide +kernel
theorem dX12_init_437 : decode cX12_init 437 = .ok (.aload_n 0, 1) := by decide +kernel
theorem dX12_init_438 : decode cX12_init 438 = .ok (.iload_n 2, 1) := by decide +kernel
theorem dX12_init_439 : decode cX12_init 439 = .ok (.invokestatic 156, 3) := by decide +kernel
theorem dX12_init_442 : decode cX12_init 442 = .ok (.putfield 164, 3) := by decide +kernel
theorem dX12_init_445 : decode cX12_init 445 = .ok (.aload_n 0, 1) := by decide +kernel
theorem dX12_init_446 : decode cX12_init 446 = .ok (.iload_n 3, 1) := by decide +kernel
theorem dX12_init_447 : decode cX12_init 447 = .ok (.invokestatic 156, 3) := by decide +kernel
theorem dX12_init_450 : decode cX12_init 450 = .ok (.putfield 167, 3) := by decide +kernel
theorem dX12_init_453 : decode cX12_init 453 = .ok (.aload_n 0, 1) := by decide +kernel
theorem dX12_init_454 : decode cX12_init 454 = .ok (.iload 4, 2) := by decide +kernel
theorem dX12_init_456 : decode cX12_init 456 = .ok (.invokestatic 156, 3) := by decide +kernel
theorem dX12_init_459 : decode cX12_init 459 = .ok (.putfield 170, 3) := by decide +kernel
theorem dX12_init_462 : decode cX12_init 462 = .ok (.aload_n 0, 1) := by decide +kernel
theorem dX12_init_463 : decode cX12_init 463 = .ok (.iload 5, 2) := by decide +kernel
theorem dX12_init_465 : decode cX12_init 465 = .ok (.invokestatic 156, 3) := by decide +kernel
theorem dX12_init_468 : decode cX12_init 468 = .ok (.putfield 173, 3) := by decide +kernel
theorem dX12_init_471 : decode cX12_init 471 = .ok (.return_, 1) := by decide +kernel
theorem dX12_feed_0 : decode cX12_feed 0 = .ok (.aload_n 0, 1) := by decide +kernel
theorem dX12_feed_1 : decode cX12_feed 1 = .ok (.getfield 176, 3) := by decide +kernel
theorem dX12_feed_4 : decode cX12_feed 4 = .ok (.aload_n 0, 1) := by decide +kernel
theorem dX12_feed_5 : decode cX12_feed 5 = .ok (.getfield 160, 3) := by decide +kernel
theorem dX12_feed_8 : decode cX12_feed 8 = .ok (.if_icmp .ne 5, 3) := by decide +kernel
theorem dX12_feed_11 : decode cX12_feed 11 = .ok (.iconst 1, 1) := by decide +kernel
theorem dX12_feed_12 : decode cX12_feed 12 = .ok (.ireturn, 1) := by decide +kernel
theorem dX12_feed_13 : decode cX12_feed 13 = .ok (.aload_n 0, 1) := by decide +kernel
theorem dX12_feed_14 : decode cX12_feed 14 = .ok (.getfield 7, 3) := by decide +kernel
theorem dX12_feed_17 : decode cX12_feed 17 = .ok (.aload_n 0, 1) := by decide +kernel
theorem dX12_feed_18 : decode cX12_feed 18 = .ok (.getfield 176, 3) := by decide +kernel
theorem dX12_feed_21 : decode cX12_feed 21 = .ok (.iload_n 1, 1) := by decide +kernel
theorem dX12_feed_22 : decode cX12_feed 22 = .ok (.iastore, 1) := by decide +kernel
theorem dX12_feed_23 : decode cX12_feed 23 = .ok (.aload_n 0, 1) := by decide +kernel
theorem dX12_feed_24 : decode cX12_feed 24 = .ok (.dup, 1) := by decide +kernel
theorem dX12_feed_25 : decode cX12_feed 25 = .ok (.getfield 176, 3) := by decide +kernel
theorem dX12_feed_28 : decode cX12_feed 28 = .ok (.iconst 1, 1) := by decide +kernel
theorem dX12_feed_29 : decode cX12_feed 29 = .ok (.iadd, 1) := by decide +kernel
theorem dX12_feed_30 : decode cX12_feed 30 = .ok (.putfield 176, 3) := by decide +kernel
theorem dX12_feed_33 : decode cX12_feed 33 = .ok (.iconst 0, 1) := by decide +kernel
theorem dX12_feed_34 : decode cX12_feed 34 = .ok (.ireturn, 1) := by decide +kernel
theorem dX12_wordOf_0 : decode cX12_wordOf 0 = .ok (.iload_n 0, 1) := by decide +kernel
theorem dX12_wordOf_1 : decode cX12_wordOf 1 = .ok (.tableswitch 63 0 5 #[39, 43, 47, 51, 55, 59], 39) := by decide +kernel
theorem dX12_wordOf_40 : decode cX12_wordOf 40 = .ok (.ldc2_w 179, 3) := by decide +kernel
theorem dX12_wordOf_43 : decode cX12_wordOf 43 = .ok (.lreturn, 1) := by decide +kernel
theorem dX12_wordOf_44 : decode cX12_wordOf 44 = .ok (.ldc2_w 181, 3) := by decide +kernel
theorem dX12_wordOf_47 : decode cX12_wordOf 47 = .ok (.lreturn, 1) := by decide +kernel
theorem dX12_wordOf_48 : decode cX12_wordOf 48 = .ok (.ldc2_w 183, 3) := by decide +kernel
theorem dX12_wordOf_51 : decode cX12_wordOf 51 = .ok (.lreturn, 1) := by decide +kernel
theorem dX12_wordOf_52 : decode cX12_wordOf 52 = .ok (.ldc2_w 185, 3) := by decide +kernel
theorem dX12_wordOf_55 : decode cX12_wordOf 55 = .ok (.lreturn, 1) := by decide +kernel
theorem dX12_wordOf_56 : decode cX12_wordOf 56 = .ok (.ldc2_w 187, 3) := by decide +kernel
theorem dX12_wordOf_59 : decode cX12_wordOf 59 = .ok (.lreturn, 1) := by decide +kernel
theorem dX12_wordOf_60 : decode cX12_wordOf 60 = .ok (.ldc2_w 189, 3) := by decide +kernel
theorem dX12_wordOf_63 : decode cX12_wordOf 63 = .ok (.lreturn, 1) := by decide +kernel
theorem dX12_wordOf_64 : decode cX12_wordOf 64 = .ok (.ldc2_w 191, 3) := by decide +kernel
theorem dX12_wordOf_67 : decode cX12_wordOf 67 = .ok (.lreturn, 1) := by decide +kernel
theorem dX12_isLetter_0 : decode cX12_isLetter 0 = .ok (.iload_n 0, 1) := by decide +kernel
theorem dX12_isLetter_1 : decode cX12_isLetter 1 = .ok (.bipush 97, 2) := by decide +kernel
theorem dX12_isLetter_3 : decode cX12_isLetter 3 = .ok (.if_icmp .lt 9, 3) := by decide +kernel
theorem dX12_isLetter_6 : decode cX12_isLetter 6 = .ok (.iload_n 0, 1) := by decide +kernel
theorem dX12_isLetter_7 : decode cX12_isLetter 7 = .ok (.bipush 122, 2) := by decide +kernel
theorem dX12_isLetter_9 : decode cX12_isLetter 9 = .ok (.if_icmp .le 21, 3) := by decide +kernel
theorem dX12_isLetter_12 : decode cX12_isLetter 12 = .ok (.iload_n 0, 1) := by decide +kernel
theorem dX12_isLetter_13 : decode cX12_isLetter 13 = .ok (.bipush 65, 2) := by decide +kernel
theorem dX12_isLetter_15 : decode cX12_isLetter 15 = .ok (.if_icmp .lt 9, 3) := by decide +kernel
theorem dX12_isLetter_18 : decode cX12_isLetter 18 = .ok (.iload_n 0, 1) := by decide +kernel
theorem dX12_isLetter_19 : decode cX12_isLetter 19 = .ok (.bipush 90, 2) := by decide +kernel
theorem dX12_isLetter_21 : decode cX12_isLetter 21 = .ok (.if_icmp .le 9, 3) := by decide +kernel
theorem dX12_isLetter_24 : decode cX12_isLetter 24 = .ok (.iload_n 0, 1) := by decide +kernel
theorem dX12_isLetter_25 : decode cX12_isLetter 25 = .ok (.bipush 95, 2) := by decide +kernel
theorem dX12_isLetter_27 : decode cX12_isLetter 27 = .ok (.if_icmp .ne 7, 3) := by decide +kernel
theorem dX12_isLetter_30 : decode cX12_isLetter 30 = .ok (.iconst 1, 1) := by decide +kernel
theorem dX12_isLetter_31 : decode cX12_isLetter 31 = .ok (.goto 4, 3) := by decide +kernel
theorem dX12_isLetter_34 : decode cX12_isLetter 34 = .ok (.iconst 0, 1) := by decide +kernel
theorem dX12_isLetter_35 : decode cX12_isLetter 35 = .ok (.ireturn, 1) := by decide +kernel
theorem dX12_isDigit_0 : decode cX12_isDigit 0 = .ok (.iload_n 0, 1) := by decide +kernel
theorem dX12_isDigit_1 : decode cX12_isDigit 1 = .ok (.bipush 48, 2) := by decide +kernel
theorem dX12_isDigit_3 : decode cX12_isDigit 3 = .ok (.if_icmp .lt 13, 3) := by decide +kernel
theorem dX12_isDigit_6 : decode cX12_isDigit 6 = .ok (.iload_n 0, 1) := by decide +kernel
theorem dX12_isDigit_7 : decode cX12_isDigit 7 = .ok (.bipush 57, 2) := by decide +kernel
theorem dX12_isDigit_9 : decode cX12_isDigit 9 = .ok (.if_icmp .gt 7, 3) := by decide +kernel
theorem dX12_isDigit_12 : decode cX12_isDigit 12 = .ok (.iconst 1, 1) := by decide +kernel
theorem dX12_isDigit_13 : decode cX12_isDigit 13 = .ok (.goto 4, 3) := by decide +kernel
theorem dX12_isDigit_16 : decode cX12_isDigit 16 = .ok (.iconst 0, 1) := by decide +kernel
theorem dX12_isDigit_17 : decode cX12_isDigit 17 = .ok (.ireturn, 1) := by decide +kernel
theorem dX12_see_0 : decode cX12_see 0 = .ok (.iload_n 1, 1) := by decide +kernel
theorem dX12_see_1 : decode cX12_see 1 = .ok (.aload_n 0, 1) := by decide +kernel
theorem dX12_see_2 : decode cX12_see 2 = .ok (.getfield 193, 3) := by decide +kernel
theorem dX12_see_5 : decode cX12_see 5 = .ok (.if_icmp .ge 12, 3) := by decide +kernel
theorem dX12_see_8 : decode cX12_see 8 = .ok (.aload_n 0, 1) := by decide +kernel
theorem dX12_see_9 : decode cX12_see 9 = .ok (.getfield 25, 3) := by decide +kernel
theorem dX12_see_12 : decode cX12_see 12 = .ok (.iload_n 1, 1) := by decide +kernel
theorem dX12_see_13 : decode cX12_see 13 = .ok (.iaload, 1) := by decide +kernel
theorem dX12_see_14 : decode cX12_see 14 = .ok (.goto 4, 3) := by decide +kernel
theorem dX12_see_17 : decode cX12_see 17 = .ok (.iconst (-1), 1) := by decide +kernel
theorem dX12_see_18 : decode cX12_see 18 = .ok (.ireturn, 1) := by decide +kernel
theorem dX12_next_0 : decode cX12_next 0 = .ok (.aload_n 0, 1) := by decide +kernel
theorem dX12_next_1 : decode cX12_next 1 = .ok (.getfield 196, 3) := by decide +kernel
theorem dX12_next_4 : decode cX12_next 4 = .ok (.aload_n 0, 1) := by decide +kernel
theorem dX12_next_5 : decode cX12_next 5 = .ok (.getfield 193, 3) := by decide +kernel
theorem dX12_next_8 : decode cX12_next 8 = .ok (.if_icmp .ge 44, 3) := by decide +kernel
theorem dX12_next_11 : decode cX12_next 11 = .ok (.aload_n 0, 1) := by decide +kernel
theorem dX12_next_12 : decode cX12_next 12 = .ok (.getfield 25, 3) := by decide +kernel
theorem dX12_next_15 : decode cX12_next 15 = .ok (.aload_n 0, 1) := by decide +kernel
theorem dX12_next_16 : decode cX12_next 16 = .ok (.getfield 196, 3) := by decide +kernel
theorem dX12_next_19 : decode cX12_next 19 = .ok (.iaload, 1) := by decide +kernel
theorem dX12_next_20 : decode cX12_next 20 = .ok (.bipush 32, 2) := by decide +kernel
theorem dX12_next_22 : decode cX12_next 22 = .ok (.if_icmp .eq 17, 3) := by decide +kernel
theorem dX12_next_25 : decode cX12_next 25 = .ok (.aload_n 0, 1) := by decide +kernel
theorem dX12_next_26 : decode cX12_next 26 = .ok (.getfield 25, 3) := by decide +kernel
theorem dX12_next_29 : decode cX12_next 29 = .ok (.aload_n 0, 1) := by decide +kernel
theorem dX12_next_30 : decode cX12_next 30 = .ok (.getfield 196, 3) := by decide +kernel
theorem dX12_next_33 : decode cX12_next 33 = .ok (.iaload, 1) := by decide +kernel
theorem dX12_next_34 : decode cX12_next 34 = .ok (.bipush 10, 2) := by decide +kernel
theorem dX12_next_36 : decode cX12_next 36 = .ok (.if_icmp .ne 16, 3) := by decide +kernel
theorem dX12_next_39 : decode cX12_next 39 = .ok (.aload_n 0, 1) := by decide +kernel
theorem dX12_next_40 : decode cX12_next 40 = .ok (.dup, 1) := by decide +kernel
theorem dX12_next_41 : decode cX12_next 41 = .ok (.getfield 196, 3) := by decide +kernel
theorem dX12_next_44 : decode cX12_next 44 = .ok (.iconst 1, 1) := by decide +kernel
theorem dX12_next_45 : decode cX12_next 45 = .ok (.iadd, 1) := by decide +kernel
theorem dX12_next_46 : decode cX12_next 46 = .ok (.putfield 196, 3) := by decide +kernel
theorem dX12_next_49 : decode cX12_next 49 = .ok (.goto (-49), 3) := by decide +kernel
theorem dX12_next_52 : decode cX12_next 52 = .ok (.aload_n 0, 1) := by decide +kernel
theorem dX12_next_53 : decode cX12_next 53 = .ok (.aload_n 0, 1) := by decide +kernel
theorem dX12_next_54 : decode cX12_next 54 = .ok (.getfield 196, 3) := by decide +kernel
theorem dX12_next_57 : decode cX12_next 57 = .ok (.putfield 199, 3) := by decide +kernel
theorem dX12_next_60 : decode cX12_next 60 = .ok (.aload_n 0, 1) := by decide +kernel
theorem dX12_next_61 : decode cX12_next 61 = .ok (.lconst 0, 1) := by decide +kernel
theorem dX12_next_62 : decode cX12_next 62 = .ok (.putfield 202, 3) := by decide +kernel
theorem dX12_next_65 : decode cX12_next 65 = .ok (.aload_n 0, 1) := by decide +kernel
theorem dX12_next_66 : decode cX12_next 66 = .ok (.getfield 196, 3) := by decide +kernel
theorem dX12_next_69 : decode cX12_next 69 = .ok (.aload_n 0, 1) := by decide +kernel
theorem dX12_next_70 : decode cX12_next 70 = .ok (.getfield 193, 3) := by decide +kernel
theorem dX12_next_73 : decode cX12_next 73 = .ok (.if_icmp .lt 11, 3) := by decide +kernel
theorem dX12_next_76 : decode cX12_next 76 = .ok (.aload_n 0, 1) := by decide +kernel
theorem dX12_next_77 : decode cX12_next 77 = .ok (.iconst 0, 1) := by decide +kernel
theorem dX12_next_78 : decode cX12_next 78 = .ok (.putfield 206, 3) := by decide +kernel
theorem dX12_next_81 : decode cX12_next 81 = .ok (.goto 51, 3) := by decide +kernel
theorem dX12_next_84 : decode cX12_next 84 = .ok (.aload_n 0, 1) := by decide +kernel
theorem dX12_next_85 : decode cX12_next 85 = .ok (.getfield 25, 3) := by decide +kernel
theorem dX12_next_88 : decode cX12_next 88 = .ok (.aload_n 0, 1) := by decide +kernel
theorem dX12_next_89 : decode cX12_next 89 = .ok (.getfield 196, 3) := by decide +kernel
theorem dX12_next_92 : decode cX12_next 92 = .ok (.iaload, 1) := by decide +kernel
theorem dX12_next_93 : decode cX12_next 93 = .ok (.invokestatic 209, 3) := by decide +kernel
theorem dX12_next_96 : decode cX12_next 96 = .ok (.ifCond .eq 10, 3) := by decide +kernel
theorem dX12_next_99 : decode cX12_next 99 = .ok (.aload_n 0, 1) := by decide +kernel
theorem dX12_next_100 : decode cX12_next 100 = .ok (.invokevirtual 213, 3) := by decide +kernel
theorem dX12_next_103 : decode cX12_next 103 = .ok (.goto 29, 3) := by decide +kernel
theorem dX12_next_106 : decode cX12_next 106 = .ok (.aload_n 0, 1) := by decide +kernel
theorem dX12_next_107 : decode cX12_next 107 = .ok (.getfield 25, 3) := by decide +kernel
theorem dX12_next_110 : decode cX12_next 110 = .ok (.aload_n 0, 1) := by decide +kernel
theorem dX12_next_111 : decode cX12_next 111 = .ok (.getfield 196, 3) := by decide +kernel
theorem dX12_next_114 : decode cX12_next 114 = .ok (.iaload, 1) := by decide +kernel
theorem dX12_next_115 : decode cX12_next 115 = .ok (.invokestatic 216, 3) := by decide +kernel
theorem dX12_next_118 : decode cX12_next 118 = .ok (.ifCond .eq 10, 3) := by decide +kernel
theorem dX12_next_121 : decode cX12_next 121 = .ok (.aload_n 0, 1) := by decide +kernel
theorem dX12_next_122 : decode cX12_next 122 = .ok (.invokevirtual 219, 3) := by decide +kernel
theorem dX12_next_125 : decode cX12_next 125 = .ok (.goto 7, 3) := by decide +kernel
theorem dX12_next_128 : decode cX12_next 128 = .ok (.aload_n 0, 1) := by decide +kernel
theorem dX12_next_129 : decode cX12_next 129 = .ok (.invokevirtual 222, 3) := by decide +kernel
theorem dX12_next_132 : decode cX12_next 132 = .ok (.return_, 1) := by decide +kernel
theorem dX12_name_0 : decode cX12_name 0 = .ok (.aload_n 0, 1) := by decide +kernel
theorem dX12_name_1 : decode cX12_name 1 = .ok (.getfield 196, 3) := by decide +kernel
theorem dX12_name_4 : decode cX12_name 4 = .ok (.aload_n 0, 1) := by decide +kernel
theorem dX12_name_5 : decode cX12_name 5 = .ok (.getfield 193, 3) := by decide +kernel
theorem dX12_name_8 : decode cX12_name 8 = .ok (.if_icmp .ge 46, 3) := by decide +kernel
theorem dX12_name_11 : decode cX12_name 11 = .ok (.aload_n 0, 1) := by decide +kernel
theorem dX12_name_12 : decode cX12_name 12 = .ok (.getfield 25, 3) := by decide +kernel
theorem dX12_name_15 : decode cX12_name 15 = .ok (.aload_n 0, 1) := by decide +kernel
theorem dX12_name_16 : decode cX12_name 16 = .ok (.getfield 196, 3) := by decide +kernel
theorem dX12_name_19 : decode cX12_name 19 = .ok (.iaload, 1) := by decide +kernel
theorem dX12_name_20 : decode cX12_name 20 = .ok (.invokestatic 209, 3) := by decide +kernel
theorem dX12_name_23 : decode cX12_name 23 = .ok (.ifCond .ne 18, 3) := by decide +kernel
theorem dX12_name_26 : decode cX12_name 26 = .ok (.aload_n 0, 1) := by decide +kernel
theorem dX12_name_27 : decode cX12_name 27 = .ok (.getfield 25, 3) := by decide +kernel
theorem dX12_name_30 : decode cX12_name 30 = .ok (.aload_n 0, 1) := by decide +kernel
theorem dX12_name_31 : decode cX12_name 31 = .ok (.getfield 196, 3) := by decide +kernel
theorem dX12_name_34 : decode cX12_name 34 = .ok (.iaload, 1) := by decide +kernel
theorem dX12_name_35 : decode cX12_name 35 = .ok (.invokestatic 216, 3) := by decide +kernel
theorem dX12_name_38 : decode cX12_name 38 = .ok (.ifCond .eq 16, 3) := by decide +kernel
theorem dX12_name_41 : decode cX12_name 41 = .ok (.aload_n 0, 1) := by decide +kernel
theorem dX12_name_42 : decode cX12_name 42 = .ok (.dup, 1) := by decide +kernel
theorem dX12_name_43 : decode cX12_name 43 = .ok (.getfield 196, 3) := by decide +kernel
theorem dX12_name_46 : decode cX12_name 46 = .ok (.iconst 1, 1) := by decide +kernel
theorem dX12_name_47 : decode cX12_name 47 = .ok (.iadd, 1) := by decide +kernel
theorem dX12_name_48 : decode cX12_name 48 = .ok (.putfield 196, 3) := by decide +kernel
theorem dX12_name_51 : decode cX12_name 51 = .ok (.goto (-51), 3) := by decide +kernel
theorem dX12_name_54 : decode cX12_name 54 = .ok (.aload_n 0, 1) := by decide +kernel
theorem dX12_name_55 : decode cX12_name 55 = .ok (.aload_n 0, 1) := by decide +kernel
theorem dX12_name_56 : decode cX12_name 56 = .ok (.getfield 196, 3) := by decide +kernel
theorem dX12_name_59 : decode cX12_name 59 = .ok (.aload_n 0, 1) := by decide +kernel
theorem dX12_name_60 : decode cX12_name 60 = .ok (.getfield 199, 3) := by decide +kernel
theorem dX12_name_63 : decode cX12_name 63 = .ok (.isub, 1) := by decide +kernel
theorem dX12_name_64 : decode cX12_name 64 = .ok (.bipush 8, 2) := by decide +kernel
theorem dX12_name_66 : decode cX12_name 66 = .ok (.if_icmp .gt 7, 3) := by decide +kernel
theorem dX12_name_69 : decode cX12_name 69 = .ok (.iconst 1, 1) := by decide +kernel
theorem dX12_name_70 : decode cX12_name 70 = .ok (.goto 4, 3) := by decide +kernel
theorem dX12_name_73 : decode cX12_name 73 = .ok (.iconst 5, 1) := by decide +kernel
theorem dX12_name_74 : decode cX12_name 74 = .ok (.putfield 206, 3) := by decide +kernel
theorem dX12_name_77 : decode cX12_name 77 = .ok (.aload_n 0, 1) := by decide +kernel
theorem dX12_name_78 : decode cX12_name 78 = .ok (.getfield 199, 3) := by decide +kernel
theorem dX12_name_81 : decode cX12_name 81 = .ok (.istore_n 1, 1) := by decide +kernel
theorem dX12_name_82 : decode cX12_name 82 = .ok (.iload_n 1, 1) := by decide +kernel
theorem dX12_name_83 : decode cX12_name 83 = .ok (.aload_n 0, 1) := by decide +kernel
theorem dX12_name_84 : decode cX12_name 84 = .ok (.getfield 196, 3) := by decide +kernel
theorem dX12_name_87 : decode cX12_name 87 = .ok (.if_icmp .ge 36, 3) := by decide +kernel
theorem dX12_name_90 : decode cX12_name 90 = .ok (.aload_n 0, 1) := by decide +kernel
theorem dX12_name_91 : decode cX12_name 91 = .ok (.getfield 206, 3) := by decide +kernel
theorem dX12_name_94 : decode cX12_name 94 = .ok (.iconst 1, 1) := by decide +kernel
theorem dX12_name_95 : decode cX12_name 95 = .ok (.if_icmp .ne 28, 3) := by decide +kernel
theorem dX12_name_98 : decode cX12_name 98 = .ok (.aload_n 0, 1) := by decide +kernel
theorem dX12_name_99 : decode cX12_name 99 = .ok (.aload_n 0, 1) := by decide +kernel
theorem dX12_name_100 : decode cX12_name 100 = .ok (.getfield 202, 3) := by decide +kernel
theorem dX12_name_103 : decode cX12_name 103 = .ok (.bipush 8, 2) := by decide +kernel
theorem dX12_name_105 : decode cX12_name 105 = .ok (.lshl, 1) := by decide +kernel
theorem dX12_name_106 : decode cX12_name 106 = .ok (.aload_n 0, 1) := by decide +kernel
theorem dX12_name_107 : decode cX12_name 107 = .ok (.getfield 25, 3) := by decide +kernel
theorem dX12_name_110 : decode cX12_name 110 = .ok (.iload_n 1, 1) := by decide +kernel
theorem dX12_name_111 : decode cX12_name 111 = .ok (.iaload, 1) := by decide +kernel
theorem dX12_name_112 : decode cX12_name 112 = .ok (.i2l, 1) := by decide +kernel
theorem dX12_name_113 : decode cX12_name 113 = .ok (.lor, 1) := by decide +kernel
theorem dX12_name_114 : decode cX12_name 114 = .ok (.putfield 202, 3) := by decide +kernel
theorem dX12_name_117 : decode cX12_name 117 = .ok (.iinc 1 1, 3) := by decide +kernel
theorem dX12_name_120 : decode cX12_name 120 = .ok (.goto (-38), 3) := by decide +kernel
theorem dX12_name_123 : decode cX12_name 123 = .ok (.iconst 0, 1) := by decide +kernel
theorem dX12_name_124 : decode cX12_name 124 = .ok (.istore_n 1, 1) := by decide +kernel
theorem dX12_name_125 : decode cX12_name 125 = .ok (.iload_n 1, 1) := by decide +kernel
theorem dX12_name_126 : decode cX12_name 126 = .ok (.bipush 7, 2) := by decide +kernel
theorem dX12_name_128 : decode cX12_name 128 = .ok (.if_icmp .ge 40, 3) := by decide +kernel
theorem dX12_name_131 : decode cX12_name 131 = .ok (.aload_n 0, 1) := by decide +kernel
theorem dX12_name_132 : decode cX12_name 132 = .ok (.getfield 206, 3) := by decide +kernel
theorem dX12_name_135 : decode cX12_name 135 = .ok (.iconst 1, 1) := by decide +kernel
theorem dX12_name_136 : decode cX12_name 136 = .ok (.if_icmp .ne 32, 3) := by decide +kernel
theorem dX12_name_139 : decode cX12_name 139 = .ok (.iload_n 1, 1) := by decide +kernel
theorem dX12_name_140 : decode cX12_name 140 = .ok (.invokestatic 225, 3) := by decide +kernel
theorem dX12_name_143 : decode cX12_name 143 = .ok (.aload_n 0, 1) := by decide +kernel
theorem dX12_name_144 : decode cX12_name 144 = .ok (.getfield 202, 3) := by decide +kernel
theorem dX12_name_147 : decode cX12_name 147 = .ok (.lcmp, 1) := by decide +kernel
theorem dX12_name_148 : decode cX12_name 148 = .ok (.ifCond .ne 14, 3) := by decide +kernel
theorem dX12_name_151 : decode cX12_name 151 = .ok (.aload_n 0, 1) := by decide +kernel
theorem dX12_name_152 : decode cX12_name 152 = .ok (.iconst 3, 1) := by decide +kernel
theorem dX12_name_153 : decode cX12_name 153 = .ok (.putfield 206, 3) := by decide +kernel
theorem dX12_name_156 : decode cX12_name 156 = .ok (.aload_n 0, 1) := by decide +kernel
theorem dX12_name_157 : decode cX12_name 157 = .ok (.iload_n 1, 1) := by decide +kernel
theorem dX12_name_158 : decode cX12_name 158 = .ok (.i2l, 1) := by decide +kernel
theorem dX12_name_159 : decode cX12_name 159 = .ok (.putfield 202, 3) := by decide +kernel
theorem dX12_name_162 : decode cX12_name 162 = .ok (.iinc 1 1, 3) := by decide +kernel
theorem dX12_name_165 : decode cX12_name 165 = .ok (.goto (-40), 3) := by decide +kernel
theorem dX12_name_168 : decode cX12_name 168 = .ok (.return_, 1) := by decide +kernel
theorem dX12_number_0 : decode cX12_number 0 = .ok (.aload_n 0, 1) := by decide +kernel
theorem dX12_number_1 : decode cX12_number 1 = .ok (.getfield 196, 3) := by decide +kernel
theorem dX12_number_4 : decode cX12_number 4 = .ok (.aload_n 0, 1) := by decide +kernel
theorem dX12_number_5 : decode cX12_number 5 = .ok (.getfield 193, 3) := by decide +kernel
theorem dX12_number_8 : decode cX12_number 8 = .ok (.if_icmp .ge 31, 3) := by decide +kernel
theorem dX12_number_11 : decode cX12_number 11 = .ok (.aload_n 0, 1) := by decide +kernel
theorem dX12_number_12 : decode cX12_number 12 = .ok (.getfield 25, 3) := by decide +kernel
theorem dX12_number_15 : decode cX12_number 15 = .ok (.aload_n 0, 1) := by decide +kernel
theorem dX12_number_16 : decode cX12_number 16 = .ok (.getfield 196, 3) := by decide +kernel
theorem dX12_number_19 : decode cX12_number 19 = .ok (.iaload, 1) := by decide +kernel
theorem dX12_number_20 : decode cX12_number 20 = .ok (.invokestatic 216, 3) := by decide +kernel
theorem dX12_number_23 : decode cX12_number 23 = .ok (.ifCond .eq 16, 3) := by decide +kernel
theorem dX12_number_26 : decode cX12_number 26 = .ok (.aload_n 0, 1) := by decide +kernel
theorem dX12_number_27 : decode cX12_number 27 = .ok (.dup, 1) := by decide +kernel
theorem dX12_number_28 : decode cX12_number 28 = .ok (.getfield 196, 3) := by decide +kernel
theorem dX12_number_31 : decode cX12_number 31 = .ok (.iconst 1, 1) := by decide +kernel
theorem dX12_number_32 : decode cX12_number 32 = .ok (.iadd, 1) := by decide +kernel
theorem dX12_number_33 : decode cX12_number 33 = .ok (.putfield 196, 3) := by decide +kernel
theorem dX12_number_36 : decode cX12_number 36 = .ok (.goto (-36), 3) := by decide +kernel
theorem dX12_number_39 : decode cX12_number 39 = .ok (.aload_n 0, 1) := by decide +kernel
theorem dX12_number_40 : decode cX12_number 40 = .ok (.aload_n 0, 1) := by decide +kernel
theorem dX12_number_41 : decode cX12_number 41 = .ok (.getfield 196, 3) := by decide +kernel
theorem dX12_number_44 : decode cX12_number 44 = .ok (.aload_n 0, 1) := by decide +kernel
theorem dX12_number_45 : decode cX12_number 45 = .ok (.getfield 199, 3) := by decide +kernel
theorem dX12_number_48 : decode cX12_number 48 = .ok (.isub, 1) := by decide +kernel
theorem dX12_number_49 : decode cX12_number 49 = .ok (.bipush 10, 2) := by decide +kernel
theorem dX12_number_51 : decode cX12_number 51 = .ok (.if_icmp .gt 7, 3) := by decide +kernel
theorem dX12_number_54 : decode cX12_number 54 = .ok (.iconst 2, 1) := by decide +kernel
theorem dX12_number_55 : decode cX12_number 55 = .ok (.goto 4, 3) := by decide +kernel
theorem dX12_number_58 : decode cX12_number 58 = .ok (.iconst 5, 1) := by decide +kernel
theorem dX12_number_59 : decode cX12_number 59 = .ok (.putfield 206, 3) := by decide +kernel
theorem dX12_number_62 : decode cX12_number 62 = .ok (.aload_n 0, 1) := by decide +kernel
theorem dX12_number_63 : decode cX12_number 63 = .ok (.getfield 199, 3) := by decide +kernel
theorem dX12_number_66 : decode cX12_number 66 = .ok (.istore_n 1, 1) := by decide +kernel
theorem dX12_number_67 : decode cX12_number 67 = .ok (.iload_n 1, 1) := by decide +kernel
theorem dX12_number_68 : decode cX12_number 68 = .ok (.aload_n 0, 1) := by decide +kernel
theorem dX12_number_69 : decode cX12_number 69 = .ok (.getfield 196, 3) := by decide +kernel
theorem dX12_number_72 : decode cX12_number 72 = .ok (.if_icmp .ge 41, 3) := by decide +kernel
theorem dX12_number_75 : decode cX12_number 75 = .ok (.aload_n 0, 1) := by decide +kernel
theorem dX12_number_76 : decode cX12_number 76 = .ok (.getfield 206, 3) := by decide +kernel
theorem dX12_number_79 : decode cX12_number 79 = .ok (.iconst 2, 1) := by decide +kernel
theorem dX12_number_80 : decode cX12_number 80 = .ok (.if_icmp .ne 33, 3) := by decide +kernel
theorem dX12_number_83 : decode cX12_number 83 = .ok (.aload_n 0, 1) := by decide +kernel
theorem dX12_number_84 : decode cX12_number 84 = .ok (.ldc2_w 229, 3) := by decide +kernel
theorem dX12_number_87 : decode cX12_number 87 = .ok (.aload_n 0, 1) := by decide +kernel
theorem dX12_number_88 : decode cX12_number 88 = .ok (.getfield 202, 3) := by decide +kernel
theorem dX12_number_91 : decode cX12_number 91 = .ok (.lmul, 1) := by decide +kernel
theorem dX12_number_92 : decode cX12_number 92 = .ok (.aload_n 0, 1) := by decide +kernel
theorem dX12_number_93 : decode cX12_number 93 = .ok (.getfield 25, 3) := by decide +kernel
theorem dX12_number_96 : decode cX12_number 96 = .ok (.iload_n 1, 1) := by decide +kernel
theorem dX12_number_97 : decode cX12_number 97 = .ok (.iaload, 1) := by decide +kernel
theorem dX12_number_98 : decode cX12_number 98 = .ok (.i2l, 1) := by decide +kernel
theorem dX12_number_99 : decode cX12_number 99 = .ok (.ladd, 1) := by decide +kernel
theorem dX12_number_100 : decode cX12_number 100 = .ok (.ldc2_w 231, 3) := by decide +kernel
theorem dX12_number_103 : decode cX12_number 103 = .ok (.lsub, 1) := by decide +kernel
theorem dX12_number_104 : decode cX12_number 104 = .ok (.putfield 202, 3) := by decide +kernel
theorem dX12_number_107 : decode cX12_number 107 = .ok (.iinc 1 1, 3) := by decide +kernel
theorem dX12_number_110 : decode cX12_number 110 = .ok (.goto (-43), 3) := by decide +kernel
theorem dX12_number_113 : decode cX12_number 113 = .ok (.return_, 1) := by decide +kernel
theorem dX12_sign_0 : decode cX12_sign 0 = .ok (.aload_n 0, 1) := by decide +kernel
theorem dX12_sign_1 : decode cX12_sign 1 = .ok (.getfield 25, 3) := by decide +kernel
theorem dX12_sign_4 : decode cX12_sign 4 = .ok (.aload_n 0, 1) := by decide +kernel
theorem dX12_sign_5 : decode cX12_sign 5 = .ok (.getfield 196, 3) := by decide +kernel
theorem dX12_sign_8 : decode cX12_sign 8 = .ok (.iaload, 1) := by decide +kernel
theorem dX12_sign_9 : decode cX12_sign 9 = .ok (.istore_n 1, 1) := by decide +kernel
theorem dX12_sign_10 : decode cX12_sign 10 = .ok (.aload_n 0, 1) := by decide +kernel
theorem dX12_sign_11 : decode cX12_sign 11 = .ok (.dup, 1) := by decide +kernel
theorem dX12_sign_12 : decode cX12_sign 12 = .ok (.getfield 196, 3) := by decide +kernel
theorem dX12_sign_15 : decode cX12_sign 15 = .ok (.iconst 1, 1) := by decide +kernel
theorem dX12_sign_16 : decode cX12_sign 16 = .ok (.iadd, 1) := by decide +kernel
theorem dX12_sign_17 : decode cX12_sign 17 = .ok (.putfield 196, 3) := by decide +kernel
theorem dX12_sign_20 : decode cX12_sign 20 = .ok (.aload_n 0, 1) := by decide +kernel
theorem dX12_sign_21 : decode cX12_sign 21 = .ok (.aload_n 0, 1) := by decide +kernel
theorem dX12_sign_22 : decode cX12_sign 22 = .ok (.getfield 196, 3) := by decide +kernel
theorem dX12_sign_25 : decode cX12_sign 25 = .ok (.invokevirtual 233, 3) := by decide +kernel
theorem dX12_sign_28 : decode cX12_sign 28 = .ok (.istore_n 2, 1) := by decide +kernel
theorem dX12_sign_29 : decode cX12_sign 29 = .ok (.aload_n 0, 1) := by decide +kernel
theorem dX12_sign_30 : decode cX12_sign 30 = .ok (.iconst 4, 1) := by decide +kernel
theorem dX12_sign_31 : decode cX12_sign 31 = .ok (.putfield 206, 3) := by decide +kernel
theorem dX12_sign_34 : decode cX12_sign 34 = .ok (.aload_n 0, 1) := by decide +kernel
theorem dX12_sign_35 : decode cX12_sign 35 = .ok (.iload_n 1, 1) := by decide +kernel
theorem dX12_sign_36 : decode cX12_sign 36 = .ok (.i2l, 1) := by decide +kernel
theorem dX12_sign_37 : decode cX12_sign 37 = .ok (.putfield 202, 3) := by decide +kernel
theorem dX12_sign_40 : decode cX12_sign 40 = .ok (.iload_n 1, 1) := by decide +kernel
theorem dX12_sign_41 : decode cX12_sign 41 = .ok (.bipush 40, 2) := by decide +kernel
theorem dX12_sign_43 : decode cX12_sign 43 = .ok (.if_icmp .eq 87, 3) := by decide +kernel
theorem dX12_sign_46 : decode cX12_sign 46 = .ok (.iload_n 1, 1) := by decide +kernel
theorem dX12_sign_47 : decode cX12_sign 47 = .ok (.bipush 41, 2) := by decide +kernel
theorem dX12_sign_49 : decode cX12_sign 49 = .ok (.if_icmp .eq 81, 3) := by decide +kernel
theorem dX12_sign_52 : decode cX12_sign 52 = .ok (.iload_n 1, 1) := by decide +kernel
theorem dX12_sign_53 : decode cX12_sign 53 = .ok (.bipush 123, 2) := by decide +kernel
theorem dX12_sign_55 : decode cX12_sign 55 = .ok (.if_icmp .eq 75, 3) := by decide +kernel
theorem dX12_sign_58 : decode cX12_sign 58 = .ok (.iload_n 1, 1) := by decide +kernel
theorem dX12_sign_59 : decode cX12_sign 59 = .ok (.bipush 125, 2) := by decide +kernel
theorem dX12_sign_61 : decode cX12_sign 61 = .ok (.if_icmp .eq 69, 3) := by decide +kernel
theorem dX12_sign_64 : decode cX12_sign 64 = .ok (.iload_n 1, 1) := by decide +kernel
theorem dX12_sign_65 : decode cX12_sign 65 = .ok (.bipush 91, 2) := by decide +kernel
theorem dX12_sign_67 : decode cX12_sign 67 = .ok (.if_icmp .eq 63, 3) := by decide +kernel
theorem dX12_sign_70 : decode cX12_sign 70 = .ok (.iload_n 1, 1) := by decide +kernel
theorem dX12_sign_71 : decode cX12_sign 71 = .ok (.bipush 93, 2) := by decide +kernel
theorem dX12_sign_73 : decode cX12_sign 73 = .ok (.if_icmp .eq 57, 3) := by decide +kernel
theorem dX12_sign_76 : decode cX12_sign 76 = .ok (.iload_n 1, 1) := by decide +kernel
theorem dX12_sign_77 : decode cX12_sign 77 = .ok (.bipush 44, 2) := by decide +kernel
theorem dX12_sign_79 : decode cX12_sign 79 = .ok (.if_icmp .eq 51, 3) := by decide +kernel
theorem dX12_sign_82 : decode cX12_sign 82 = .ok (.iload_n 1, 1) := by decide +kernel
theorem dX12_sign_83 : decode cX12_sign 83 = .ok (.bipush 59, 2) := by decide +kernel
theorem dX12_sign_85 : decode cX12_sign 85 = .ok (.if_icmp .eq 45, 3) := by decide +kernel
theorem dX12_sign_88 : decode cX12_sign 88 = .ok (.iload_n 1, 1) := by decide +kernel
theorem dX12_sign_89 : decode cX12_sign 89 = .ok (.bipush 94, 2) := by decide +kernel
theorem dX12_sign_91 : decode cX12_sign 91 = .ok (.if_icmp .eq 39, 3) := by decide +kernel
theorem dX12_sign_94 : decode cX12_sign 94 = .ok (.iload_n 1, 1) := by decide +kernel
theorem dX12_sign_95 : decode cX12_sign 95 = .ok (.bipush 43, 2) := by decide +kernel
theorem dX12_sign_97 : decode cX12_sign 97 = .ok (.if_icmp .eq 33, 3) := by decide +kernel
theorem dX12_sign_100 : decode cX12_sign 100 = .ok (.iload_n 1, 1) := by decide +kernel
theorem dX12_sign_101 : decode cX12_sign 101 = .ok (.bipush 45, 2) := by decide +kernel
theorem dX12_sign_103 : decode cX12_sign 103 = .ok (.if_icmp .eq 27, 3) := by decide +kernel
theorem dX12_sign_106 : decode cX12_sign 106 = .ok (.iload_n 1, 1) := by decide +kernel
theorem dX12_sign_107 : decode cX12_sign 107 = .ok (.bipush 42, 2) := by decide +kernel
theorem dX12_sign_109 : decode cX12_sign 109 = .ok (.if_icmp .eq 21, 3) := by decide +kernel
theorem dX12_sign_112 : decode cX12_sign 112 = .ok (.iload_n 1, 1) := by decide +kernel
theorem dX12_sign_113 : decode cX12_sign 113 = .ok (.bipush 47, 2) := by decide +kernel
theorem dX12_sign_115 : decode cX12_sign 115 = .ok (.if_icmp .eq 15, 3) := by decide +kernel
theorem dX12_sign_118 : decode cX12_sign 118 = .ok (.iload_n 1, 1) := by decide +kernel
theorem dX12_sign_119 : decode cX12_sign 119 = .ok (.bipush 37, 2) := by decide +kernel
theorem dX12_sign_121 : decode cX12_sign 121 = .ok (.if_icmp .eq 9, 3) := by decide +kernel
theorem dX12_sign_124 : decode cX12_sign 124 = .ok (.iload_n 1, 1) := by decide +kernel
theorem dX12_sign_125 : decode cX12_sign 125 = .ok (.bipush 126, 2) := by decide +kernel
theorem dX12_sign_127 : decode cX12_sign 127 = .ok (.if_icmp .ne 7, 3) := by decide +kernel
theorem dX12_sign_130 : decode cX12_sign 130 = .ok (.iconst 1, 1) := by decide +kernel
theorem dX12_sign_131 : decode cX12_sign 131 = .ok (.goto 4, 3) := by decide +kernel
theorem dX12_sign_134 : decode cX12_sign 134 = .ok (.iconst 0, 1) := by decide +kernel
theorem dX12_sign_135 : decode cX12_sign 135 = .ok (.istore_n 3, 1) := by decide +kernel
theorem dX12_sign_136 : decode cX12_sign 136 = .ok (.iload_n 1, 1) := by decide +kernel
theorem dX12_sign_137 : decode cX12_sign 137 = .ok (.bipush 61, 2) := by decide +kernel
theorem dX12_sign_139 : decode cX12_sign 139 = .ok (.if_icmp .eq 21, 3) := by decide +kernel
theorem dX12_sign_142 : decode cX12_sign 142 = .ok (.iload_n 1, 1) := by decide +kernel
theorem dX12_sign_143 : decode cX12_sign 143 = .ok (.bipush 33, 2) := by decide +kernel
theorem dX12_sign_145 : decode cX12_sign 145 = .ok (.if_icmp .eq 15, 3) := by decide +kernel
theorem dX12_sign_148 : decode cX12_sign 148 = .ok (.iload_n 1, 1) := by decide +kernel
theorem dX12_sign_149 : decode cX12_sign 149 = .ok (.bipush 60, 2) := by decide +kernel
theorem dX12_sign_151 : decode cX12_sign 151 = .ok (.if_icmp .eq 9, 3) := by decide +kernel
theorem dX12_sign_154 : decode cX12_sign 154 = .ok (.iload_n 1, 1) := by decide +kernel
theorem dX12_sign_155 : decode cX12_sign 155 = .ok (.bipush 62, 2) := by decide +kernel
theorem dX12_sign_157 : decode cX12_sign 157 = .ok (.if_icmp .ne 9, 3) := by decide +kernel
theorem dX12_sign_160 : decode cX12_sign 160 = .ok (.iload_n 2, 1) := by decide +kernel
theorem dX12_sign_161 : decode cX12_sign 161 = .ok (.bipush 61, 2) := by decide +kernel
theorem dX12_sign_163 : decode cX12_sign 163 = .ok (.if_icmp .eq 32, 3) := by decide +kernel
theorem dX12_sign_166 : decode cX12_sign 166 = .ok (.iload_n 1, 1) := by decide +kernel
theorem dX12_sign_167 : decode cX12_sign 167 = .ok (.bipush 124, 2) := by decide +kernel
theorem dX12_sign_169 : decode cX12_sign 169 = .ok (.if_icmp .eq 21, 3) := by decide +kernel
theorem dX12_sign_172 : decode cX12_sign 172 = .ok (.iload_n 1, 1) := by decide +kernel
theorem dX12_sign_173 : decode cX12_sign 173 = .ok (.bipush 38, 2) := by decide +kernel
theorem dX12_sign_175 : decode cX12_sign 175 = .ok (.if_icmp .eq 15, 3) := by decide +kernel
theorem dX12_sign_178 : decode cX12_sign 178 = .ok (.iload_n 1, 1) := by decide +kernel
theorem dX12_sign_179 : decode cX12_sign 179 = .ok (.bipush 60, 2) := by decide +kernel
theorem dX12_sign_181 : decode cX12_sign 181 = .ok (.if_icmp .eq 9, 3) := by decide +kernel
theorem dX12_sign_184 : decode cX12_sign 184 = .ok (.iload_n 1, 1) := by decide +kernel
theorem dX12_sign_185 : decode cX12_sign 185 = .ok (.bipush 62, 2) := by decide +kernel
theorem dX12_sign_187 : decode cX12_sign 187 = .ok (.if_icmp .ne 12, 3) := by decide +kernel
theorem dX12_sign_190 : decode cX12_sign 190 = .ok (.iload_n 2, 1) := by decide +kernel
theorem dX12_sign_191 : decode cX12_sign 191 = .ok (.iload_n 1, 1) := by decide +kernel
theorem dX12_sign_192 : decode cX12_sign 192 = .ok (.if_icmp .ne 7, 3) := by decide +kernel
theorem dX12_sign_195 : decode cX12_sign 195 = .ok (.iconst 1, 1) := by decide +kernel
theorem dX12_sign_196 : decode cX12_sign 196 = .ok (.goto 4, 3) := by decide +kernel
theorem dX12_sign_199 : decode cX12_sign 199 = .ok (.iconst 0, 1) := by decide +kernel
theorem dX12_sign_200 : decode cX12_sign 200 = .ok (.istore 4, 2) := by decide +kernel
theorem dX12_sign_202 : decode cX12_sign 202 = .ok (.iload_n 1, 1) := by decide +kernel
theorem dX12_sign_203 : decode cX12_sign 203 = .ok (.bipush 61, 2) := by decide +kernel
theorem dX12_sign_205 : decode cX12_sign 205 = .ok (.if_icmp .eq 33, 3) := by decide +kernel
theorem dX12_sign_208 : decode cX12_sign 208 = .ok (.iload_n 1, 1) := by decide +kernel
theorem dX12_sign_209 : decode cX12_sign 209 = .ok (.bipush 33, 2) := by decide +kernel
theorem dX12_sign_211 : decode cX12_sign 211 = .ok (.if_icmp .eq 27, 3) := by decide +kernel
theorem dX12_sign_214 : decode cX12_sign 214 = .ok (.iload_n 1, 1) := by decide +kernel
theorem dX12_sign_215 : decode cX12_sign 215 = .ok (.bipush 60, 2) := by decide +kernel
theorem dX12_sign_217 : decode cX12_sign 217 = .ok (.if_icmp .eq 21, 3) := by decide +kernel
theorem dX12_sign_220 : decode cX12_sign 220 = .ok (.iload_n 1, 1) := by decide +kernel
theorem dX12_sign_221 : decode cX12_sign 221 = .ok (.bipush 62, 2) := by decide +kernel
theorem dX12_sign_223 : decode cX12_sign 223 = .ok (.if_icmp .eq 15, 3) := by decide +kernel
theorem dX12_sign_226 : decode cX12_sign 226 = .ok (.iload_n 1, 1) := by decide +kernel
theorem dX12_sign_227 : decode cX12_sign 227 = .ok (.bipush 124, 2) := by decide +kernel
theorem dX12_sign_229 : decode cX12_sign 229 = .ok (.if_icmp .eq 9, 3) := by decide +kernel
theorem dX12_sign_232 : decode cX12_sign 232 = .ok (.iload_n 1, 1) := by decide +kernel
theorem dX12_sign_233 : decode cX12_sign 233 = .ok (.bipush 38, 2) := by decide +kernel
theorem dX12_sign_235 : decode cX12_sign 235 = .ok (.if_icmp .ne 7, 3) := by decide +kernel
theorem dX12_sign_238 : decode cX12_sign 238 = .ok (.iconst 1, 1) := by decide +kernel
theorem dX12_sign_239 : decode cX12_sign 239 = .ok (.goto 4, 3) := by decide +kernel
theorem dX12_sign_242 : decode cX12_sign 242 = .ok (.iconst 0, 1) := by decide +kernel
theorem dX12_sign_243 : decode cX12_sign 243 = .ok (.istore 5, 2) := by decide +kernel
theorem dX12_sign_245 : decode cX12_sign 245 = .ok (.iload 4, 2) := by decide +kernel
theorem dX12_sign_247 : decode cX12_sign 247 = .ok (.ifCond .eq 27, 3) := by decide +kernel
theorem dX12_sign_250 : decode cX12_sign 250 = .ok (.aload_n 0, 1) := by decide +kernel
theorem dX12_sign_251 : decode cX12_sign 251 = .ok (.iload_n 1, 1) := by decide +kernel
theorem dX12_sign_252 : decode cX12_sign 252 = .ok (.bipush 8, 2) := by decide +kernel
theorem dX12_sign_254 : decode cX12_sign 254 = .ok (.ishl, 1) := by decide +kernel
theorem dX12_sign_255 : decode cX12_sign 255 = .ok (.iload_n 2, 1) := by decide +kernel
theorem dX12_sign_256 : decode cX12_sign 256 = .ok (.ior, 1) := by decide +kernel
theorem dX12_sign_257 : decode cX12_sign 257 = .ok (.i2l, 1) := by decide +kernel
theorem dX12_sign_258 : decode cX12_sign 258 = .ok (.putfield 202, 3) := by decide +kernel
theorem dX12_sign_261 : decode cX12_sign 261 = .ok (.aload_n 0, 1) := by decide +kernel
theorem dX12_sign_262 : decode cX12_sign 262 = .ok (.dup, 1) := by decide +kernel
theorem dX12_sign_263 : decode cX12_sign 263 = .ok (.getfield 196, 3) := by decide +kernel
theorem dX12_sign_266 : decode cX12_sign 266 = .ok (.iconst 1, 1) := by decide +kernel
theorem dX12_sign_267 : decode cX12_sign 267 = .ok (.iadd, 1) := by decide +kernel
theorem dX12_sign_268 : decode cX12_sign 268 = .ok (.putfield 196, 3) := by decide +kernel
theorem dX12_sign_271 : decode cX12_sign 271 = .ok (.goto 17, 3) := by decide +kernel
theorem dX12_sign_274 : decode cX12_sign 274 = .ok (.iload_n 3, 1) := by decide +kernel
theorem dX12_sign_275 : decode cX12_sign 275 = .ok (.ifCond .ne 13, 3) := by decide +kernel
theorem dX12_sign_278 : decode cX12_sign 278 = .ok (.iload 5, 2) := by decide +kernel
theorem dX12_sign_280 : decode cX12_sign 280 = .ok (.ifCond .ne 8, 3) := by decide +kernel
theorem dX12_sign_283 : decode cX12_sign 283 = .ok (.aload_n 0, 1) := by decide +kernel
theorem dX12_sign_284 : decode cX12_sign 284 = .ok (.iconst 5, 1) := by decide +kernel
theorem dX12_sign_285 : decode cX12_sign 285 = .ok (.putfield 206, 3) := by decide +kernel
theorem dX12_sign_288 : decode cX12_sign 288 = .ok (.return_, 1) := by decide +kernel
theorem dX12_isWell_0 : decode cX12_isWell 0 = .ok (.aload_n 0, 1) := by decide +kernel
theorem dX12_isWell_1 : decode cX12_isWell 1 = .ok (.getfield 236, 3) := by decide +kernel
theorem dX12_isWell_4 : decode cX12_isWell 4 = .ok (.ifCond .ne 7, 3) := by decide +kernel
theorem dX12_isWell_7 : decode cX12_isWell 7 = .ok (.iconst 1, 1) := by decide +kernel
theorem dX12_isWell_8 : decode cX12_isWell 8 = .ok (.goto 4, 3) := by decide +kernel
theorem dX12_isWell_11 : decode cX12_isWell 11 = .ok (.iconst 0, 1) := by decide +kernel
theorem dX12_isWell_12 : decode cX12_isWell 12 = .ok (.ireturn, 1) := by decide +kernel
theorem dX12_fails_0 : decode cX12_fails 0 = .ok (.aload_n 0, 1) := by decide +kernel
theorem dX12_fails_1 : decode cX12_fails 1 = .ok (.getfield 236, 3) := by decide +kernel
theorem dX12_fails_4 : decode cX12_fails 4 = .ok (.ifCond .ne 13, 3) := by decide +kernel
theorem dX12_fails_7 : decode cX12_fails 7 = .ok (.aload_n 0, 1) := by decide +kernel
theorem dX12_fails_8 : decode cX12_fails 8 = .ok (.iload_n 1, 1) := by decide +kernel
theorem dX12_fails_9 : decode cX12_fails 9 = .ok (.bipush 16, 2) := by decide +kernel
theorem dX12_fails_11 : decode cX12_fails 11 = .ok (.iload_n 2, 1) := by decide +kernel
theorem dX12_fails_12 : decode cX12_fails 12 = .ok (.imul, 1) := by decide +kernel
theorem dX12_fails_13 : decode cX12_fails 13 = .ok (.iadd, 1) := by decide +kernel
theorem dX12_fails_14 : decode cX12_fails 14 = .ok (.putfield 236, 3) := by decide +kernel
theorem dX12_fails_17 : decode cX12_fails 17 = .ok (.return_, 1) := by decide +kernel
theorem dX12_stray_0 : decode cX12_stray 0 = .ok (.aload_n 0, 1) := by decide +kernel
theorem dX12_stray_1 : decode cX12_stray 1 = .ok (.aload_n 0, 1) := by decide +kernel
theorem dX12_stray_2 : decode cX12_stray 2 = .ok (.getfield 206, 3) := by decide +kernel
theorem dX12_stray_5 : decode cX12_stray 5 = .ok (.iconst 5, 1) := by decide +kernel
theorem dX12_stray_6 : decode cX12_stray 6 = .ok (.if_icmp .ne 7, 3) := by decide +kernel
theorem dX12_stray_9 : decode cX12_stray 9 = .ok (.iconst 1, 1) := by decide +kernel
theorem dX12_stray_10 : decode cX12_stray 10 = .ok (.goto 4, 3) := by decide +kernel
theorem dX12_stray_13 : decode cX12_stray 13 = .ok (.iconst 2, 1) := by decide +kernel
theorem dX12_stray_14 : decode cX12_stray 14 = .ok (.aload_n 0, 1) := by decide +kernel
theorem dX12_stray_15 : decode cX12_stray 15 = .ok (.getfield 199, 3) := by decide +kernel
theorem dX12_stray_18 : decode cX12_stray 18 = .ok (.invokevirtual 239, 3) := by decide +kernel
theorem dX12_stray_21 : decode cX12_stray 21 = .ok (.return_, 1) := by decide +kernel
theorem dX12_isSign_0 : decode cX12_isSign 0 = .ok (.aload_n 0, 1) := by decide +kernel
theorem dX12_isSign_1 : decode cX12_isSign 1 = .ok (.invokevirtual 243, 3) := by decide +kernel
theorem dX12_isSign_4 : decode cX12_isSign 4 = .ok (.ifCond .eq 25, 3) := by decide +kernel
theorem dX12_isSign_7 : decode cX12_isSign 7 = .ok (.aload_n 0, 1) := by decide +kernel
theorem dX12_isSign_8 : decode cX12_isSign 8 = .ok (.getfield 206, 3) := by decide +kernel
theorem dX12_isSign_11 : decode cX12_isSign 11 = .ok (.iconst 4, 1) := by decide +kernel
theorem dX12_isSign_12 : decode cX12_isSign 12 = .ok (.if_icmp .ne 17, 3) := by decide +kernel
theorem dX12_isSign_15 : decode cX12_isSign 15 = .ok (.aload_n 0, 1) := by decide +kernel
theorem dX12_isSign_16 : decode cX12_isSign 16 = .ok (.getfield 202, 3) := by decide +kernel
theorem dX12_isSign_19 : decode cX12_isSign 19 = .ok (.iload_n 1, 1) := by decide +kernel
theorem dX12_isSign_20 : decode cX12_isSign 20 = .ok (.i2l, 1) := by decide +kernel
theorem dX12_isSign_21 : decode cX12_isSign 21 = .ok (.lcmp, 1) := by decide +kernel
theorem dX12_isSign_22 : decode cX12_isSign 22 = .ok (.ifCond .ne 7, 3) := by decide +kernel
theorem dX12_isSign_25 : decode cX12_isSign 25 = .ok (.iconst 1, 1) := by decide +kernel
theorem dX12_isSign_26 : decode cX12_isSign 26 = .ok (.goto 4, 3) := by decide +kernel
theorem dX12_isSign_29 : decode cX12_isSign 29 = .ok (.iconst 0, 1) := by decide +kernel
theorem dX12_isSign_30 : decode cX12_isSign 30 = .ok (.ireturn, 1) := by decide +kernel
theorem dX12_isWord_0 : decode cX12_isWord 0 = .ok (.aload_n 0, 1) := by decide +kernel
theorem dX12_isWord_1 : decode cX12_isWord 1 = .ok (.invokevirtual 243, 3) := by decide +kernel
theorem dX12_isWord_4 : decode cX12_isWord 4 = .ok (.ifCond .eq 25, 3) := by decide +kernel
theorem dX12_isWord_7 : decode cX12_isWord 7 = .ok (.aload_n 0, 1) := by decide +kernel
theorem dX12_isWord_8 : decode cX12_isWord 8 = .ok (.getfield 206, 3) := by decide +kernel
theorem dX12_isWord_11 : decode cX12_isWord 11 = .ok (.iconst 3, 1) := by decide +kernel
theorem dX12_isWord_12 : decode cX12_isWord 12 = .ok (.if_icmp .ne 17, 3) := by decide +kernel
theorem dX12_isWord_15 : decode cX12_isWord 15 = .ok (.aload_n 0, 1) := by decide +kernel
theorem dX12_isWord_16 : decode cX12_isWord 16 = .ok (.getfield 202, 3) := by decide +kernel
theorem dX12_isWord_19 : decode cX12_isWord 19 = .ok (.iload_n 1, 1) := by decide +kernel
theorem dX12_isWord_20 : decode cX12_isWord 20 = .ok (.i2l, 1) := by decide +kernel
theorem dX12_isWord_21 : decode cX12_isWord 21 = .ok (.lcmp, 1) := by decide +kernel
theorem dX12_isWord_22 : decode cX12_isWord 22 = .ok (.ifCond .ne 7, 3) := by decide +kernel
theorem dX12_isWord_25 : decode cX12_isWord 25 = .ok (.iconst 1, 1) := by decide +kernel
theorem dX12_isWord_26 : decode cX12_isWord 26 = .ok (.goto 4, 3) := by decide +kernel
theorem dX12_isWord_29 : decode cX12_isWord 29 = .ok (.iconst 0, 1) := by decide +kernel
theorem dX12_isWord_30 : decode cX12_isWord 30 = .ok (.ireturn, 1) := by decide +kernel
theorem dX12_takes_0 : decode cX12_takes 0 = .ok (.aload_n 0, 1) := by decide +kernel
theorem dX12_takes_1 : decode cX12_takes 1 = .ok (.iload_n 1, 1) := by decide +kernel
theorem dX12_takes_2 : decode cX12_takes 2 = .ok (.invokevirtual 247, 3) := by decide +kernel
theorem dX12_takes_5 : decode cX12_takes 5 = .ok (.ifCond .eq 10, 3) := by decide +kernel
theorem dX12_takes_8 : decode cX12_takes 8 = .ok (.aload_n 0, 1) := by decide +kernel
theorem dX12_takes_9 : decode cX12_takes 9 = .ok (.invokevirtual 250, 3) := by decide +kernel
theorem dX12_takes_12 : decode cX12_takes 12 = .ok (.goto 7, 3) := by decide +kernel
theorem dX12_takes_15 : decode cX12_takes 15 = .ok (.aload_n 0, 1) := by decide +kernel
theorem dX12_takes_16 : decode cX12_takes 16 = .ok (.invokevirtual 253, 3) := by decide +kernel
theorem dX12_takes_19 : decode cX12_takes 19 = .ok (.return_, 1) := by decide +kernel
theorem dX12_named_0 : decode cX12_named 0 = .ok (.aload_n 0, 1) := by decide +kernel
theorem dX12_named_1 : decode cX12_named 1 = .ok (.getfield 256, 3) := by decide +kernel
theorem dX12_named_4 : decode cX12_named 4 = .ok (.iconst 1, 1) := by decide +kernel
theorem dX12_named_5 : decode cX12_named 5 = .ok (.isub, 1) := by decide +kernel
theorem dX12_named_6 : decode cX12_named 6 = .ok (.istore_n 3, 1) := by decide +kernel
theorem dX12_named_7 : decode cX12_named 7 = .ok (.iload_n 3, 1) := by decide +kernel
theorem dX12_named_8 : decode cX12_named 8 = .ok (.ifCond .lt 20, 3) := by decide +kernel
theorem dX12_named_11 : decode cX12_named 11 = .ok (.aload_n 0, 1) := by decide +kernel
theorem dX12_named_12 : decode cX12_named 12 = .ok (.getfield 28, 3) := by decide +kernel
theorem dX12_named_15 : decode cX12_named 15 = .ok (.iload_n 3, 1) := by decide +kernel
theorem dX12_named_16 : decode cX12_named 16 = .ok (.laload, 1) := by decide +kernel
theorem dX12_named_17 : decode cX12_named 17 = .ok (.lload_n 1, 1) := by decide +kernel
theorem dX12_named_18 : decode cX12_named 18 = .ok (.lcmp, 1) := by decide +kernel
theorem dX12_named_19 : decode cX12_named 19 = .ok (.ifCond .eq 9, 3) := by decide +kernel
theorem dX12_named_22 : decode cX12_named 22 = .ok (.iinc 3 (-1), 3) := by decide +kernel
theorem dX12_named_25 : decode cX12_named 25 = .ok (.goto (-18), 3) := by decide +kernel
theorem dX12_named_28 : decode cX12_named 28 = .ok (.iload_n 3, 1) := by decide +kernel
theorem dX12_named_29 : decode cX12_named 29 = .ok (.ireturn, 1) := by decide +kernel
theorem dX12_localOf_0 : decode cX12_localOf 0 = .ok (.aload_n 0, 1) := by decide +kernel
theorem dX12_localOf_1 : decode cX12_localOf 1 = .ok (.getfield 259, 3) := by decide +kernel
theorem dX12_localOf_4 : decode cX12_localOf 4 = .ok (.iconst 1, 1) := by decide +kernel
theorem dX12_localOf_5 : decode cX12_localOf 5 = .ok (.isub, 1) := by decide +kernel
theorem dX12_localOf_6 : decode cX12_localOf 6 = .ok (.istore_n 3, 1) := by decide +kernel
theorem dX12_localOf_7 : decode cX12_localOf 7 = .ok (.iload_n 3, 1) := by decide +kernel
theorem dX12_localOf_8 : decode cX12_localOf 8 = .ok (.ifCond .lt 20, 3) := by decide +kernel
theorem dX12_localOf_11 : decode cX12_localOf 11 = .ok (.aload_n 0, 1) := by decide +kernel
theorem dX12_localOf_12 : decode cX12_localOf 12 = .ok (.getfield 47, 3) := by decide +kernel
theorem dX12_localOf_15 : decode cX12_localOf 15 = .ok (.iload_n 3, 1) := by decide +kernel
theorem dX12_localOf_16 : decode cX12_localOf 16 = .ok (.laload, 1) := by decide +kernel
theorem dX12_localOf_17 : decode cX12_localOf 17 = .ok (.lload_n 1, 1) := by decide +kernel
theorem dX12_localOf_18 : decode cX12_localOf 18 = .ok (.lcmp, 1) := by decide +kernel
theorem dX12_localOf_19 : decode cX12_localOf 19 = .ok (.ifCond .eq 9, 3) := by decide +kernel
theorem dX12_localOf_22 : decode cX12_localOf 22 = .ok (.iinc 3 (-1), 3) := by decide +kernel
theorem dX12_localOf_25 : decode cX12_localOf 25 = .ok (.goto (-18), 3) := by decide +kernel
theorem dX12_localOf_28 : decode cX12_localOf 28 = .ok (.iload_n 3, 1) := by decide +kernel
theorem dX12_localOf_29 : decode cX12_localOf 29 = .ok (.ireturn, 1) := by decide +kernel
theorem dX12_node_0 : decode cX12_node 0 = .ok (.aload_n 0, 1) := by decide +kernel
theorem dX12_node_1 : decode cX12_node 1 = .ok (.getfield 262, 3) := by decide +kernel
theorem dX12_node_4 : decode cX12_node 4 = .ok (.istore_n 2, 1) := by decide +kernel
theorem dX12_node_5 : decode cX12_node 5 = .ok (.aload_n 0, 1) := by decide +kernel
theorem dX12_node_6 : decode cX12_node 6 = .ok (.dup, 1) := by decide +kernel
theorem dX12_node_7 : decode cX12_node 7 = .ok (.getfield 262, 3) := by decide +kernel
theorem dX12_node_10 : decode cX12_node 10 = .ok (.iconst 1, 1) := by decide +kernel
theorem dX12_node_11 : decode cX12_node 11 = .ok (.iadd, 1) := by decide +kernel
theorem dX12_node_12 : decode cX12_node 12 = .ok (.putfield 262, 3) := by decide +kernel
theorem dX12_node_15 : decode cX12_node 15 = .ok (.aload_n 0, 1) := by decide +kernel
theorem dX12_node_16 : decode cX12_node 16 = .ok (.getfield 53, 3) := by decide +kernel
theorem dX12_node_19 : decode cX12_node 19 = .ok (.iload_n 2, 1) := by decide +kernel
theorem dX12_node_20 : decode cX12_node 20 = .ok (.iload_n 1, 1) := by decide +kernel
theorem dX12_node_21 : decode cX12_node 21 = .ok (.iastore, 1) := by decide +kernel
theorem dX12_node_22 : decode cX12_node 22 = .ok (.aload_n 0, 1) := by decide +kernel
theorem dX12_node_23 : decode cX12_node 23 = .ok (.getfield 56, 3) := by decide +kernel
theorem dX12_node_26 : decode cX12_node 26 = .ok (.iload_n 2, 1) := by decide +kernel
theorem dX12_node_27 : decode cX12_node 27 = .ok (.iconst (-1), 1) := by decide +kernel
theorem dX12_node_28 : decode cX12_node 28 = .ok (.iastore, 1) := by decide +kernel
theorem dX12_node_29 : decode cX12_node 29 = .ok (.aload_n 0, 1) := by decide +kernel
theorem dX12_node_30 : decode cX12_node 30 = .ok (.getfield 59, 3) := by decide +kernel
theorem dX12_node_33 : decode cX12_node 33 = .ok (.iload_n 2, 1) := by decide +kernel
theorem dX12_node_34 : decode cX12_node 34 = .ok (.iconst (-1), 1) := by decide +kernel
theorem dX12_node_35 : decode cX12_node 35 = .ok (.iastore, 1) := by decide +kernel
theorem dX12_node_36 : decode cX12_node 36 = .ok (.aload_n 0, 1) := by decide +kernel
theorem dX12_node_37 : decode cX12_node 37 = .ok (.getfield 62, 3) := by decide +kernel
theorem dX12_node_40 : decode cX12_node 40 = .ok (.iload_n 2, 1) := by decide +kernel
theorem dX12_node_41 : decode cX12_node 41 = .ok (.iconst (-1), 1) := by decide +kernel
theorem dX12_node_42 : decode cX12_node 42 = .ok (.iastore, 1) := by decide +kernel
theorem dX12_node_43 : decode cX12_node 43 = .ok (.aload_n 0, 1) := by decide +kernel
theorem dX12_node_44 : decode cX12_node 44 = .ok (.getfield 65, 3) := by decide +kernel
theorem dX12_node_47 : decode cX12_node 47 = .ok (.iload_n 2, 1) := by decide +kernel
theorem dX12_node_48 : decode cX12_node 48 = .ok (.iconst 0, 1) := by decide +kernel
theorem dX12_node_49 : decode cX12_node 49 = .ok (.iastore, 1) := by decide +kernel
theorem dX12_node_50 : decode cX12_node 50 = .ok (.aload_n 0, 1) := by decide +kernel
theorem dX12_node_51 : decode cX12_node 51 = .ok (.getfield 68, 3) := by decide +kernel
theorem dX12_node_54 : decode cX12_node 54 = .ok (.iload_n 2, 1) := by decide +kernel
theorem dX12_node_55 : decode cX12_node 55 = .ok (.iconst 0, 1) := by decide +kernel
theorem dX12_node_56 : decode cX12_node 56 = .ok (.iastore, 1) := by decide +kernel
theorem dX12_node_57 : decode cX12_node 57 = .ok (.aload_n 0, 1) := by decide +kernel
theorem dX12_node_58 : decode cX12_node 58 = .ok (.getfield 71, 3) := by decide +kernel
theorem dX12_node_61 : decode cX12_node 61 = .ok (.iload_n 2, 1) := by decide +kernel
theorem dX12_node_62 : decode cX12_node 62 = .ok (.iconst (-1), 1) := by decide +kernel
theorem dX12_node_63 : decode cX12_node 63 = .ok (.iastore, 1) := by decide +kernel
theorem dX12_node_64 : decode cX12_node 64 = .ok (.iload_n 2, 1) := by decide +kernel
theorem dX12_node_65 : decode cX12_node 65 = .ok (.ireturn, 1) := by decide +kernel
theorem dX12_four_0 : decode cX12_four 0 = .ok (.aload_n 0, 1) := by decide +kernel
theorem dX12_four_1 : decode cX12_four 1 = .ok (.invokevirtual 243, 3) := by decide +kernel
theorem dX12_four_4 : decode cX12_four 4 = .ok (.ifCond .eq 23, 3) := by decide +kernel
theorem dX12_four_7 : decode cX12_four 7 = .ok (.aload_n 0, 1) := by decide +kernel
theorem dX12_four_8 : decode cX12_four 8 = .ok (.getfield 265, 3) := by decide +kernel
theorem dX12_four_11 : decode cX12_four 11 = .ok (.iconst 4, 1) := by decide +kernel
theorem dX12_four_12 : decode cX12_four 12 = .ok (.iadd, 1) := by decide +kernel
theorem dX12_four_13 : decode cX12_four 13 = .ok (.aload_n 0, 1) := by decide +kernel
theorem dX12_four_14 : decode cX12_four 14 = .ok (.getfield 164, 3) := by decide +kernel
theorem dX12_four_17 : decode cX12_four 17 = .ok (.if_icmp .le 10, 3) := by decide +kernel
theorem dX12_four_20 : decode cX12_four 20 = .ok (.aload_n 0, 1) := by decide +kernel
theorem dX12_four_21 : decode cX12_four 21 = .ok (.bipush 9, 2) := by decide +kernel
theorem dX12_four_23 : decode cX12_four 23 = .ok (.iload_n 1, 1) := by decide +kernel
theorem dX12_four_24 : decode cX12_four 24 = .ok (.invokevirtual 239, 3) := by decide +kernel
theorem dX12_four_27 : decode cX12_four 27 = .ok (.aload_n 0, 1) := by decide +kernel
theorem dX12_four_28 : decode cX12_four 28 = .ok (.dup, 1) := by decide +kernel
theorem dX12_four_29 : decode cX12_four 29 = .ok (.getfield 265, 3) := by decide +kernel
theorem dX12_four_32 : decode cX12_four 32 = .ok (.iconst 4, 1) := by decide +kernel
theorem dX12_four_33 : decode cX12_four 33 = .ok (.iadd, 1) := by decide +kernel
theorem dX12_four_34 : decode cX12_four 34 = .ok (.putfield 265, 3) := by decide +kernel
theorem dX12_four_37 : decode cX12_four 37 = .ok (.return_, 1) := by decide +kernel
theorem dX12_nests_0 : decode cX12_nests 0 = .ok (.aload_n 0, 1) := by decide +kernel
theorem dX12_nests_1 : decode cX12_nests 1 = .ok (.invokevirtual 243, 3) := by decide +kernel
theorem dX12_nests_4 : decode cX12_nests 4 = .ok (.ifCond .eq 22, 3) := by decide +kernel
theorem dX12_nests_7 : decode cX12_nests 7 = .ok (.aload_n 0, 1) := by decide +kernel
theorem dX12_nests_8 : decode cX12_nests 8 = .ok (.getfield 268, 3) := by decide +kernel
theorem dX12_nests_11 : decode cX12_nests 11 = .ok (.bipush 40, 2) := by decide +kernel
theorem dX12_nests_13 : decode cX12_nests 13 = .ok (.if_icmp .ne 13, 3) := by decide +kernel
theorem dX12_nests_16 : decode cX12_nests 16 = .ok (.aload_n 0, 1) := by decide +kernel
theorem dX12_nests_17 : decode cX12_nests 17 = .ok (.bipush 8, 2) := by decide +kernel
theorem dX12_nests_19 : decode cX12_nests 19 = .ok (.aload_n 0, 1) := by decide +kernel
theorem dX12_nests_20 : decode cX12_nests 20 = .ok (.getfield 199, 3) := by decide +kernel
theorem dX12_nests_23 : decode cX12_nests 23 = .ok (.invokevirtual 239, 3) := by decide +kernel
theorem dX12_nests_26 : decode cX12_nests 26 = .ok (.aload_n 0, 1) := by decide +kernel
theorem dX12_nests_27 : decode cX12_nests 27 = .ok (.dup, 1) := by decide +kernel
theorem dX12_nests_28 : decode cX12_nests 28 = .ok (.getfield 268, 3) := by decide +kernel
theorem dX12_nests_31 : decode cX12_nests 31 = .ok (.iconst 1, 1) := by decide +kernel
theorem dX12_nests_32 : decode cX12_nests 32 = .ok (.iadd, 1) := by decide +kernel
theorem dX12_nests_33 : decode cX12_nests 33 = .ok (.putfield 268, 3) := by decide +kernel
theorem dX12_nests_36 : decode cX12_nests 36 = .ok (.return_, 1) := by decide +kernel
theorem dX12_opens_0 : decode cX12_opens 0 = .ok (.aload_n 0, 1) := by decide +kernel
theorem dX12_opens_1 : decode cX12_opens 1 = .ok (.iload_n 1, 1) := by decide +kernel
theorem dX12_opens_2 : decode cX12_opens 2 = .ok (.invokevirtual 247, 3) := by decide +kernel
theorem dX12_opens_5 : decode cX12_opens 5 = .ok (.ifCond .eq 21, 3) := by decide +kernel
theorem dX12_opens_8 : decode cX12_opens 8 = .ok (.aload_n 0, 1) := by decide +kernel
theorem dX12_opens_9 : decode cX12_opens 9 = .ok (.invokevirtual 271, 3) := by decide +kernel
theorem dX12_opens_12 : decode cX12_opens 12 = .ok (.aload_n 0, 1) := by decide +kernel
theorem dX12_opens_13 : decode cX12_opens 13 = .ok (.invokevirtual 243, 3) := by decide +kernel
theorem dX12_opens_16 : decode cX12_opens 16 = .ok (.ifCond .eq 14, 3) := by decide +kernel
theorem dX12_opens_19 : decode cX12_opens 19 = .ok (.aload_n 0, 1) := by decide +kernel
theorem dX12_opens_20 : decode cX12_opens 20 = .ok (.invokevirtual 250, 3) := by decide +kernel
theorem dX12_opens_23 : decode cX12_opens 23 = .ok (.goto 7, 3) := by decide +kernel
theorem dX12_opens_26 : decode cX12_opens 26 = .ok (.aload_n 0, 1) := by decide +kernel
theorem dX12_opens_27 : decode cX12_opens 27 = .ok (.invokevirtual 253, 3) := by decide +kernel
theorem dX12_opens_30 : decode cX12_opens 30 = .ok (.return_, 1) := by decide +kernel
theorem dX12_closes_0 : decode cX12_closes 0 = .ok (.aload_n 0, 1) := by decide +kernel
theorem dX12_closes_1 : decode cX12_closes 1 = .ok (.iload_n 1, 1) := by decide +kernel
theorem dX12_closes_2 : decode cX12_closes 2 = .ok (.invokevirtual 274, 3) := by decide +kernel
theorem dX12_closes_5 : decode cX12_closes 5 = .ok (.aload_n 0, 1) := by decide +kernel
theorem dX12_closes_6 : decode cX12_closes 6 = .ok (.dup, 1) := by decide +kernel
theorem dX12_closes_7 : decode cX12_closes 7 = .ok (.getfield 268, 3) := by decide +kernel
theorem dX12_closes_10 : decode cX12_closes 10 = .ok (.iconst 1, 1) := by decide +kernel
theorem dX12_closes_11 : decode cX12_closes 11 = .ok (.isub, 1) := by decide +kernel
theorem dX12_closes_12 : decode cX12_closes 12 = .ok (.putfield 268, 3) := by decide +kernel
theorem dX12_closes_15 : decode cX12_closes 15 = .ok (.return_, 1) := by decide +kernel
theorem dX12_read_0 : decode cX12_read 0 = .ok (.aload_n 0, 1) := by decide +kernel
theorem dX12_read_1 : decode cX12_read 1 = .ok (.iconst 0, 1) := by decide +kernel
theorem dX12_read_2 : decode cX12_read 2 = .ok (.putfield 236, 3) := by decide +kernel
theorem dX12_read_5 : decode cX12_read 5 = .ok (.aload_n 0, 1) := by decide +kernel
theorem dX12_read_6 : decode cX12_read 6 = .ok (.iconst 0, 1) := by decide +kernel
theorem dX12_read_7 : decode cX12_read 7 = .ok (.putfield 196, 3) := by decide +kernel
theorem dX12_read_10 : decode cX12_read 10 = .ok (.aload_n 0, 1) := by decide +kernel
theorem dX12_read_11 : decode cX12_read 11 = .ok (.iconst 0, 1) := by decide +kernel
theorem dX12_read_12 : decode cX12_read 12 = .ok (.putfield 256, 3) := by decide +kernel
theorem dX12_read_15 : decode cX12_read 15 = .ok (.aload_n 0, 1) := by decide +kernel
theorem dX12_read_16 : decode cX12_read 16 = .ok (.iconst 0, 1) := by decide +kernel
theorem dX12_read_17 : decode cX12_read 17 = .ok (.putfield 278, 3) := by decide +kernel
theorem dX12_read_20 : decode cX12_read 20 = .ok (.aload_n 0, 1) := by decide +kernel
theorem dX12_read_21 : decode cX12_read 21 = .ok (.iconst 0, 1) := by decide +kernel
theorem dX12_read_22 : decode cX12_read 22 = .ok (.putfield 262, 3) := by decide +kernel
theorem dX12_read_25 : decode cX12_read 25 = .ok (.aload_n 0, 1) := by decide +kernel
theorem dX12_read_26 : decode cX12_read 26 = .ok (.iconst 0, 1) := by decide +kernel
theorem dX12_read_27 : decode cX12_read 27 = .ok (.putfield 265, 3) := by decide +kernel
theorem dX12_read_30 : decode cX12_read 30 = .ok (.aload_n 0, 1) := by decide +kernel
theorem dX12_read_31 : decode cX12_read 31 = .ok (.iconst 0, 1) := by decide +kernel
theorem dX12_read_32 : decode cX12_read 32 = .ok (.putfield 268, 3) := by decide +kernel
theorem dX12_read_35 : decode cX12_read 35 = .ok (.aload_n 0, 1) := by decide +kernel
theorem dX12_read_36 : decode cX12_read 36 = .ok (.invokevirtual 250, 3) := by decide +kernel
theorem dX12_read_39 : decode cX12_read 39 = .ok (.aload_n 0, 1) := by decide +kernel
theorem dX12_read_40 : decode cX12_read 40 = .ok (.invokevirtual 243, 3) := by decide +kernel
theorem dX12_read_43 : decode cX12_read 43 = .ok (.ifCond .eq 17, 3) := by decide +kernel
theorem dX12_read_46 : decode cX12_read 46 = .ok (.aload_n 0, 1) := by decide +kernel
theorem dX12_read_47 : decode cX12_read 47 = .ok (.getfield 206, 3) := by decide +kernel
theorem dX12_read_50 : decode cX12_read 50 = .ok (.ifCond .eq 10, 3) := by decide +kernel
theorem dX12_read_53 : decode cX12_read 53 = .ok (.aload_n 0, 1) := by decide +kernel
theorem dX12_read_54 : decode cX12_read 54 = .ok (.invokevirtual 281, 3) := by decide +kernel
theorem dX12_read_57 : decode cX12_read 57 = .ok (.goto (-18), 3) := by decide +kernel
theorem dX12_read_60 : decode cX12_read 60 = .ok (.aload_n 0, 1) := by decide +kernel
theorem dX12_read_61 : decode cX12_read 61 = .ok (.ldc2_w 284, 3) := by decide +kernel
theorem dX12_read_64 : decode cX12_read 64 = .ok (.invokevirtual 286, 3) := by decide +kernel
theorem dX12_read_67 : decode cX12_read 67 = .ok (.istore_n 1, 1) := by decide +kernel
theorem dX12_read_68 : decode cX12_read 68 = .ok (.aload_n 0, 1) := by decide +kernel
theorem dX12_read_69 : decode cX12_read 69 = .ok (.invokevirtual 243, 3) := by decide +kernel
theorem dX12_read_72 : decode cX12_read 72 = .ok (.ifCond .eq 36, 3) := by decide +kernel
theorem dX12_read_75 : decode cX12_read 75 = .ok (.iload_n 1, 1) := by decide +kernel
theorem dX12_read_76 : decode cX12_read 76 = .ok (.ifCond .lt 22, 3) := by decide +kernel
theorem dX12_read_79 : decode cX12_read 79 = .ok (.aload_n 0, 1) := by decide +kernel
theorem dX12_read_80 : decode cX12_read 80 = .ok (.getfield 32, 3) := by decide +kernel
theorem dX12_read_83 : decode cX12_read 83 = .ok (.iload_n 1, 1) := by decide +kernel
theorem dX12_read_84 : decode cX12_read 84 = .ok (.iaload, 1) := by decide +kernel
theorem dX12_read_85 : decode cX12_read 85 = .ok (.iconst 2, 1) := by decide +kernel
theorem dX12_read_86 : decode cX12_read 86 = .ok (.if_icmp .ne 12, 3) := by decide +kernel
theorem dX12_read_89 : decode cX12_read 89 = .ok (.aload_n 0, 1) := by decide +kernel
theorem dX12_read_90 : decode cX12_read 90 = .ok (.getfield 38, 3) := by decide +kernel
theorem dX12_read_93 : decode cX12_read 93 = .ok (.iload_n 1, 1) := by decide +kernel
theorem dX12_read_94 : decode cX12_read 94 = .ok (.iaload, 1) := by decide +kernel
theorem dX12_read_95 : decode cX12_read 95 = .ok (.ifCond .eq 13, 3) := by decide +kernel
theorem dX12_read_98 : decode cX12_read 98 = .ok (.aload_n 0, 1) := by decide +kernel
theorem dX12_read_99 : decode cX12_read 99 = .ok (.bipush 7, 2) := by decide +kernel
theorem dX12_read_101 : decode cX12_read 101 = .ok (.aload_n 0, 1) := by decide +kernel
theorem dX12_read_102 : decode cX12_read 102 = .ok (.getfield 193, 3) := by decide +kernel
theorem dX12_read_105 : decode cX12_read 105 = .ok (.invokevirtual 239, 3) := by decide +kernel
theorem dX12_read_108 : decode cX12_read 108 = .ok (.return_, 1) := by decide +kernel
theorem dX12_declaration_0 : decode cX12_declaration 0 = .ok (.aload_n 0, 1) := by decide +kernel
theorem dX12_declaration_1 : decode cX12_declaration 1 = .ok (.iconst 0, 1) := by decide +kernel
theorem dX12_declaration_2 : decode cX12_declaration 2 = .ok (.invokevirtual 290, 3) := by decide +kernel
theorem dX12_declaration_5 : decode cX12_declaration 5 = .ok (.ifCond .ne 8, 3) := by decide +kernel
theorem dX12_declaration_8 : decode cX12_declaration 8 = .ok (.aload_n 0, 1) := by decide +kernel
theorem dX12_declaration_9 : decode cX12_declaration 9 = .ok (.invokevirtual 253, 3) := by decide +kernel
theorem dX12_declaration_12 : decode cX12_declaration 12 = .ok (.return_, 1) := by decide +kernel
theorem dX12_declaration_13 : decode cX12_declaration 13 = .ok (.aload_n 0, 1) := by decide +kernel
theorem dX12_declaration_14 : decode cX12_declaration 14 = .ok (.invokevirtual 250, 3) := by decide +kernel
theorem dX12_declaration_17 : decode cX12_declaration 17 = .ok (.aload_n 0, 1) := by decide +kernel
theorem dX12_declaration_18 : decode cX12_declaration 18 = .ok (.getfield 206, 3) := by decide +kernel
theorem dX12_declaration_21 : decode cX12_declaration 21 = .ok (.iconst 1, 1) := by decide +kernel
theorem dX12_declaration_22 : decode cX12_declaration 22 = .ok (.if_icmp .eq 8, 3) := by decide +kernel
theorem dX12_declaration_25 : decode cX12_declaration 25 = .ok (.aload_n 0, 1) := by decide +kernel
theorem dX12_declaration_26 : decode cX12_declaration 26 = .ok (.invokevirtual 253, 3) := by decide +kernel
theorem dX12_declaration_29 : decode cX12_declaration 29 = .ok (.return_, 1) := by decide +kernel
theorem dX12_declaration_30 : decode cX12_declaration 30 = .ok (.aload_n 0, 1) := by decide +kernel
theorem dX12_declaration_31 : decode cX12_declaration 31 = .ok (.getfield 202, 3) := by decide +kernel
theorem dX12_declaration_34 : decode cX12_declaration 34 = .ok (.lstore_n 1, 1) := by decide +kernel
theorem dX12_declaration_35 : decode cX12_declaration 35 = .ok (.aload_n 0, 1) := by decide +kernel
theorem dX12_declaration_36 : decode cX12_declaration 36 = .ok (.getfield 199, 3) := by decide +kernel
theorem dX12_declaration_39 : decode cX12_declaration 39 = .ok (.istore_n 3, 1) := by decide +kernel
theorem dX12_declaration_40 : decode cX12_declaration 40 = .ok (.aload_n 0, 1) := by decide +kernel
theorem dX12_declaration_41 : decode cX12_declaration 41 = .ok (.lload_n 1, 1) := by decide +kernel
theorem dX12_declaration_42 : decode cX12_declaration 42 = .ok (.invokevirtual 286, 3) := by decide +kernel
theorem dX12_declaration_45 : decode cX12_declaration 45 = .ok (.ifCond .lt 10, 3) := by decide +kernel
theorem dX12_declaration_48 : decode cX12_declaration 48 = .ok (.aload_n 0, 1) := by decide +kernel
theorem dX12_declaration_49 : decode cX12_declaration 49 = .ok (.iconst 4, 1) := by decide +kernel
theorem dX12_declaration_50 : decode cX12_declaration 50 = .ok (.iload_n 3, 1) := by decide +kernel
theorem dX12_declaration_51 : decode cX12_declaration 51 = .ok (.invokevirtual 239, 3) := by decide +kernel
theorem dX12_declaration_54 : decode cX12_declaration 54 = .ok (.return_, 1) := by decide +kernel
theorem dX12_declaration_55 : decode cX12_declaration 55 = .ok (.aload_n 0, 1) := by decide +kernel
theorem dX12_declaration_56 : decode cX12_declaration 56 = .ok (.invokevirtual 250, 3) := by decide +kernel
theorem dX12_declaration_59 : decode cX12_declaration 59 = .ok (.aload_n 0, 1) := by decide +kernel
theorem dX12_declaration_60 : decode cX12_declaration 60 = .ok (.bipush 40, 2) := by decide +kernel
theorem dX12_declaration_62 : decode cX12_declaration 62 = .ok (.invokevirtual 247, 3) := by decide +kernel
theorem dX12_declaration_65 : decode cX12_declaration 65 = .ok (.ifCond .eq 14, 3) := by decide +kernel
theorem dX12_declaration_68 : decode cX12_declaration 68 = .ok (.aload_n 0, 1) := by decide +kernel
theorem dX12_declaration_69 : decode cX12_declaration 69 = .ok (.iload_n 3, 1) := by decide +kernel
theorem dX12_declaration_70 : decode cX12_declaration 70 = .ok (.invokevirtual 293, 3) := by decide +kernel
theorem dX12_declaration_73 : decode cX12_declaration 73 = .ok (.aload_n 0, 1) := by decide +kernel
theorem dX12_declaration_74 : decode cX12_declaration 74 = .ok (.lload_n 1, 1) := by decide +kernel
theorem dX12_declaration_75 : decode cX12_declaration 75 = .ok (.invokevirtual 296, 3) := by decide +kernel
theorem dX12_declaration_78 : decode cX12_declaration 78 = .ok (.return_, 1) := by decide +kernel
theorem dX12_declaration_79 : decode cX12_declaration 79 = .ok (.iconst 1, 1) := by decide +kernel
theorem dX12_declaration_80 : decode cX12_declaration 80 = .ok (.istore 4, 2) := by decide +kernel
theorem dX12_declaration_82 : decode cX12_declaration 82 = .ok (.aload_n 0, 1) := by decide +kernel
theorem dX12_declaration_83 : decode cX12_declaration 83 = .ok (.bipush 91, 2) := by decide +kernel
theorem dX12_declaration_85 : decode cX12_declaration 85 = .ok (.invokevirtual 247, 3) := by decide +kernel
theorem dX12_declaration_88 : decode cX12_declaration 88 = .ok (.istore 5, 2) := by decide +kernel
theorem dX12_declaration_90 : decode cX12_declaration 90 = .ok (.iload 5, 2) := by decide +kernel
theorem dX12_declaration_92 : decode cX12_declaration 92 = .ok (.ifCond .eq 21, 3) := by decide +kernel
theorem dX12_declaration_95 : decode cX12_declaration 95 = .ok (.aload_n 0, 1) := by decide +kernel
theorem dX12_declaration_96 : decode cX12_declaration 96 = .ok (.bipush 91, 2) := by decide +kernel
theorem dX12_declaration_98 : decode cX12_declaration 98 = .ok (.invokevirtual 300, 3) := by decide +kernel
theorem dX12_declaration_101 : decode cX12_declaration 101 = .ok (.aload_n 0, 1) := by decide +kernel
theorem dX12_declaration_102 : decode cX12_declaration 102 = .ok (.invokevirtual 303, 3) := by decide +kernel
theorem dX12_declaration_105 : decode cX12_declaration 105 = .ok (.istore 4, 2) := by decide +kernel
theorem dX12_declaration_107 : decode cX12_declaration 107 = .ok (.aload_n 0, 1) := by decide +kernel
theorem dX12_declaration_108 : decode cX12_declaration 108 = .ok (.bipush 93, 2) := by decide +kernel
theorem dX12_declaration_110 : decode cX12_declaration 110 = .ok (.invokevirtual 307, 3) := by decide +kernel
theorem dX12_declaration_113 : decode cX12_declaration 113 = .ok (.aload_n 0, 1) := by decide +kernel
theorem dX12_declaration_114 : decode cX12_declaration 114 = .ok (.bipush 59, 2) := by decide +kernel
theorem dX12_declaration_116 : decode cX12_declaration 116 = .ok (.invokevirtual 274, 3) := by decide +kernel
theorem dX12_declaration_119 : decode cX12_declaration 119 = .ok (.aload_n 0, 1) := by decide +kernel
theorem dX12_declaration_120 : decode cX12_declaration 120 = .ok (.invokevirtual 243, 3) := by decide +kernel
theorem dX12_declaration_123 : decode cX12_declaration 123 = .ok (.ifCond .ne 4, 3) := by decide +kernel
theorem dX12_declaration_126 : decode cX12_declaration 126 = .ok (.return_, 1) := by decide +kernel
theorem dX12_declaration_127 : decode cX12_declaration 127 = .ok (.aload_n 0, 1) := by decide +kernel
theorem dX12_declaration_128 : decode cX12_declaration 128 = .ok (.getfield 28, 3) := by decide +kernel
theorem dX12_declaration_131 : decode cX12_declaration 131 = .ok (.aload_n 0, 1) := by decide +kernel
theorem dX12_declaration_132 : decode cX12_declaration 132 = .ok (.getfield 256, 3) := by decide +kernel
theorem dX12_declaration_135 : decode cX12_declaration 135 = .ok (.lload_n 1, 1) := by decide +kernel
theorem dX12_declaration_136 : decode cX12_declaration 136 = .ok (.lastore, 1) := by decide +kernel
theorem dX12_declaration_137 : decode cX12_declaration 137 = .ok (.aload_n 0, 1) := by decide +kernel
theorem dX12_declaration_138 : decode cX12_declaration 138 = .ok (.getfield 32, 3) := by decide +kernel
theorem dX12_declaration_141 : decode cX12_declaration 141 = .ok (.aload_n 0, 1) := by decide +kernel
theorem dX12_declaration_142 : decode cX12_declaration 142 = .ok (.getfield 256, 3) := by decide +kernel
theorem dX12_declaration_145 : decode cX12_declaration 145 = .ok (.iload 5, 2) := by decide +kernel
theorem dX12_declaration_147 : decode cX12_declaration 147 = .ok (.ifCond .eq 7, 3) := by decide +kernel
theorem dX12_declaration_150 : decode cX12_declaration 150 = .ok (.iconst 1, 1) := by decide +kernel
theorem dX12_declaration_151 : decode cX12_declaration 151 = .ok (.goto 4, 3) := by decide +kernel
theorem dX12_declaration_154 : decode cX12_declaration 154 = .ok (.iconst 0, 1) := by decide +kernel
theorem dX12_declaration_155 : decode cX12_declaration 155 = .ok (.iastore, 1) := by decide +kernel
theorem dX12_declaration_156 : decode cX12_declaration 156 = .ok (.aload_n 0, 1) := by decide +kernel
theorem dX12_declaration_157 : decode cX12_declaration 157 = .ok (.getfield 35, 3) := by decide +kernel
theorem dX12_declaration_160 : decode cX12_declaration 160 = .ok (.aload_n 0, 1) := by decide +kernel
theorem dX12_declaration_161 : decode cX12_declaration 161 = .ok (.getfield 256, 3) := by decide +kernel
theorem dX12_declaration_164 : decode cX12_declaration 164 = .ok (.aload_n 0, 1) := by decide +kernel
theorem dX12_declaration_165 : decode cX12_declaration 165 = .ok (.getfield 278, 3) := by decide +kernel
theorem dX12_declaration_168 : decode cX12_declaration 168 = .ok (.iastore, 1) := by decide +kernel
theorem dX12_declaration_169 : decode cX12_declaration 169 = .ok (.aload_n 0, 1) := by decide +kernel
theorem dX12_declaration_170 : decode cX12_declaration 170 = .ok (.getfield 38, 3) := by decide +kernel
theorem dX12_declaration_173 : decode cX12_declaration 173 = .ok (.aload_n 0, 1) := by decide +kernel
theorem dX12_declaration_174 : decode cX12_declaration 174 = .ok (.getfield 256, 3) := by decide +kernel
theorem dX12_declaration_177 : decode cX12_declaration 177 = .ok (.iload 4, 2) := by decide +kernel
theorem dX12_declaration_179 : decode cX12_declaration 179 = .ok (.iastore, 1) := by decide +kernel
theorem dX12_declaration_180 : decode cX12_declaration 180 = .ok (.aload_n 0, 1) := by decide +kernel
theorem dX12_declaration_181 : decode cX12_declaration 181 = .ok (.dup, 1) := by decide +kernel
theorem dX12_declaration_182 : decode cX12_declaration 182 = .ok (.getfield 278, 3) := by decide +kernel
theorem dX12_declaration_185 : decode cX12_declaration 185 = .ok (.iload 4, 2) := by decide +kernel
theorem dX12_declaration_187 : decode cX12_declaration 187 = .ok (.iadd, 1) := by decide +kernel
theorem dX12_declaration_188 : decode cX12_declaration 188 = .ok (.putfield 278, 3) := by decide +kernel
theorem dX12_declaration_191 : decode cX12_declaration 191 = .ok (.aload_n 0, 1) := by decide +kernel
theorem dX12_declaration_192 : decode cX12_declaration 192 = .ok (.dup, 1) := by decide +kernel
theorem dX12_declaration_193 : decode cX12_declaration 193 = .ok (.getfield 256, 3) := by decide +kernel
theorem dX12_declaration_196 : decode cX12_declaration 196 = .ok (.iconst 1, 1) := by decide +kernel
theorem dX12_declaration_197 : decode cX12_declaration 197 = .ok (.iadd, 1) := by decide +kernel
theorem dX12_declaration_198 : decode cX12_declaration 198 = .ok (.putfield 256, 3) := by decide +kernel
theorem dX12_declaration_201 : decode cX12_declaration 201 = .ok (.return_, 1) := by decide +kernel
theorem dX12_arraySize_0 : decode cX12_arraySize 0 = .ok (.aload_n 0, 1) := by decide +kernel
theorem dX12_arraySize_1 : decode cX12_arraySize 1 = .ok (.invokevirtual 243, 3) := by decide +kernel
theorem dX12_arraySize_4 : decode cX12_arraySize 4 = .ok (.ifCond .ne 5, 3) := by decide +kernel
theorem dX12_arraySize_7 : decode cX12_arraySize 7 = .ok (.iconst 0, 1) := by decide +kernel
theorem dX12_arraySize_8 : decode cX12_arraySize 8 = .ok (.ireturn, 1) := by decide +kernel
theorem dX12_arraySize_9 : decode cX12_arraySize 9 = .ok (.aload_n 0, 1) := by decide +kernel
theorem dX12_arraySize_10 : decode cX12_arraySize 10 = .ok (.getfield 206, 3) := by decide +kernel
theorem dX12_arraySize_13 : decode cX12_arraySize 13 = .ok (.iconst 2, 1) := by decide +kernel
theorem dX12_arraySize_14 : decode cX12_arraySize 14 = .ok (.if_icmp .eq 9, 3) := by decide +kernel
theorem dX12_arraySize_17 : decode cX12_arraySize 17 = .ok (.aload_n 0, 1) := by decide +kernel
theorem dX12_arraySize_18 : decode cX12_arraySize 18 = .ok (.invokevirtual 253, 3) := by decide +kernel
theorem dX12_arraySize_21 : decode cX12_arraySize 21 = .ok (.iconst 0, 1) := by decide +kernel
theorem dX12_arraySize_22 : decode cX12_arraySize 22 = .ok (.ireturn, 1) := by decide +kernel
theorem dX12_arraySize_23 : decode cX12_arraySize 23 = .ok (.aload_n 0, 1) := by decide +kernel
theorem dX12_arraySize_24 : decode cX12_arraySize 24 = .ok (.getfield 202, 3) := by decide +kernel
theorem dX12_arraySize_27 : decode cX12_arraySize 27 = .ok (.lconst 1, 1) := by decide +kernel
theorem dX12_arraySize_28 : decode cX12_arraySize 28 = .ok (.lcmp, 1) := by decide +kernel
theorem dX12_arraySize_29 : decode cX12_arraySize 29 = .ok (.ifCond .lt 14, 3) := by decide +kernel
theorem dX12_arraySize_32 : decode cX12_arraySize 32 = .ok (.aload_n 0, 1) := by decide +kernel
theorem dX12_arraySize_33 : decode cX12_arraySize 33 = .ok (.getfield 202, 3) := by decide +kernel
theorem dX12_arraySize_36 : decode cX12_arraySize 36 = .ok (.ldc2_w 310, 3) := by decide +kernel
theorem dX12_arraySize_39 : decode cX12_arraySize 39 = .ok (.lcmp, 1) := by decide +kernel
theorem dX12_arraySize_40 : decode cX12_arraySize 40 = .ok (.ifCond .le 15, 3) := by decide +kernel
theorem dX12_arraySize_43 : decode cX12_arraySize 43 = .ok (.aload_n 0, 1) := by decide +kernel
theorem dX12_arraySize_44 : decode cX12_arraySize 44 = .ok (.bipush 11, 2) := by decide +kernel
theorem dX12_arraySize_46 : decode cX12_arraySize 46 = .ok (.aload_n 0, 1) := by decide +kernel
theorem dX12_arraySize_47 : decode cX12_arraySize 47 = .ok (.getfield 199, 3) := by decide +kernel
theorem dX12_arraySize_50 : decode cX12_arraySize 50 = .ok (.invokevirtual 239, 3) := by decide +kernel
theorem dX12_arraySize_53 : decode cX12_arraySize 53 = .ok (.iconst 0, 1) := by decide +kernel
theorem dX12_arraySize_54 : decode cX12_arraySize 54 = .ok (.ireturn, 1) := by decide +kernel
theorem dX12_arraySize_55 : decode cX12_arraySize 55 = .ok (.aload_n 0, 1) := by decide +kernel
theorem dX12_arraySize_56 : decode cX12_arraySize 56 = .ok (.getfield 202, 3) := by decide +kernel
theorem dX12_arraySize_59 : decode cX12_arraySize 59 = .ok (.l2i, 1) := by decide +kernel
theorem dX12_arraySize_60 : decode cX12_arraySize 60 = .ok (.istore_n 1, 1) := by decide +kernel
theorem dX12_arraySize_61 : decode cX12_arraySize 61 = .ok (.aload_n 0, 1) := by decide +kernel
theorem dX12_arraySize_62 : decode cX12_arraySize 62 = .ok (.invokevirtual 250, 3) := by decide +kernel
theorem dX12_arraySize_65 : decode cX12_arraySize 65 = .ok (.iload_n 1, 1) := by decide +kernel
theorem dX12_arraySize_66 : decode cX12_arraySize 66 = .ok (.ireturn, 1) := by decide +kernel
theorem dX12_tellFunction_0 : decode cX12_tellFunction 0 = .ok (.aload_n 0, 1) := by decide +kernel
theorem dX12_tellFunction_1 : decode cX12_tellFunction 1 = .ok (.aload_n 0, 1) := by decide +kernel
theorem dX12_tellFunction_2 : decode cX12_tellFunction 2 = .ok (.getfield 256, 3) := by decide +kernel
theorem dX12_tellFunction_5 : decode cX12_tellFunction 5 = .ok (.putfield 312, 3) := by decide +kernel
theorem dX12_tellFunction_8 : decode cX12_tellFunction 8 = .ok (.aload_n 0, 1) := by decide +kernel
theorem dX12_tellFunction_9 : decode cX12_tellFunction 9 = .ok (.getfield 28, 3) := by decide +kernel
theorem dX12_tellFunction_12 : decode cX12_tellFunction 12 = .ok (.aload_n 0, 1) := by decide +kernel
theorem dX12_tellFunction_13 : decode cX12_tellFunction 13 = .ok (.getfield 256, 3) := by decide +kernel
theorem dX12_tellFunction_16 : decode cX12_tellFunction 16 = .ok (.lload_n 1, 1) := by decide +kernel
theorem dX12_tellFunction_17 : decode cX12_tellFunction 17 = .ok (.lastore, 1) := by decide +kernel
theorem dX12_tellFunction_18 : decode cX12_tellFunction 18 = .ok (.aload_n 0, 1) := by decide +kernel
theorem dX12_tellFunction_19 : decode cX12_tellFunction 19 = .ok (.getfield 32, 3) := by decide +kernel
theorem dX12_tellFunction_22 : decode cX12_tellFunction 22 = .ok (.aload_n 0, 1) := by decide +kernel
theorem dX12_tellFunction_23 : decode cX12_tellFunction 23 = .ok (.getfield 256, 3) := by decide +kernel
theorem dX12_tellFunction_26 : decode cX12_tellFunction 26 = .ok (.iconst 2, 1) := by decide +kernel
theorem dX12_tellFunction_27 : decode cX12_tellFunction 27 = .ok (.iastore, 1) := by decide +kernel
theorem dX12_tellFunction_28 : decode cX12_tellFunction 28 = .ok (.aload_n 0, 1) := by decide +kernel
theorem dX12_tellFunction_29 : decode cX12_tellFunction 29 = .ok (.getfield 38, 3) := by decide +kernel
theorem dX12_tellFunction_32 : decode cX12_tellFunction 32 = .ok (.aload_n 0, 1) := by decide +kernel
theorem dX12_tellFunction_33 : decode cX12_tellFunction 33 = .ok (.getfield 256, 3) := by decide +kernel
theorem dX12_tellFunction_36 : decode cX12_tellFunction 36 = .ok (.iconst 0, 1) := by decide +kernel
theorem dX12_tellFunction_37 : decode cX12_tellFunction 37 = .ok (.iastore, 1) := by decide +kernel
theorem dX12_tellFunction_38 : decode cX12_tellFunction 38 = .ok (.aload_n 0, 1) := by decide +kernel
theorem dX12_tellFunction_39 : decode cX12_tellFunction 39 = .ok (.getfield 44, 3) := by decide +kernel
theorem dX12_tellFunction_42 : decode cX12_tellFunction 42 = .ok (.aload_n 0, 1) := by decide +kernel
theorem dX12_tellFunction_43 : decode cX12_tellFunction 43 = .ok (.getfield 256, 3) := by decide +kernel
theorem dX12_tellFunction_46 : decode cX12_tellFunction 46 = .ok (.iconst 0, 1) := by decide +kernel
theorem dX12_tellFunction_47 : decode cX12_tellFunction 47 = .ok (.iastore, 1) := by decide +kernel
theorem dX12_tellFunction_48 : decode cX12_tellFunction 48 = .ok (.aload_n 0, 1) := by decide +kernel
theorem dX12_tellFunction_49 : decode cX12_tellFunction 49 = .ok (.getfield 41, 3) := by decide +kernel
theorem dX12_tellFunction_52 : decode cX12_tellFunction 52 = .ok (.aload_n 0, 1) := by decide +kernel
theorem dX12_tellFunction_53 : decode cX12_tellFunction 53 = .ok (.getfield 256, 3) := by decide +kernel
theorem dX12_tellFunction_56 : decode cX12_tellFunction 56 = .ok (.iconst (-1), 1) := by decide +kernel
theorem dX12_tellFunction_57 : decode cX12_tellFunction 57 = .ok (.iastore, 1) := by decide +kernel
theorem dX12_tellFunction_58 : decode cX12_tellFunction 58 = .ok (.aload_n 0, 1) := by decide +kernel
theorem dX12_tellFunction_59 : decode cX12_tellFunction 59 = .ok (.dup, 1) := by decide +kernel
theorem dX12_tellFunction_60 : decode cX12_tellFunction 60 = .ok (.getfield 256, 3) := by decide +kernel
theorem dX12_tellFunction_63 : decode cX12_tellFunction 63 = .ok (.iconst 1, 1) := by decide +kernel
theorem dX12_tellFunction_64 : decode cX12_tellFunction 64 = .ok (.iadd, 1) := by decide +kernel
theorem dX12_tellFunction_65 : decode cX12_tellFunction 65 = .ok (.putfield 256, 3) := by decide +kernel
theorem dX12_tellFunction_68 : decode cX12_tellFunction 68 = .ok (.aload_n 0, 1) := by decide +kernel
theorem dX12_tellFunction_69 : decode cX12_tellFunction 69 = .ok (.iconst 0, 1) := by decide +kernel
theorem dX12_tellFunction_70 : decode cX12_tellFunction 70 = .ok (.putfield 259, 3) := by decide +kernel
theorem dX12_tellFunction_73 : decode cX12_tellFunction 73 = .ok (.aload_n 0, 1) := by decide +kernel
theorem dX12_tellFunction_74 : decode cX12_tellFunction 74 = .ok (.iconst 0, 1) := by decide +kernel
theorem dX12_tellFunction_75 : decode cX12_tellFunction 75 = .ok (.putfield 315, 3) := by decide +kernel
theorem dX12_tellFunction_78 : decode cX12_tellFunction 78 = .ok (.aload_n 0, 1) := by decide +kernel
theorem dX12_tellFunction_79 : decode cX12_tellFunction 79 = .ok (.bipush 40, 2) := by decide +kernel
theorem dX12_tellFunction_81 : decode cX12_tellFunction 81 = .ok (.invokevirtual 300, 3) := by decide +kernel
theorem dX12_tellFunction_84 : decode cX12_tellFunction 84 = .ok (.aload_n 0, 1) := by decide +kernel
theorem dX12_tellFunction_85 : decode cX12_tellFunction 85 = .ok (.invokevirtual 243, 3) := by decide +kernel
theorem dX12_tellFunction_88 : decode cX12_tellFunction 88 = .ok (.ifCond .eq 37, 3) := by decide +kernel
theorem dX12_tellFunction_91 : decode cX12_tellFunction 91 = .ok (.aload_n 0, 1) := by decide +kernel
theorem dX12_tellFunction_92 : decode cX12_tellFunction 92 = .ok (.bipush 41, 2) := by decide +kernel
theorem dX12_tellFunction_94 : decode cX12_tellFunction 94 = .ok (.invokevirtual 247, 3) := by decide +kernel
theorem dX12_tellFunction_97 : decode cX12_tellFunction 97 = .ok (.ifCond .ne 28, 3) := by decide +kernel
theorem dX12_tellFunction_100 : decode cX12_tellFunction 100 = .ok (.aload_n 0, 1) := by decide +kernel
theorem dX12_tellFunction_101 : decode cX12_tellFunction 101 = .ok (.getfield 38, 3) := by decide +kernel
theorem dX12_tellFunction_104 : decode cX12_tellFunction 104 = .ok (.aload_n 0, 1) := by decide +kernel
theorem dX12_tellFunction_105 : decode cX12_tellFunction 105 = .ok (.getfield 312, 3) := by decide +kernel
theorem dX12_tellFunction_108 : decode cX12_tellFunction 108 = .ok (.iaload, 1) := by decide +kernel
theorem dX12_tellFunction_109 : decode cX12_tellFunction 109 = .ok (.ifCond .le 9, 3) := by decide +kernel
theorem dX12_tellFunction_112 : decode cX12_tellFunction 112 = .ok (.aload_n 0, 1) := by decide +kernel
theorem dX12_tellFunction_113 : decode cX12_tellFunction 113 = .ok (.bipush 44, 2) := by decide +kernel
theorem dX12_tellFunction_115 : decode cX12_tellFunction 115 = .ok (.invokevirtual 274, 3) := by decide +kernel
theorem dX12_tellFunction_118 : decode cX12_tellFunction 118 = .ok (.aload_n 0, 1) := by decide +kernel
theorem dX12_tellFunction_119 : decode cX12_tellFunction 119 = .ok (.invokevirtual 318, 3) := by decide +kernel
theorem dX12_tellFunction_122 : decode cX12_tellFunction 122 = .ok (.goto (-38), 3) := by decide +kernel
theorem dX12_tellFunction_125 : decode cX12_tellFunction 125 = .ok (.aload_n 0, 1) := by decide +kernel
theorem dX12_tellFunction_126 : decode cX12_tellFunction 126 = .ok (.bipush 41, 2) := by decide +kernel
theorem dX12_tellFunction_128 : decode cX12_tellFunction 128 = .ok (.invokevirtual 307, 3) := by decide +kernel
theorem dX12_tellFunction_131 : decode cX12_tellFunction 131 = .ok (.iconst 0, 1) := by decide +kernel
theorem dX12_tellFunction_132 : decode cX12_tellFunction 132 = .ok (.istore_n 3, 1) := by decide +kernel
theorem dX12_tellFunction_133 : decode cX12_tellFunction 133 = .ok (.iload_n 3, 1) := by decide +kernel
theorem dX12_tellFunction_134 : decode cX12_tellFunction 134 = .ok (.aload_n 0, 1) := by decide +kernel
theorem dX12_tellFunction_135 : decode cX12_tellFunction 135 = .ok (.getfield 259, 3) := by decide +kernel
theorem dX12_tellFunction_138 : decode cX12_tellFunction 138 = .ok (.if_icmp .ge 24, 3) := by decide +kernel
theorem dX12_tellFunction_141 : decode cX12_tellFunction 141 = .ok (.aload_n 0, 1) := by decide +kernel
theorem dX12_tellFunction_142 : decode cX12_tellFunction 142 = .ok (.getfield 50, 3) := by decide +kernel
theorem dX12_tellFunction_145 : decode cX12_tellFunction 145 = .ok (.iload_n 3, 1) := by decide +kernel
theorem dX12_tellFunction_146 : decode cX12_tellFunction 146 = .ok (.bipush (-2), 2) := by decide +kernel
theorem dX12_tellFunction_148 : decode cX12_tellFunction 148 = .ok (.aload_n 0, 1) := by decide +kernel
theorem dX12_tellFunction_149 : decode cX12_tellFunction 149 = .ok (.getfield 259, 3) := by decide +kernel
theorem dX12_tellFunction_152 : decode cX12_tellFunction 152 = .ok (.isub, 1) := by decide +kernel
theorem dX12_tellFunction_153 : decode cX12_tellFunction 153 = .ok (.iload_n 3, 1) := by decide +kernel
theorem dX12_tellFunction_154 : decode cX12_tellFunction 154 = .ok (.iadd, 1) := by decide +kernel
theorem dX12_tellFunction_155 : decode cX12_tellFunction 155 = .ok (.iastore, 1) := by decide +kernel
theorem dX12_tellFunction_156 : decode cX12_tellFunction 156 = .ok (.iinc 3 1, 3) := by decide +kernel
theorem dX12_tellFunction_159 : decode cX12_tellFunction 159 = .ok (.goto (-26), 3) := by decide +kernel
theorem dX12_tellFunction_162 : decode cX12_tellFunction 162 = .ok (.aload_n 0, 1) := by decide +kernel
theorem dX12_tellFunction_163 : decode cX12_tellFunction 163 = .ok (.invokevirtual 243, 3) := by decide +kernel
theorem dX12_tellFunction_166 : decode cX12_tellFunction 166 = .ok (.ifCond .ne 4, 3) := by decide +kernel
theorem dX12_tellFunction_169 : decode cX12_tellFunction 169 = .ok (.return_, 1) := by decide +kernel
theorem dX12_tellFunction_170 : decode cX12_tellFunction 170 = .ok (.aload_n 0, 1) := by decide +kernel
theorem dX12_tellFunction_171 : decode cX12_tellFunction 171 = .ok (.getfield 41, 3) := by decide +kernel
theorem dX12_tellFunction_174 : decode cX12_tellFunction 174 = .ok (.aload_n 0, 1) := by decide +kernel
theorem dX12_tellFunction_175 : decode cX12_tellFunction 175 = .ok (.getfield 312, 3) := by decide +kernel
theorem dX12_tellFunction_178 : decode cX12_tellFunction 178 = .ok (.aload_n 0, 1) := by decide +kernel
theorem dX12_tellFunction_179 : decode cX12_tellFunction 179 = .ok (.invokevirtual 321, 3) := by decide +kernel
theorem dX12_tellFunction_182 : decode cX12_tellFunction 182 = .ok (.iastore, 1) := by decide +kernel
theorem dX12_tellFunction_183 : decode cX12_tellFunction 183 = .ok (.return_, 1) := by decide +kernel
theorem dX12_parameter_0 : decode cX12_parameter 0 = .ok (.aload_n 0, 1) := by decide +kernel
theorem dX12_parameter_1 : decode cX12_parameter 1 = .ok (.iconst 0, 1) := by decide +kernel
theorem dX12_parameter_2 : decode cX12_parameter 2 = .ok (.invokevirtual 290, 3) := by decide +kernel
theorem dX12_parameter_5 : decode cX12_parameter 5 = .ok (.ifCond .ne 8, 3) := by decide +kernel
theorem dX12_parameter_8 : decode cX12_parameter 8 = .ok (.aload_n 0, 1) := by decide +kernel
theorem dX12_parameter_9 : decode cX12_parameter 9 = .ok (.invokevirtual 253, 3) := by decide +kernel
theorem dX12_parameter_12 : decode cX12_parameter 12 = .ok (.return_, 1) := by decide +kernel
theorem dX12_parameter_13 : decode cX12_parameter 13 = .ok (.aload_n 0, 1) := by decide +kernel
theorem dX12_parameter_14 : decode cX12_parameter 14 = .ok (.invokevirtual 250, 3) := by decide +kernel
theorem dX12_parameter_17 : decode cX12_parameter 17 = .ok (.aload_n 0, 1) := by decide +kernel
theorem dX12_parameter_18 : decode cX12_parameter 18 = .ok (.getfield 206, 3) := by decide +kernel
theorem dX12_parameter_21 : decode cX12_parameter 21 = .ok (.iconst 1, 1) := by decide +kernel
theorem dX12_parameter_22 : decode cX12_parameter 22 = .ok (.if_icmp .eq 8, 3) := by decide +kernel
theorem dX12_parameter_25 : decode cX12_parameter 25 = .ok (.aload_n 0, 1) := by decide +kernel
theorem dX12_parameter_26 : decode cX12_parameter 26 = .ok (.invokevirtual 253, 3) := by decide +kernel
theorem dX12_parameter_29 : decode cX12_parameter 29 = .ok (.return_, 1) := by decide +kernel
theorem dX12_parameter_30 : decode cX12_parameter 30 = .ok (.aload_n 0, 1) := by decide +kernel
theorem dX12_parameter_31 : decode cX12_parameter 31 = .ok (.aload_n 0, 1) := by decide +kernel
theorem dX12_parameter_32 : decode cX12_parameter 32 = .ok (.getfield 202, 3) := by decide +kernel
theorem dX12_parameter_35 : decode cX12_parameter 35 = .ok (.invokevirtual 324, 3) := by decide +kernel
theorem dX12_parameter_38 : decode cX12_parameter 38 = .ok (.ifCond .lt 15, 3) := by decide +kernel
theorem dX12_parameter_41 : decode cX12_parameter 41 = .ok (.aload_n 0, 1) := by decide +kernel
theorem dX12_parameter_42 : decode cX12_parameter 42 = .ok (.iconst 4, 1) := by decide +kernel
theorem dX12_parameter_43 : decode cX12_parameter 43 = .ok (.aload_n 0, 1) := by decide +kernel
theorem dX12_parameter_44 : decode cX12_parameter 44 = .ok (.getfield 199, 3) := by decide +kernel
theorem dX12_parameter_47 : decode cX12_parameter 47 = .ok (.invokevirtual 239, 3) := by decide +kernel
theorem dX12_parameter_50 : decode cX12_parameter 50 = .ok (.goto 27, 3) := by decide +kernel
theorem dX12_parameter_53 : decode cX12_parameter 53 = .ok (.aload_n 0, 1) := by decide +kernel
theorem dX12_parameter_54 : decode cX12_parameter 54 = .ok (.getfield 38, 3) := by decide +kernel
theorem dX12_parameter_57 : decode cX12_parameter 57 = .ok (.aload_n 0, 1) := by decide +kernel
theorem dX12_parameter_58 : decode cX12_parameter 58 = .ok (.getfield 312, 3) := by decide +kernel
theorem dX12_parameter_61 : decode cX12_parameter 61 = .ok (.iaload, 1) := by decide +kernel
theorem dX12_parameter_62 : decode cX12_parameter 62 = .ok (.bipush 8, 2) := by decide +kernel
theorem dX12_parameter_64 : decode cX12_parameter 64 = .ok (.if_icmp .ne 13, 3) := by decide +kernel
theorem dX12_parameter_67 : decode cX12_parameter 67 = .ok (.aload_n 0, 1) := by decide +kernel
theorem dX12_parameter_68 : decode cX12_parameter 68 = .ok (.bipush 6, 2) := by decide +kernel
theorem dX12_parameter_70 : decode cX12_parameter 70 = .ok (.aload_n 0, 1) := by decide +kernel
theorem dX12_parameter_71 : decode cX12_parameter 71 = .ok (.getfield 199, 3) := by decide +kernel
theorem dX12_parameter_74 : decode cX12_parameter 74 = .ok (.invokevirtual 239, 3) := by decide +kernel
theorem dX12_parameter_77 : decode cX12_parameter 77 = .ok (.aload_n 0, 1) := by decide +kernel
theorem dX12_parameter_78 : decode cX12_parameter 78 = .ok (.invokevirtual 243, 3) := by decide +kernel
theorem dX12_parameter_81 : decode cX12_parameter 81 = .ok (.ifCond .ne 4, 3) := by decide +kernel
theorem dX12_parameter_84 : decode cX12_parameter 84 = .ok (.return_, 1) := by decide +kernel
theorem dX12_parameter_85 : decode cX12_parameter 85 = .ok (.aload_n 0, 1) := by decide +kernel
theorem dX12_parameter_86 : decode cX12_parameter 86 = .ok (.getfield 47, 3) := by decide +kernel
theorem dX12_parameter_89 : decode cX12_parameter 89 = .ok (.aload_n 0, 1) := by decide +kernel
theorem dX12_parameter_90 : decode cX12_parameter 90 = .ok (.getfield 259, 3) := by decide +kernel
theorem dX12_parameter_93 : decode cX12_parameter 93 = .ok (.aload_n 0, 1) := by decide +kernel
theorem dX12_parameter_94 : decode cX12_parameter 94 = .ok (.getfield 202, 3) := by decide +kernel
theorem dX12_parameter_97 : decode cX12_parameter 97 = .ok (.lastore, 1) := by decide +kernel
theorem dX12_parameter_98 : decode cX12_parameter 98 = .ok (.aload_n 0, 1) := by decide +kernel
theorem dX12_parameter_99 : decode cX12_parameter 99 = .ok (.dup, 1) := by decide +kernel
theorem dX12_parameter_100 : decode cX12_parameter 100 = .ok (.getfield 259, 3) := by decide +kernel
theorem dX12_parameter_103 : decode cX12_parameter 103 = .ok (.iconst 1, 1) := by decide +kernel
theorem dX12_parameter_104 : decode cX12_parameter 104 = .ok (.iadd, 1) := by decide +kernel
theorem dX12_parameter_105 : decode cX12_parameter 105 = .ok (.putfield 259, 3) := by decide +kernel
theorem dX12_parameter_108 : decode cX12_parameter 108 = .ok (.aload_n 0, 1) := by decide +kernel
theorem dX12_parameter_109 : decode cX12_parameter 109 = .ok (.getfield 38, 3) := by decide +kernel
theorem dX12_parameter_112 : decode cX12_parameter 112 = .ok (.aload_n 0, 1) := by decide +kernel
theorem dX12_parameter_113 : decode cX12_parameter 113 = .ok (.getfield 312, 3) := by decide +kernel
theorem dX12_parameter_116 : decode cX12_parameter 116 = .ok (.dup2, 1) := by decide +kernel
theorem dX12_parameter_117 : decode cX12_parameter 117 = .ok (.iaload, 1) := by decide +kernel
theorem dX12_parameter_118 : decode cX12_parameter 118 = .ok (.iconst 1, 1) := by decide +kernel
theorem dX12_parameter_119 : decode cX12_parameter 119 = .ok (.iadd, 1) := by decide +kernel
theorem dX12_parameter_120 : decode cX12_parameter 120 = .ok (.iastore, 1) := by decide +kernel
theorem dX12_parameter_121 : decode cX12_parameter 121 = .ok (.aload_n 0, 1) := by decide +kernel
theorem dX12_parameter_122 : decode cX12_parameter 122 = .ok (.invokevirtual 250, 3) := by decide +kernel
theorem dX12_parameter_125 : decode cX12_parameter 125 = .ok (.return_, 1) := by decide +kernel
theorem dX12_enter_0 : decode cX12_enter 0 = .ok (.aload_n 0, 1) := by decide +kernel
theorem dX12_enter_1 : decode cX12_enter 1 = .ok (.getfield 74, 3) := by decide +kernel
theorem dX12_enter_4 : decode cX12_enter 4 = .ok (.aload_n 0, 1) := by decide +kernel
theorem dX12_enter_5 : decode cX12_enter 5 = .ok (.getfield 327, 3) := by decide +kernel
theorem dX12_enter_8 : decode cX12_enter 8 = .ok (.iload_n 1, 1) := by decide +kernel
theorem dX12_enter_9 : decode cX12_enter 9 = .ok (.iastore, 1) := by decide +kernel
theorem dX12_enter_10 : decode cX12_enter 10 = .ok (.aload_n 0, 1) := by decide +kernel
theorem dX12_enter_11 : decode cX12_enter 11 = .ok (.getfield 77, 3) := by decide +kernel
theorem dX12_enter_14 : decode cX12_enter 14 = .ok (.aload_n 0, 1) := by decide +kernel
theorem dX12_enter_15 : decode cX12_enter 15 = .ok (.getfield 327, 3) := by decide +kernel
theorem dX12_enter_18 : decode cX12_enter 18 = .ok (.iload_n 2, 1) := by decide +kernel
theorem dX12_enter_19 : decode cX12_enter 19 = .ok (.iastore, 1) := by decide +kernel
theorem dX12_enter_20 : decode cX12_enter 20 = .ok (.aload_n 0, 1) := by decide +kernel
theorem dX12_enter_21 : decode cX12_enter 21 = .ok (.dup, 1) := by decide +kernel
theorem dX12_enter_22 : decode cX12_enter 22 = .ok (.getfield 327, 3) := by decide +kernel
theorem dX12_enter_25 : decode cX12_enter 25 = .ok (.iconst 1, 1) := by decide +kernel
theorem dX12_enter_26 : decode cX12_enter 26 = .ok (.iadd, 1) := by decide +kernel
theorem dX12_enter_27 : decode cX12_enter 27 = .ok (.putfield 327, 3) := by decide +kernel
theorem dX12_enter_30 : decode cX12_enter 30 = .ok (.return_, 1) := by decide +kernel
theorem dX12_beginBlock_0 : decode cX12_beginBlock 0 = .ok (.aload_n 0, 1) := by decide +kernel
theorem dX12_beginBlock_1 : decode cX12_beginBlock 1 = .ok (.bipush 20, 2) := by decide +kernel
theorem dX12_beginBlock_3 : decode cX12_beginBlock 3 = .ok (.invokevirtual 330, 3) := by decide +kernel
theorem dX12_beginBlock_6 : decode cX12_beginBlock 6 = .ok (.istore_n 1, 1) := by decide +kernel
theorem dX12_beginBlock_7 : decode cX12_beginBlock 7 = .ok (.aload_n 0, 1) := by decide +kernel
theorem dX12_beginBlock_8 : decode cX12_beginBlock 8 = .ok (.getfield 87, 3) := by decide +kernel
theorem dX12_beginBlock_11 : decode cX12_beginBlock 11 = .ok (.aload_n 0, 1) := by decide +kernel
theorem dX12_beginBlock_12 : decode cX12_beginBlock 12 = .ok (.getfield 327, 3) := by decide +kernel
theorem dX12_beginBlock_15 : decode cX12_beginBlock 15 = .ok (.aload_n 0, 1) := by decide +kernel
theorem dX12_beginBlock_16 : decode cX12_beginBlock 16 = .ok (.getfield 333, 3) := by decide +kernel
theorem dX12_beginBlock_19 : decode cX12_beginBlock 19 = .ok (.iastore, 1) := by decide +kernel
theorem dX12_beginBlock_20 : decode cX12_beginBlock 20 = .ok (.aload_n 0, 1) := by decide +kernel
theorem dX12_beginBlock_21 : decode cX12_beginBlock 21 = .ok (.getfield 90, 3) := by decide +kernel
theorem dX12_beginBlock_24 : decode cX12_beginBlock 24 = .ok (.aload_n 0, 1) := by decide +kernel
theorem dX12_beginBlock_25 : decode cX12_beginBlock 25 = .ok (.getfield 327, 3) := by decide +kernel
theorem dX12_beginBlock_28 : decode cX12_beginBlock 28 = .ok (.aload_n 0, 1) := by decide +kernel
theorem dX12_beginBlock_29 : decode cX12_beginBlock 29 = .ok (.getfield 259, 3) := by decide +kernel
theorem dX12_beginBlock_32 : decode cX12_beginBlock 32 = .ok (.iastore, 1) := by decide +kernel
theorem dX12_beginBlock_33 : decode cX12_beginBlock 33 = .ok (.aload_n 0, 1) := by decide +kernel
theorem dX12_beginBlock_34 : decode cX12_beginBlock 34 = .ok (.getfield 93, 3) := by decide +kernel
theorem dX12_beginBlock_37 : decode cX12_beginBlock 37 = .ok (.aload_n 0, 1) := by decide +kernel
theorem dX12_beginBlock_38 : decode cX12_beginBlock 38 = .ok (.getfield 327, 3) := by decide +kernel
theorem dX12_beginBlock_41 : decode cX12_beginBlock 41 = .ok (.aload_n 0, 1) := by decide +kernel
theorem dX12_beginBlock_42 : decode cX12_beginBlock 42 = .ok (.getfield 315, 3) := by decide +kernel
theorem dX12_beginBlock_45 : decode cX12_beginBlock 45 = .ok (.iastore, 1) := by decide +kernel
theorem dX12_beginBlock_46 : decode cX12_beginBlock 46 = .ok (.aload_n 0, 1) := by decide +kernel
theorem dX12_beginBlock_47 : decode cX12_beginBlock 47 = .ok (.getfield 80, 3) := by decide +kernel
theorem dX12_beginBlock_50 : decode cX12_beginBlock 50 = .ok (.aload_n 0, 1) := by decide +kernel
theorem dX12_beginBlock_51 : decode cX12_beginBlock 51 = .ok (.getfield 327, 3) := by decide +kernel
theorem dX12_beginBlock_54 : decode cX12_beginBlock 54 = .ok (.iconst (-1), 1) := by decide +kernel
theorem dX12_beginBlock_55 : decode cX12_beginBlock 55 = .ok (.iastore, 1) := by decide +kernel
theorem dX12_beginBlock_56 : decode cX12_beginBlock 56 = .ok (.aload_n 0, 1) := by decide +kernel
theorem dX12_beginBlock_57 : decode cX12_beginBlock 57 = .ok (.getfield 83, 3) := by decide +kernel
theorem dX12_beginBlock_60 : decode cX12_beginBlock 60 = .ok (.aload_n 0, 1) := by decide +kernel
theorem dX12_beginBlock_61 : decode cX12_beginBlock 61 = .ok (.getfield 327, 3) := by decide +kernel
theorem dX12_beginBlock_64 : decode cX12_beginBlock 64 = .ok (.iconst 1, 1) := by decide +kernel
theorem dX12_beginBlock_65 : decode cX12_beginBlock 65 = .ok (.bastore, 1) := by decide +kernel
theorem dX12_beginBlock_66 : decode cX12_beginBlock 66 = .ok (.aload_n 0, 1) := by decide +kernel
theorem dX12_beginBlock_67 : decode cX12_beginBlock 67 = .ok (.iconst 0, 1) := by decide +kernel
theorem dX12_beginBlock_68 : decode cX12_beginBlock 68 = .ok (.iload_n 1, 1) := by decide +kernel
theorem dX12_beginBlock_69 : decode cX12_beginBlock 69 = .ok (.invokevirtual 336, 3) := by decide +kernel
theorem dX12_beginBlock_72 : decode cX12_beginBlock 72 = .ok (.aload_n 0, 1) := by decide +kernel
theorem dX12_beginBlock_73 : decode cX12_beginBlock 73 = .ok (.aload_n 0, 1) := by decide +kernel
theorem dX12_beginBlock_74 : decode cX12_beginBlock 74 = .ok (.getfield 259, 3) := by decide +kernel
theorem dX12_beginBlock_77 : decode cX12_beginBlock 77 = .ok (.putfield 333, 3) := by decide +kernel
theorem dX12_beginBlock_80 : decode cX12_beginBlock 80 = .ok (.aload_n 0, 1) := by decide +kernel
theorem dX12_beginBlock_81 : decode cX12_beginBlock 81 = .ok (.bipush 123, 2) := by decide +kernel
theorem dX12_beginBlock_83 : decode cX12_beginBlock 83 = .ok (.invokevirtual 300, 3) := by decide +kernel
theorem dX12_beginBlock_86 : decode cX12_beginBlock 86 = .ok (.return_, 1) := by decide +kernel
theorem dX12_block_0 : decode cX12_block 0 = .ok (.aload_n 0, 1) := by decide +kernel
theorem dX12_block_1 : decode cX12_block 1 = .ok (.iconst 0, 1) := by decide +kernel
theorem dX12_block_2 : decode cX12_block 2 = .ok (.putfield 327, 3) := by decide +kernel
theorem dX12_block_5 : decode cX12_block 5 = .ok (.aload_n 0, 1) := by decide +kernel
theorem dX12_block_6 : decode cX12_block 6 = .ok (.invokevirtual 339, 3) := by decide +kernel
theorem dX12_block_9 : decode cX12_block 9 = .ok (.aload_n 0, 1) := by decide +kernel
theorem dX12_block_10 : decode cX12_block 10 = .ok (.getfield 77, 3) := by decide +kernel
theorem dX12_block_13 : decode cX12_block 13 = .ok (.iconst 0, 1) := by decide +kernel
theorem dX12_block_14 : decode cX12_block 14 = .ok (.iaload, 1) := by decide +kernel
theorem dX12_block_15 : decode cX12_block 15 = .ok (.istore_n 1, 1) := by decide +kernel
theorem dX12_block_16 : decode cX12_block 16 = .ok (.iconst (-1), 1) := by decide +kernel
theorem dX12_block_17 : decode cX12_block 17 = .ok (.istore_n 2, 1) := by decide +kernel
theorem dX12_block_18 : decode cX12_block 18 = .ok (.aload_n 0, 1) := by decide +kernel
theorem dX12_block_19 : decode cX12_block 19 = .ok (.invokevirtual 243, 3) := by decide +kernel
theorem dX12_block_22 : decode cX12_block 22 = .ok (.ifCond .eq 41, 3) := by decide +kernel
theorem dX12_block_25 : decode cX12_block 25 = .ok (.aload_n 0, 1) := by decide +kernel
theorem dX12_block_26 : decode cX12_block 26 = .ok (.getfield 327, 3) := by decide +kernel
theorem dX12_block_29 : decode cX12_block 29 = .ok (.ifCond .le 34, 3) := by decide +kernel
theorem dX12_block_32 : decode cX12_block 32 = .ok (.aload_n 0, 1) := by decide +kernel
theorem dX12_block_33 : decode cX12_block 33 = .ok (.getfield 74, 3) := by decide +kernel
theorem dX12_block_36 : decode cX12_block 36 = .ok (.aload_n 0, 1) := by decide +kernel
theorem dX12_block_37 : decode cX12_block 37 = .ok (.getfield 327, 3) := by decide +kernel
theorem dX12_block_40 : decode cX12_block 40 = .ok (.iconst 1, 1) := by decide +kernel
theorem dX12_block_41 : decode cX12_block 41 = .ok (.isub, 1) := by decide +kernel
theorem dX12_block_42 : decode cX12_block 42 = .ok (.iaload, 1) := by decide +kernel
theorem dX12_block_43 : decode cX12_block 43 = .ok (.ifCond .ne 11, 3) := by decide +kernel
theorem dX12_block_46 : decode cX12_block 46 = .ok (.aload_n 0, 1) := by decide +kernel
theorem dX12_block_47 : decode cX12_block 47 = .ok (.iload_n 2, 1) := by decide +kernel
theorem dX12_block_48 : decode cX12_block 48 = .ok (.invokevirtual 342, 3) := by decide +kernel
theorem dX12_block_51 : decode cX12_block 51 = .ok (.goto 8, 3) := by decide +kernel
theorem dX12_block_54 : decode cX12_block 54 = .ok (.aload_n 0, 1) := by decide +kernel
theorem dX12_block_55 : decode cX12_block 55 = .ok (.iload_n 2, 1) := by decide +kernel
theorem dX12_block_56 : decode cX12_block 56 = .ok (.invokevirtual 345, 3) := by decide +kernel
theorem dX12_block_59 : decode cX12_block 59 = .ok (.istore_n 2, 1) := by decide +kernel
theorem dX12_block_60 : decode cX12_block 60 = .ok (.goto (-42), 3) := by decide +kernel
theorem dX12_block_63 : decode cX12_block 63 = .ok (.iload_n 1, 1) := by decide +kernel
theorem dX12_block_64 : decode cX12_block 64 = .ok (.ireturn, 1) := by decide +kernel
theorem dX12_append_0 : decode cX12_append 0 = .ok (.aload_n 0, 1) := by decide +kernel
theorem dX12_append_1 : decode cX12_append 1 = .ok (.getfield 327, 3) := by decide +kernel
theorem dX12_append_4 : decode cX12_append 4 = .ok (.iconst 1, 1) := by decide +kernel
theorem dX12_append_5 : decode cX12_append 5 = .ok (.isub, 1) := by decide +kernel
theorem dX12_append_6 : decode cX12_append 6 = .ok (.istore_n 2, 1) := by decide +kernel
theorem dX12_append_7 : decode cX12_append 7 = .ok (.aload_n 0, 1) := by decide +kernel
theorem dX12_append_8 : decode cX12_append 8 = .ok (.getfield 80, 3) := by decide +kernel
theorem dX12_append_11 : decode cX12_append 11 = .ok (.iload_n 2, 1) := by decide +kernel
theorem dX12_append_12 : decode cX12_append 12 = .ok (.iaload, 1) := by decide +kernel
theorem dX12_append_13 : decode cX12_append 13 = .ok (.iconst (-1), 1) := by decide +kernel
theorem dX12_append_14 : decode cX12_append 14 = .ok (.if_icmp .ne 18, 3) := by decide +kernel
theorem dX12_append_17 : decode cX12_append 17 = .ok (.aload_n 0, 1) := by decide +kernel
theorem dX12_append_18 : decode cX12_append 18 = .ok (.getfield 56, 3) := by decide +kernel
theorem dX12_append_21 : decode cX12_append 21 = .ok (.aload_n 0, 1) := by decide +kernel
theorem dX12_append_22 : decode cX12_append 22 = .ok (.getfield 77, 3) := by decide +kernel
theorem dX12_append_25 : decode cX12_append 25 = .ok (.iload_n 2, 1) := by decide +kernel
theorem dX12_append_26 : decode cX12_append 26 = .ok (.iaload, 1) := by decide +kernel
theorem dX12_append_27 : decode cX12_append 27 = .ok (.iload_n 1, 1) := by decide +kernel
theorem dX12_append_28 : decode cX12_append 28 = .ok (.iastore, 1) := by decide +kernel
theorem dX12_append_29 : decode cX12_append 29 = .ok (.goto 15, 3) := by decide +kernel
theorem dX12_append_32 : decode cX12_append 32 = .ok (.aload_n 0, 1) := by decide +kernel
theorem dX12_append_33 : decode cX12_append 33 = .ok (.getfield 71, 3) := by decide +kernel
theorem dX12_append_36 : decode cX12_append 36 = .ok (.aload_n 0, 1) := by decide +kernel
theorem dX12_append_37 : decode cX12_append 37 = .ok (.getfield 80, 3) := by decide +kernel
theorem dX12_append_40 : decode cX12_append 40 = .ok (.iload_n 2, 1) := by decide +kernel
theorem dX12_append_41 : decode cX12_append 41 = .ok (.iaload, 1) := by decide +kernel
theorem dX12_append_42 : decode cX12_append 42 = .ok (.iload_n 1, 1) := by decide +kernel
theorem dX12_append_43 : decode cX12_append 43 = .ok (.iastore, 1) := by decide +kernel
theorem dX12_append_44 : decode cX12_append 44 = .ok (.aload_n 0, 1) := by decide +kernel
theorem dX12_append_45 : decode cX12_append 45 = .ok (.getfield 80, 3) := by decide +kernel
theorem dX12_append_48 : decode cX12_append 48 = .ok (.iload_n 2, 1) := by decide +kernel
theorem dX12_append_49 : decode cX12_append 49 = .ok (.iload_n 1, 1) := by decide +kernel
theorem dX12_append_50 : decode cX12_append 50 = .ok (.iastore, 1) := by decide +kernel
theorem dX12_append_51 : decode cX12_append 51 = .ok (.return_, 1) := by decide +kernel
theorem dX12_inBlock_0 : decode cX12_inBlock 0 = .ok (.aload_n 0, 1) := by decide +kernel
theorem dX12_inBlock_1 : decode cX12_inBlock 1 = .ok (.getfield 327, 3) := by decide +kernel
theorem dX12_inBlock_4 : decode cX12_inBlock 4 = .ok (.iconst 1, 1) := by decide +kernel
theorem dX12_inBlock_5 : decode cX12_inBlock 5 = .ok (.isub, 1) := by decide +kernel
theorem dX12_inBlock_6 : decode cX12_inBlock 6 = .ok (.istore_n 2, 1) := by decide +kernel
theorem dX12_inBlock_7 : decode cX12_inBlock 7 = .ok (.iload_n 1, 1) := by decide +kernel
theorem dX12_inBlock_8 : decode cX12_inBlock 8 = .ok (.ifCond .lt 10, 3) := by decide +kernel
theorem dX12_inBlock_11 : decode cX12_inBlock 11 = .ok (.aload_n 0, 1) := by decide +kernel
theorem dX12_inBlock_12 : decode cX12_inBlock 12 = .ok (.iload_n 1, 1) := by decide +kernel
theorem dX12_inBlock_13 : decode cX12_inBlock 13 = .ok (.invokevirtual 348, 3) := by decide +kernel
theorem dX12_inBlock_16 : decode cX12_inBlock 16 = .ok (.iconst (-1), 1) := by decide +kernel
theorem dX12_inBlock_17 : decode cX12_inBlock 17 = .ok (.ireturn, 1) := by decide +kernel
theorem dX12_inBlock_18 : decode cX12_inBlock 18 = .ok (.aload_n 0, 1) := by decide +kernel
theorem dX12_inBlock_19 : decode cX12_inBlock 19 = .ok (.bipush 125, 2) := by decide +kernel
theorem dX12_inBlock_21 : decode cX12_inBlock 21 = .ok (.invokevirtual 247, 3) := by decide +kernel
theorem dX12_inBlock_24 : decode cX12_inBlock 24 = .ok (.ifCond .eq 56, 3) := by decide +kernel
theorem dX12_inBlock_27 : decode cX12_inBlock 27 = .ok (.aload_n 0, 1) := by decide +kernel
theorem dX12_inBlock_28 : decode cX12_inBlock 28 = .ok (.bipush 125, 2) := by decide +kernel
theorem dX12_inBlock_30 : decode cX12_inBlock 30 = .ok (.invokevirtual 307, 3) := by decide +kernel
theorem dX12_inBlock_33 : decode cX12_inBlock 33 = .ok (.aload_n 0, 1) := by decide +kernel
theorem dX12_inBlock_34 : decode cX12_inBlock 34 = .ok (.aload_n 0, 1) := by decide +kernel
theorem dX12_inBlock_35 : decode cX12_inBlock 35 = .ok (.getfield 90, 3) := by decide +kernel
theorem dX12_inBlock_38 : decode cX12_inBlock 38 = .ok (.iload_n 2, 1) := by decide +kernel
theorem dX12_inBlock_39 : decode cX12_inBlock 39 = .ok (.iaload, 1) := by decide +kernel
theorem dX12_inBlock_40 : decode cX12_inBlock 40 = .ok (.putfield 259, 3) := by decide +kernel
theorem dX12_inBlock_43 : decode cX12_inBlock 43 = .ok (.aload_n 0, 1) := by decide +kernel
theorem dX12_inBlock_44 : decode cX12_inBlock 44 = .ok (.aload_n 0, 1) := by decide +kernel
theorem dX12_inBlock_45 : decode cX12_inBlock 45 = .ok (.getfield 93, 3) := by decide +kernel
theorem dX12_inBlock_48 : decode cX12_inBlock 48 = .ok (.iload_n 2, 1) := by decide +kernel
theorem dX12_inBlock_49 : decode cX12_inBlock 49 = .ok (.iaload, 1) := by decide +kernel
theorem dX12_inBlock_50 : decode cX12_inBlock 50 = .ok (.putfield 315, 3) := by decide +kernel
theorem dX12_inBlock_53 : decode cX12_inBlock 53 = .ok (.aload_n 0, 1) := by decide +kernel
theorem dX12_inBlock_54 : decode cX12_inBlock 54 = .ok (.aload_n 0, 1) := by decide +kernel
theorem dX12_inBlock_55 : decode cX12_inBlock 55 = .ok (.getfield 87, 3) := by decide +kernel
theorem dX12_inBlock_58 : decode cX12_inBlock 58 = .ok (.iload_n 2, 1) := by decide +kernel
theorem dX12_inBlock_59 : decode cX12_inBlock 59 = .ok (.iaload, 1) := by decide +kernel
theorem dX12_inBlock_60 : decode cX12_inBlock 60 = .ok (.putfield 333, 3) := by decide +kernel
theorem dX12_inBlock_63 : decode cX12_inBlock 63 = .ok (.aload_n 0, 1) := by decide +kernel
theorem dX12_inBlock_64 : decode cX12_inBlock 64 = .ok (.dup, 1) := by decide +kernel
theorem dX12_inBlock_65 : decode cX12_inBlock 65 = .ok (.getfield 327, 3) := by decide +kernel
theorem dX12_inBlock_68 : decode cX12_inBlock 68 = .ok (.iconst 1, 1) := by decide +kernel
theorem dX12_inBlock_69 : decode cX12_inBlock 69 = .ok (.isub, 1) := by decide +kernel
theorem dX12_inBlock_70 : decode cX12_inBlock 70 = .ok (.putfield 327, 3) := by decide +kernel
theorem dX12_inBlock_73 : decode cX12_inBlock 73 = .ok (.aload_n 0, 1) := by decide +kernel
theorem dX12_inBlock_74 : decode cX12_inBlock 74 = .ok (.getfield 77, 3) := by decide +kernel
theorem dX12_inBlock_77 : decode cX12_inBlock 77 = .ok (.iload_n 2, 1) := by decide +kernel
theorem dX12_inBlock_78 : decode cX12_inBlock 78 = .ok (.iaload, 1) := by decide +kernel
theorem dX12_inBlock_79 : decode cX12_inBlock 79 = .ok (.ireturn, 1) := by decide +kernel
theorem dX12_inBlock_80 : decode cX12_inBlock 80 = .ok (.aload_n 0, 1) := by decide +kernel
theorem dX12_inBlock_81 : decode cX12_inBlock 81 = .ok (.getfield 83, 3) := by decide +kernel
theorem dX12_inBlock_84 : decode cX12_inBlock 84 = .ok (.iload_n 2, 1) := by decide +kernel
theorem dX12_inBlock_85 : decode cX12_inBlock 85 = .ok (.aload_n 0, 1) := by decide +kernel
theorem dX12_inBlock_86 : decode cX12_inBlock 86 = .ok (.getfield 83, 3) := by decide +kernel
theorem dX12_inBlock_89 : decode cX12_inBlock 89 = .ok (.iload_n 2, 1) := by decide +kernel
theorem dX12_inBlock_90 : decode cX12_inBlock 90 = .ok (.baload, 1) := by decide +kernel
theorem dX12_inBlock_91 : decode cX12_inBlock 91 = .ok (.ifCond .eq 15, 3) := by decide +kernel
theorem dX12_inBlock_94 : decode cX12_inBlock 94 = .ok (.aload_n 0, 1) := by decide +kernel
theorem dX12_inBlock_95 : decode cX12_inBlock 95 = .ok (.iconst 0, 1) := by decide +kernel
theorem dX12_inBlock_96 : decode cX12_inBlock 96 = .ok (.invokevirtual 290, 3) := by decide +kernel
theorem dX12_inBlock_99 : decode cX12_inBlock 99 = .ok (.ifCond .eq 7, 3) := by decide +kernel
theorem dX12_inBlock_102 : decode cX12_inBlock 102 = .ok (.iconst 1, 1) := by decide +kernel
theorem dX12_inBlock_103 : decode cX12_inBlock 103 = .ok (.goto 4, 3) := by decide +kernel
theorem dX12_inBlock_106 : decode cX12_inBlock 106 = .ok (.iconst 0, 1) := by decide +kernel
theorem dX12_inBlock_107 : decode cX12_inBlock 107 = .ok (.bastore, 1) := by decide +kernel
theorem dX12_inBlock_108 : decode cX12_inBlock 108 = .ok (.aload_n 0, 1) := by decide +kernel
theorem dX12_inBlock_109 : decode cX12_inBlock 109 = .ok (.getfield 83, 3) := by decide +kernel
theorem dX12_inBlock_112 : decode cX12_inBlock 112 = .ok (.iload_n 2, 1) := by decide +kernel
theorem dX12_inBlock_113 : decode cX12_inBlock 113 = .ok (.baload, 1) := by decide +kernel
theorem dX12_inBlock_114 : decode cX12_inBlock 114 = .ok (.ifCond .eq 10, 3) := by decide +kernel
theorem dX12_inBlock_117 : decode cX12_inBlock 117 = .ok (.aload_n 0, 1) := by decide +kernel
theorem dX12_inBlock_118 : decode cX12_inBlock 118 = .ok (.invokevirtual 351, 3) := by decide +kernel
theorem dX12_inBlock_121 : decode cX12_inBlock 121 = .ok (.goto 7, 3) := by decide +kernel
theorem dX12_inBlock_124 : decode cX12_inBlock 124 = .ok (.aload_n 0, 1) := by decide +kernel
theorem dX12_inBlock_125 : decode cX12_inBlock 125 = .ok (.invokevirtual 354, 3) := by decide +kernel
theorem dX12_inBlock_128 : decode cX12_inBlock 128 = .ok (.ireturn, 1) := by decide +kernel
theorem dX12_inBranch_0 : decode cX12_inBranch 0 = .ok (.iload_n 1, 1) := by decide +kernel
theorem dX12_inBranch_1 : decode cX12_inBranch 1 = .ok (.ifCond .ge 8, 3) := by decide +kernel
theorem dX12_inBranch_4 : decode cX12_inBranch 4 = .ok (.aload_n 0, 1) := by decide +kernel
theorem dX12_inBranch_5 : decode cX12_inBranch 5 = .ok (.invokevirtual 354, 3) := by decide +kernel
theorem dX12_inBranch_8 : decode cX12_inBranch 8 = .ok (.ireturn, 1) := by decide +kernel
theorem dX12_inBranch_9 : decode cX12_inBranch 9 = .ok (.aload_n 0, 1) := by decide +kernel
theorem dX12_inBranch_10 : decode cX12_inBranch 10 = .ok (.getfield 327, 3) := by decide +kernel
theorem dX12_inBranch_13 : decode cX12_inBranch 13 = .ok (.iconst 1, 1) := by decide +kernel
theorem dX12_inBranch_14 : decode cX12_inBranch 14 = .ok (.isub, 1) := by decide +kernel
theorem dX12_inBranch_15 : decode cX12_inBranch 15 = .ok (.istore_n 2, 1) := by decide +kernel
theorem dX12_inBranch_16 : decode cX12_inBranch 16 = .ok (.aload_n 0, 1) := by decide +kernel
theorem dX12_inBranch_17 : decode cX12_inBranch 17 = .ok (.getfield 77, 3) := by decide +kernel
theorem dX12_inBranch_20 : decode cX12_inBranch 20 = .ok (.iload_n 2, 1) := by decide +kernel
theorem dX12_inBranch_21 : decode cX12_inBranch 21 = .ok (.iaload, 1) := by decide +kernel
theorem dX12_inBranch_22 : decode cX12_inBranch 22 = .ok (.istore_n 3, 1) := by decide +kernel
theorem dX12_inBranch_23 : decode cX12_inBranch 23 = .ok (.aload_n 0, 1) := by decide +kernel
theorem dX12_inBranch_24 : decode cX12_inBranch 24 = .ok (.getfield 74, 3) := by decide +kernel
theorem dX12_inBranch_27 : decode cX12_inBranch 27 = .ok (.iload_n 2, 1) := by decide +kernel
theorem dX12_inBranch_28 : decode cX12_inBranch 28 = .ok (.iaload, 1) := by decide +kernel
theorem dX12_inBranch_29 : decode cX12_inBranch 29 = .ok (.iconst 2, 1) := by decide +kernel
theorem dX12_inBranch_30 : decode cX12_inBranch 30 = .ok (.if_icmp .ne 32, 3) := by decide +kernel
theorem dX12_inBranch_33 : decode cX12_inBranch 33 = .ok (.aload_n 0, 1) := by decide +kernel
theorem dX12_inBranch_34 : decode cX12_inBranch 34 = .ok (.getfield 62, 3) := by decide +kernel
theorem dX12_inBranch_37 : decode cX12_inBranch 37 = .ok (.iload_n 3, 1) := by decide +kernel
theorem dX12_inBranch_38 : decode cX12_inBranch 38 = .ok (.iload_n 1, 1) := by decide +kernel
theorem dX12_inBranch_39 : decode cX12_inBranch 39 = .ok (.iastore, 1) := by decide +kernel
theorem dX12_inBranch_40 : decode cX12_inBranch 40 = .ok (.aload_n 0, 1) := by decide +kernel
theorem dX12_inBranch_41 : decode cX12_inBranch 41 = .ok (.dup, 1) := by decide +kernel
theorem dX12_inBranch_42 : decode cX12_inBranch 42 = .ok (.getfield 268, 3) := by decide +kernel
theorem dX12_inBranch_45 : decode cX12_inBranch 45 = .ok (.iconst 2, 1) := by decide +kernel
theorem dX12_inBranch_46 : decode cX12_inBranch 46 = .ok (.isub, 1) := by decide +kernel
theorem dX12_inBranch_47 : decode cX12_inBranch 47 = .ok (.putfield 268, 3) := by decide +kernel
theorem dX12_inBranch_50 : decode cX12_inBranch 50 = .ok (.aload_n 0, 1) := by decide +kernel
theorem dX12_inBranch_51 : decode cX12_inBranch 51 = .ok (.dup, 1) := by decide +kernel
theorem dX12_inBranch_52 : decode cX12_inBranch 52 = .ok (.getfield 327, 3) := by decide +kernel
theorem dX12_inBranch_55 : decode cX12_inBranch 55 = .ok (.iconst 1, 1) := by decide +kernel
theorem dX12_inBranch_56 : decode cX12_inBranch 56 = .ok (.isub, 1) := by decide +kernel
theorem dX12_inBranch_57 : decode cX12_inBranch 57 = .ok (.putfield 327, 3) := by decide +kernel
theorem dX12_inBranch_60 : decode cX12_inBranch 60 = .ok (.iload_n 3, 1) := by decide +kernel
theorem dX12_inBranch_61 : decode cX12_inBranch 61 = .ok (.ireturn, 1) := by decide +kernel
theorem dX12_inBranch_62 : decode cX12_inBranch 62 = .ok (.aload_n 0, 1) := by decide +kernel
theorem dX12_inBranch_63 : decode cX12_inBranch 63 = .ok (.getfield 59, 3) := by decide +kernel
theorem dX12_inBranch_66 : decode cX12_inBranch 66 = .ok (.iload_n 3, 1) := by decide +kernel
theorem dX12_inBranch_67 : decode cX12_inBranch 67 = .ok (.iload_n 1, 1) := by decide +kernel
theorem dX12_inBranch_68 : decode cX12_inBranch 68 = .ok (.iastore, 1) := by decide +kernel
theorem dX12_inBranch_69 : decode cX12_inBranch 69 = .ok (.aload_n 0, 1) := by decide +kernel
theorem dX12_inBranch_70 : decode cX12_inBranch 70 = .ok (.getfield 74, 3) := by decide +kernel
theorem dX12_inBranch_73 : decode cX12_inBranch 73 = .ok (.iload_n 2, 1) := by decide +kernel
theorem dX12_inBranch_74 : decode cX12_inBranch 74 = .ok (.iaload, 1) := by decide +kernel
theorem dX12_inBranch_75 : decode cX12_inBranch 75 = .ok (.iconst 1, 1) := by decide +kernel
theorem dX12_inBranch_76 : decode cX12_inBranch 76 = .ok (.if_icmp .ne 28, 3) := by decide +kernel
theorem dX12_inBranch_79 : decode cX12_inBranch 79 = .ok (.aload_n 0, 1) := by decide +kernel
theorem dX12_inBranch_80 : decode cX12_inBranch 80 = .ok (.iconst 2, 1) := by decide +kernel
theorem dX12_inBranch_81 : decode cX12_inBranch 81 = .ok (.invokevirtual 290, 3) := by decide +kernel
theorem dX12_inBranch_84 : decode cX12_inBranch 84 = .ok (.ifCond .eq 20, 3) := by decide +kernel
theorem dX12_inBranch_87 : decode cX12_inBranch 87 = .ok (.aload_n 0, 1) := by decide +kernel
theorem dX12_inBranch_88 : decode cX12_inBranch 88 = .ok (.invokevirtual 271, 3) := by decide +kernel
theorem dX12_inBranch_91 : decode cX12_inBranch 91 = .ok (.aload_n 0, 1) := by decide +kernel
theorem dX12_inBranch_92 : decode cX12_inBranch 92 = .ok (.invokevirtual 250, 3) := by decide +kernel
theorem dX12_inBranch_95 : decode cX12_inBranch 95 = .ok (.aload_n 0, 1) := by decide +kernel
theorem dX12_inBranch_96 : decode cX12_inBranch 96 = .ok (.getfield 74, 3) := by decide +kernel
theorem dX12_inBranch_99 : decode cX12_inBranch 99 = .ok (.iload_n 2, 1) := by decide +kernel
theorem dX12_inBranch_100 : decode cX12_inBranch 100 = .ok (.iconst 2, 1) := by decide +kernel
theorem dX12_inBranch_101 : decode cX12_inBranch 101 = .ok (.iastore, 1) := by decide +kernel
theorem dX12_inBranch_102 : decode cX12_inBranch 102 = .ok (.iconst (-1), 1) := by decide +kernel
theorem dX12_inBranch_103 : decode cX12_inBranch 103 = .ok (.ireturn, 1) := by decide +kernel
theorem dX12_inBranch_104 : decode cX12_inBranch 104 = .ok (.aload_n 0, 1) := by decide +kernel
theorem dX12_inBranch_105 : decode cX12_inBranch 105 = .ok (.dup, 1) := by decide +kernel
theorem dX12_inBranch_106 : decode cX12_inBranch 106 = .ok (.getfield 268, 3) := by decide +kernel
theorem dX12_inBranch_109 : decode cX12_inBranch 109 = .ok (.iconst 1, 1) := by decide +kernel
theorem dX12_inBranch_110 : decode cX12_inBranch 110 = .ok (.isub, 1) := by decide +kernel
theorem dX12_inBranch_111 : decode cX12_inBranch 111 = .ok (.putfield 268, 3) := by decide +kernel
theorem dX12_inBranch_114 : decode cX12_inBranch 114 = .ok (.aload_n 0, 1) := by decide +kernel
theorem dX12_inBranch_115 : decode cX12_inBranch 115 = .ok (.dup, 1) := by decide +kernel
theorem dX12_inBranch_116 : decode cX12_inBranch 116 = .ok (.getfield 327, 3) := by decide +kernel
theorem dX12_inBranch_119 : decode cX12_inBranch 119 = .ok (.iconst 1, 1) := by decide +kernel
theorem dX12_inBranch_120 : decode cX12_inBranch 120 = .ok (.isub, 1) := by decide +kernel
theorem dX12_inBranch_121 : decode cX12_inBranch 121 = .ok (.putfield 327, 3) := by decide +kernel
theorem dX12_inBranch_124 : decode cX12_inBranch 124 = .ok (.iload_n 3, 1) := by decide +kernel
theorem dX12_inBranch_125 : decode cX12_inBranch 125 = .ok (.ireturn, 1) := by decide +kernel
theorem dX12_tellLocal_0 : decode cX12_tellLocal 0 = .ok (.aload_n 0, 1) := by decide +kernel
theorem dX12_tellLocal_1 : decode cX12_tellLocal 1 = .ok (.bipush 21, 2) := by decide +kernel
theorem dX12_tellLocal_3 : decode cX12_tellLocal 3 = .ok (.invokevirtual 330, 3) := by decide +kernel
theorem dX12_tellLocal_6 : decode cX12_tellLocal 6 = .ok (.istore_n 1, 1) := by decide +kernel
theorem dX12_tellLocal_7 : decode cX12_tellLocal 7 = .ok (.aload_n 0, 1) := by decide +kernel
theorem dX12_tellLocal_8 : decode cX12_tellLocal 8 = .ok (.invokevirtual 250, 3) := by decide +kernel
theorem dX12_tellLocal_11 : decode cX12_tellLocal 11 = .ok (.aload_n 0, 1) := by decide +kernel
theorem dX12_tellLocal_12 : decode cX12_tellLocal 12 = .ok (.getfield 206, 3) := by decide +kernel
theorem dX12_tellLocal_15 : decode cX12_tellLocal 15 = .ok (.iconst 1, 1) := by decide +kernel
theorem dX12_tellLocal_16 : decode cX12_tellLocal 16 = .ok (.if_icmp .eq 9, 3) := by decide +kernel
theorem dX12_tellLocal_19 : decode cX12_tellLocal 19 = .ok (.aload_n 0, 1) := by decide +kernel
theorem dX12_tellLocal_20 : decode cX12_tellLocal 20 = .ok (.invokevirtual 253, 3) := by decide +kernel
theorem dX12_tellLocal_23 : decode cX12_tellLocal 23 = .ok (.iload_n 1, 1) := by decide +kernel
theorem dX12_tellLocal_24 : decode cX12_tellLocal 24 = .ok (.ireturn, 1) := by decide +kernel
theorem dX12_tellLocal_25 : decode cX12_tellLocal 25 = .ok (.aload_n 0, 1) := by decide +kernel
theorem dX12_tellLocal_26 : decode cX12_tellLocal 26 = .ok (.getfield 202, 3) := by decide +kernel
theorem dX12_tellLocal_29 : decode cX12_tellLocal 29 = .ok (.lstore_n 2, 1) := by decide +kernel
theorem dX12_tellLocal_30 : decode cX12_tellLocal 30 = .ok (.aload_n 0, 1) := by decide +kernel
theorem dX12_tellLocal_31 : decode cX12_tellLocal 31 = .ok (.lload_n 2, 1) := by decide +kernel
theorem dX12_tellLocal_32 : decode cX12_tellLocal 32 = .ok (.invokevirtual 324, 3) := by decide +kernel
theorem dX12_tellLocal_35 : decode cX12_tellLocal 35 = .ok (.istore 4, 2) := by decide +kernel
theorem dX12_tellLocal_37 : decode cX12_tellLocal 37 = .ok (.iload 4, 2) := by decide +kernel
theorem dX12_tellLocal_39 : decode cX12_tellLocal 39 = .ok (.aload_n 0, 1) := by decide +kernel
theorem dX12_tellLocal_40 : decode cX12_tellLocal 40 = .ok (.getfield 333, 3) := by decide +kernel
theorem dX12_tellLocal_43 : decode cX12_tellLocal 43 = .ok (.if_icmp .lt 14, 3) := by decide +kernel
theorem dX12_tellLocal_46 : decode cX12_tellLocal 46 = .ok (.aload_n 0, 1) := by decide +kernel
theorem dX12_tellLocal_47 : decode cX12_tellLocal 47 = .ok (.iconst 4, 1) := by decide +kernel
theorem dX12_tellLocal_48 : decode cX12_tellLocal 48 = .ok (.aload_n 0, 1) := by decide +kernel
theorem dX12_tellLocal_49 : decode cX12_tellLocal 49 = .ok (.getfield 199, 3) := by decide +kernel
theorem dX12_tellLocal_52 : decode cX12_tellLocal 52 = .ok (.invokevirtual 239, 3) := by decide +kernel
theorem dX12_tellLocal_55 : decode cX12_tellLocal 55 = .ok (.iload_n 1, 1) := by decide +kernel
theorem dX12_tellLocal_56 : decode cX12_tellLocal 56 = .ok (.ireturn, 1) := by decide +kernel
theorem dX12_tellLocal_57 : decode cX12_tellLocal 57 = .ok (.aload_n 0, 1) := by decide +kernel
theorem dX12_tellLocal_58 : decode cX12_tellLocal 58 = .ok (.invokevirtual 250, 3) := by decide +kernel
theorem dX12_tellLocal_61 : decode cX12_tellLocal 61 = .ok (.aload_n 0, 1) := by decide +kernel
theorem dX12_tellLocal_62 : decode cX12_tellLocal 62 = .ok (.bipush 61, 2) := by decide +kernel
theorem dX12_tellLocal_64 : decode cX12_tellLocal 64 = .ok (.invokevirtual 247, 3) := by decide +kernel
theorem dX12_tellLocal_67 : decode cX12_tellLocal 67 = .ok (.ifCond .eq 19, 3) := by decide +kernel
theorem dX12_tellLocal_70 : decode cX12_tellLocal 70 = .ok (.aload_n 0, 1) := by decide +kernel
theorem dX12_tellLocal_71 : decode cX12_tellLocal 71 = .ok (.invokevirtual 250, 3) := by decide +kernel
theorem dX12_tellLocal_74 : decode cX12_tellLocal 74 = .ok (.aload_n 0, 1) := by decide +kernel
theorem dX12_tellLocal_75 : decode cX12_tellLocal 75 = .ok (.getfield 56, 3) := by decide +kernel
theorem dX12_tellLocal_78 : decode cX12_tellLocal 78 = .ok (.iload_n 1, 1) := by decide +kernel
theorem dX12_tellLocal_79 : decode cX12_tellLocal 79 = .ok (.aload_n 0, 1) := by decide +kernel
theorem dX12_tellLocal_80 : decode cX12_tellLocal 80 = .ok (.bipush 59, 2) := by decide +kernel
theorem dX12_tellLocal_82 : decode cX12_tellLocal 82 = .ok (.invokevirtual 357, 3) := by decide +kernel
theorem dX12_tellLocal_85 : decode cX12_tellLocal 85 = .ok (.iastore, 1) := by decide +kernel
theorem dX12_tellLocal_86 : decode cX12_tellLocal 86 = .ok (.aload_n 0, 1) := by decide +kernel
theorem dX12_tellLocal_87 : decode cX12_tellLocal 87 = .ok (.bipush 59, 2) := by decide +kernel
theorem dX12_tellLocal_89 : decode cX12_tellLocal 89 = .ok (.invokevirtual 274, 3) := by decide +kernel
theorem dX12_tellLocal_92 : decode cX12_tellLocal 92 = .ok (.aload_n 0, 1) := by decide +kernel
theorem dX12_tellLocal_93 : decode cX12_tellLocal 93 = .ok (.invokevirtual 243, 3) := by decide +kernel
theorem dX12_tellLocal_96 : decode cX12_tellLocal 96 = .ok (.ifCond .ne 5, 3) := by decide +kernel
theorem dX12_tellLocal_99 : decode cX12_tellLocal 99 = .ok (.iload_n 1, 1) := by decide +kernel
theorem dX12_tellLocal_100 : decode cX12_tellLocal 100 = .ok (.ireturn, 1) := by decide +kernel
theorem dX12_tellLocal_101 : decode cX12_tellLocal 101 = .ok (.aload_n 0, 1) := by decide +kernel
theorem dX12_tellLocal_102 : decode cX12_tellLocal 102 = .ok (.getfield 47, 3) := by decide +kernel
theorem dX12_tellLocal_105 : decode cX12_tellLocal 105 = .ok (.aload_n 0, 1) := by decide +kernel
theorem dX12_tellLocal_106 : decode cX12_tellLocal 106 = .ok (.getfield 259, 3) := by decide +kernel
theorem dX12_tellLocal_109 : decode cX12_tellLocal 109 = .ok (.lload_n 2, 1) := by decide +kernel
theorem dX12_tellLocal_110 : decode cX12_tellLocal 110 = .ok (.lastore, 1) := by decide +kernel
theorem dX12_tellLocal_111 : decode cX12_tellLocal 111 = .ok (.aload_n 0, 1) := by decide +kernel
theorem dX12_tellLocal_112 : decode cX12_tellLocal 112 = .ok (.getfield 50, 3) := by decide +kernel
theorem dX12_tellLocal_115 : decode cX12_tellLocal 115 = .ok (.aload_n 0, 1) := by decide +kernel
theorem dX12_tellLocal_116 : decode cX12_tellLocal 116 = .ok (.getfield 259, 3) := by decide +kernel
theorem dX12_tellLocal_119 : decode cX12_tellLocal 119 = .ok (.aload_n 0, 1) := by decide +kernel
theorem dX12_tellLocal_120 : decode cX12_tellLocal 120 = .ok (.getfield 315, 3) := by decide +kernel
theorem dX12_tellLocal_123 : decode cX12_tellLocal 123 = .ok (.iastore, 1) := by decide +kernel
theorem dX12_tellLocal_124 : decode cX12_tellLocal 124 = .ok (.aload_n 0, 1) := by decide +kernel
theorem dX12_tellLocal_125 : decode cX12_tellLocal 125 = .ok (.getfield 65, 3) := by decide +kernel
theorem dX12_tellLocal_128 : decode cX12_tellLocal 128 = .ok (.iload_n 1, 1) := by decide +kernel
theorem dX12_tellLocal_129 : decode cX12_tellLocal 129 = .ok (.aload_n 0, 1) := by decide +kernel
theorem dX12_tellLocal_130 : decode cX12_tellLocal 130 = .ok (.getfield 315, 3) := by decide +kernel
theorem dX12_tellLocal_133 : decode cX12_tellLocal 133 = .ok (.iastore, 1) := by decide +kernel
theorem dX12_tellLocal_134 : decode cX12_tellLocal 134 = .ok (.aload_n 0, 1) := by decide +kernel
theorem dX12_tellLocal_135 : decode cX12_tellLocal 135 = .ok (.dup, 1) := by decide +kernel
theorem dX12_tellLocal_136 : decode cX12_tellLocal 136 = .ok (.getfield 259, 3) := by decide +kernel
theorem dX12_tellLocal_139 : decode cX12_tellLocal 139 = .ok (.iconst 1, 1) := by decide +kernel
theorem dX12_tellLocal_140 : decode cX12_tellLocal 140 = .ok (.iadd, 1) := by decide +kernel
theorem dX12_tellLocal_141 : decode cX12_tellLocal 141 = .ok (.putfield 259, 3) := by decide +kernel
theorem dX12_tellLocal_144 : decode cX12_tellLocal 144 = .ok (.aload_n 0, 1) := by decide +kernel
theorem dX12_tellLocal_145 : decode cX12_tellLocal 145 = .ok (.dup, 1) := by decide +kernel
theorem dX12_tellLocal_146 : decode cX12_tellLocal 146 = .ok (.getfield 315, 3) := by decide +kernel
theorem dX12_tellLocal_149 : decode cX12_tellLocal 149 = .ok (.iconst 1, 1) := by decide +kernel
theorem dX12_tellLocal_150 : decode cX12_tellLocal 150 = .ok (.iadd, 1) := by decide +kernel
theorem dX12_tellLocal_151 : decode cX12_tellLocal 151 = .ok (.putfield 315, 3) := by decide +kernel
theorem dX12_tellLocal_154 : decode cX12_tellLocal 154 = .ok (.aload_n 0, 1) := by decide +kernel
theorem dX12_tellLocal_155 : decode cX12_tellLocal 155 = .ok (.getfield 44, 3) := by decide +kernel
theorem dX12_tellLocal_158 : decode cX12_tellLocal 158 = .ok (.aload_n 0, 1) := by decide +kernel
theorem dX12_tellLocal_159 : decode cX12_tellLocal 159 = .ok (.getfield 312, 3) := by decide +kernel
theorem dX12_tellLocal_162 : decode cX12_tellLocal 162 = .ok (.aload_n 0, 1) := by decide +kernel
theorem dX12_tellLocal_163 : decode cX12_tellLocal 163 = .ok (.getfield 315, 3) := by decide +kernel
theorem dX12_tellLocal_166 : decode cX12_tellLocal 166 = .ok (.aload_n 0, 1) := by decide +kernel
theorem dX12_tellLocal_167 : decode cX12_tellLocal 167 = .ok (.getfield 44, 3) := by decide +kernel
theorem dX12_tellLocal_170 : decode cX12_tellLocal 170 = .ok (.aload_n 0, 1) := by decide +kernel
theorem dX12_tellLocal_171 : decode cX12_tellLocal 171 = .ok (.getfield 312, 3) := by decide +kernel
theorem dX12_tellLocal_174 : decode cX12_tellLocal 174 = .ok (.iaload, 1) := by decide +kernel
theorem dX12_tellLocal_175 : decode cX12_tellLocal 175 = .ok (.if_icmp .le 10, 3) := by decide +kernel
theorem dX12_tellLocal_178 : decode cX12_tellLocal 178 = .ok (.aload_n 0, 1) := by decide +kernel
theorem dX12_tellLocal_179 : decode cX12_tellLocal 179 = .ok (.getfield 315, 3) := by decide +kernel
theorem dX12_tellLocal_182 : decode cX12_tellLocal 182 = .ok (.goto 12, 3) := by decide +kernel
theorem dX12_tellLocal_185 : decode cX12_tellLocal 185 = .ok (.aload_n 0, 1) := by decide +kernel
theorem dX12_tellLocal_186 : decode cX12_tellLocal 186 = .ok (.getfield 44, 3) := by decide +kernel
theorem dX12_tellLocal_189 : decode cX12_tellLocal 189 = .ok (.aload_n 0, 1) := by decide +kernel
theorem dX12_tellLocal_190 : decode cX12_tellLocal 190 = .ok (.getfield 312, 3) := by decide +kernel
theorem dX12_tellLocal_193 : decode cX12_tellLocal 193 = .ok (.iaload, 1) := by decide +kernel
theorem dX12_tellLocal_194 : decode cX12_tellLocal 194 = .ok (.iastore, 1) := by decide +kernel
theorem dX12_tellLocal_195 : decode cX12_tellLocal 195 = .ok (.iload_n 1, 1) := by decide +kernel
theorem dX12_tellLocal_196 : decode cX12_tellLocal 196 = .ok (.ireturn, 1) := by decide +kernel
theorem dX12_statement_0 : decode cX12_statement 0 = .ok (.aload_n 0, 1) := by decide +kernel
theorem dX12_statement_1 : decode cX12_statement 1 = .ok (.invokevirtual 243, 3) := by decide +kernel
theorem dX12_statement_4 : decode cX12_statement 4 = .ok (.ifCond .ne 5, 3) := by decide +kernel
theorem dX12_statement_7 : decode cX12_statement 7 = .ok (.iconst (-1), 1) := by decide +kernel
theorem dX12_statement_8 : decode cX12_statement 8 = .ok (.ireturn, 1) := by decide +kernel
theorem dX12_statement_9 : decode cX12_statement 9 = .ok (.aload_n 0, 1) := by decide +kernel
theorem dX12_statement_10 : decode cX12_statement 10 = .ok (.getfield 199, 3) := by decide +kernel
theorem dX12_statement_13 : decode cX12_statement 13 = .ok (.istore_n 1, 1) := by decide +kernel
theorem dX12_statement_14 : decode cX12_statement 14 = .ok (.aload_n 0, 1) := by decide +kernel
theorem dX12_statement_15 : decode cX12_statement 15 = .ok (.bipush 123, 2) := by decide +kernel
theorem dX12_statement_17 : decode cX12_statement 17 = .ok (.invokevirtual 247, 3) := by decide +kernel
theorem dX12_statement_20 : decode cX12_statement 20 = .ok (.ifCond .eq 37, 3) := by decide +kernel
theorem dX12_statement_23 : decode cX12_statement 23 = .ok (.aload_n 0, 1) := by decide +kernel
theorem dX12_statement_24 : decode cX12_statement 24 = .ok (.getfield 268, 3) := by decide +kernel
theorem dX12_statement_27 : decode cX12_statement 27 = .ok (.bipush 40, 2) := by decide +kernel
theorem dX12_statement_29 : decode cX12_statement 29 = .ok (.if_icmp .ne 10, 3) := by decide +kernel
theorem dX12_statement_32 : decode cX12_statement 32 = .ok (.aload_n 0, 1) := by decide +kernel
theorem dX12_statement_33 : decode cX12_statement 33 = .ok (.bipush 8, 2) := by decide +kernel
theorem dX12_statement_35 : decode cX12_statement 35 = .ok (.iload_n 1, 1) := by decide +kernel
theorem dX12_statement_36 : decode cX12_statement 36 = .ok (.invokevirtual 239, 3) := by decide +kernel
theorem dX12_statement_39 : decode cX12_statement 39 = .ok (.aload_n 0, 1) := by decide +kernel
theorem dX12_statement_40 : decode cX12_statement 40 = .ok (.iload_n 1, 1) := by decide +kernel
theorem dX12_statement_41 : decode cX12_statement 41 = .ok (.invokevirtual 293, 3) := by decide +kernel
theorem dX12_statement_44 : decode cX12_statement 44 = .ok (.aload_n 0, 1) := by decide +kernel
theorem dX12_statement_45 : decode cX12_statement 45 = .ok (.invokevirtual 243, 3) := by decide +kernel
theorem dX12_statement_48 : decode cX12_statement 48 = .ok (.ifCond .eq 7, 3) := by decide +kernel
theorem dX12_statement_51 : decode cX12_statement 51 = .ok (.aload_n 0, 1) := by decide +kernel
theorem dX12_statement_52 : decode cX12_statement 52 = .ok (.invokevirtual 339, 3) := by decide +kernel
theorem dX12_statement_55 : decode cX12_statement 55 = .ok (.iconst (-1), 1) := by decide +kernel
theorem dX12_statement_56 : decode cX12_statement 56 = .ok (.ireturn, 1) := by decide +kernel
theorem dX12_statement_57 : decode cX12_statement 57 = .ok (.aload_n 0, 1) := by decide +kernel
theorem dX12_statement_58 : decode cX12_statement 58 = .ok (.iconst 1, 1) := by decide +kernel
theorem dX12_statement_59 : decode cX12_statement 59 = .ok (.invokevirtual 290, 3) := by decide +kernel
theorem dX12_statement_62 : decode cX12_statement 62 = .ok (.ifCond .ne 11, 3) := by decide +kernel
theorem dX12_statement_65 : decode cX12_statement 65 = .ok (.aload_n 0, 1) := by decide +kernel
theorem dX12_statement_66 : decode cX12_statement 66 = .ok (.iconst 3, 1) := by decide +kernel
theorem dX12_statement_67 : decode cX12_statement 67 = .ok (.invokevirtual 290, 3) := by decide +kernel
theorem dX12_statement_70 : decode cX12_statement 70 = .ok (.ifCond .eq 8, 3) := by decide +kernel
theorem dX12_statement_73 : decode cX12_statement 73 = .ok (.aload_n 0, 1) := by decide +kernel
theorem dX12_statement_74 : decode cX12_statement 74 = .ok (.invokevirtual 360, 3) := by decide +kernel
theorem dX12_statement_77 : decode cX12_statement 77 = .ok (.ireturn, 1) := by decide +kernel
theorem dX12_statement_78 : decode cX12_statement 78 = .ok (.aload_n 0, 1) := by decide +kernel
theorem dX12_statement_79 : decode cX12_statement 79 = .ok (.iconst 4, 1) := by decide +kernel
theorem dX12_statement_80 : decode cX12_statement 80 = .ok (.invokevirtual 290, 3) := by decide +kernel
theorem dX12_statement_83 : decode cX12_statement 83 = .ok (.ifCond .eq 39, 3) := by decide +kernel
theorem dX12_statement_86 : decode cX12_statement 86 = .ok (.aload_n 0, 1) := by decide +kernel
theorem dX12_statement_87 : decode cX12_statement 87 = .ok (.iload_n 1, 1) := by decide +kernel
theorem dX12_statement_88 : decode cX12_statement 88 = .ok (.invokevirtual 293, 3) := by decide +kernel
theorem dX12_statement_91 : decode cX12_statement 91 = .ok (.aload_n 0, 1) := by decide +kernel
theorem dX12_statement_92 : decode cX12_statement 92 = .ok (.bipush 24, 2) := by decide +kernel
theorem dX12_statement_94 : decode cX12_statement 94 = .ok (.invokevirtual 330, 3) := by decide +kernel
theorem dX12_statement_97 : decode cX12_statement 97 = .ok (.istore_n 2, 1) := by decide +kernel
theorem dX12_statement_98 : decode cX12_statement 98 = .ok (.aload_n 0, 1) := by decide +kernel
theorem dX12_statement_99 : decode cX12_statement 99 = .ok (.invokevirtual 250, 3) := by decide +kernel
theorem dX12_statement_102 : decode cX12_statement 102 = .ok (.aload_n 0, 1) := by decide +kernel
theorem dX12_statement_103 : decode cX12_statement 103 = .ok (.getfield 56, 3) := by decide +kernel
theorem dX12_statement_106 : decode cX12_statement 106 = .ok (.iload_n 2, 1) := by decide +kernel
theorem dX12_statement_107 : decode cX12_statement 107 = .ok (.aload_n 0, 1) := by decide +kernel
theorem dX12_statement_108 : decode cX12_statement 108 = .ok (.bipush 59, 2) := by decide +kernel
theorem dX12_statement_110 : decode cX12_statement 110 = .ok (.invokevirtual 357, 3) := by decide +kernel
theorem dX12_statement_113 : decode cX12_statement 113 = .ok (.iastore, 1) := by decide +kernel
theorem dX12_statement_114 : decode cX12_statement 114 = .ok (.aload_n 0, 1) := by decide +kernel
theorem dX12_statement_115 : decode cX12_statement 115 = .ok (.bipush 59, 2) := by decide +kernel
theorem dX12_statement_117 : decode cX12_statement 117 = .ok (.invokevirtual 274, 3) := by decide +kernel
theorem dX12_statement_120 : decode cX12_statement 120 = .ok (.iload_n 2, 1) := by decide +kernel
theorem dX12_statement_121 : decode cX12_statement 121 = .ok (.ireturn, 1) := by decide +kernel
theorem dX12_statement_122 : decode cX12_statement 122 = .ok (.aload_n 0, 1) := by decide +kernel
theorem dX12_statement_123 : decode cX12_statement 123 = .ok (.iconst 5, 1) := by decide +kernel
theorem dX12_statement_124 : decode cX12_statement 124 = .ok (.invokevirtual 290, 3) := by decide +kernel
theorem dX12_statement_127 : decode cX12_statement 127 = .ok (.ifCond .eq 51, 3) := by decide +kernel
theorem dX12_statement_130 : decode cX12_statement 130 = .ok (.aload_n 0, 1) := by decide +kernel
theorem dX12_statement_131 : decode cX12_statement 131 = .ok (.iload_n 1, 1) := by decide +kernel
theorem dX12_statement_132 : decode cX12_statement 132 = .ok (.invokevirtual 293, 3) := by decide +kernel
theorem dX12_statement_135 : decode cX12_statement 135 = .ok (.aload_n 0, 1) := by decide +kernel
theorem dX12_statement_136 : decode cX12_statement 136 = .ok (.bipush 25, 2) := by decide +kernel
theorem dX12_statement_138 : decode cX12_statement 138 = .ok (.invokevirtual 330, 3) := by decide +kernel
theorem dX12_statement_141 : decode cX12_statement 141 = .ok (.istore_n 2, 1) := by decide +kernel
theorem dX12_statement_142 : decode cX12_statement 142 = .ok (.aload_n 0, 1) := by decide +kernel
theorem dX12_statement_143 : decode cX12_statement 143 = .ok (.invokevirtual 250, 3) := by decide +kernel
theorem dX12_statement_146 : decode cX12_statement 146 = .ok (.aload_n 0, 1) := by decide +kernel
theorem dX12_statement_147 : decode cX12_statement 147 = .ok (.bipush 40, 2) := by decide +kernel
theorem dX12_statement_149 : decode cX12_statement 149 = .ok (.invokevirtual 300, 3) := by decide +kernel
theorem dX12_statement_152 : decode cX12_statement 152 = .ok (.aload_n 0, 1) := by decide +kernel
theorem dX12_statement_153 : decode cX12_statement 153 = .ok (.getfield 56, 3) := by decide +kernel
theorem dX12_statement_156 : decode cX12_statement 156 = .ok (.iload_n 2, 1) := by decide +kernel
theorem dX12_statement_157 : decode cX12_statement 157 = .ok (.aload_n 0, 1) := by decide +kernel
theorem dX12_statement_158 : decode cX12_statement 158 = .ok (.bipush 41, 2) := by decide +kernel
theorem dX12_statement_160 : decode cX12_statement 160 = .ok (.invokevirtual 357, 3) := by decide +kernel
theorem dX12_statement_163 : decode cX12_statement 163 = .ok (.iastore, 1) := by decide +kernel
theorem dX12_statement_164 : decode cX12_statement 164 = .ok (.aload_n 0, 1) := by decide +kernel
theorem dX12_statement_165 : decode cX12_statement 165 = .ok (.bipush 41, 2) := by decide +kernel
theorem dX12_statement_167 : decode cX12_statement 167 = .ok (.invokevirtual 307, 3) := by decide +kernel
theorem dX12_statement_170 : decode cX12_statement 170 = .ok (.aload_n 0, 1) := by decide +kernel
theorem dX12_statement_171 : decode cX12_statement 171 = .ok (.bipush 59, 2) := by decide +kernel
theorem dX12_statement_173 : decode cX12_statement 173 = .ok (.invokevirtual 274, 3) := by decide +kernel
theorem dX12_statement_176 : decode cX12_statement 176 = .ok (.iload_n 2, 1) := by decide +kernel
theorem dX12_statement_177 : decode cX12_statement 177 = .ok (.ireturn, 1) := by decide +kernel
theorem dX12_statement_178 : decode cX12_statement 178 = .ok (.aload_n 0, 1) := by decide +kernel
theorem dX12_statement_179 : decode cX12_statement 179 = .ok (.bipush 59, 2) := by decide +kernel
theorem dX12_statement_181 : decode cX12_statement 181 = .ok (.invokevirtual 247, 3) := by decide +kernel
theorem dX12_statement_184 : decode cX12_statement 184 = .ok (.ifCond .eq 21, 3) := by decide +kernel
theorem dX12_statement_187 : decode cX12_statement 187 = .ok (.aload_n 0, 1) := by decide +kernel
theorem dX12_statement_188 : decode cX12_statement 188 = .ok (.iload_n 1, 1) := by decide +kernel
theorem dX12_statement_189 : decode cX12_statement 189 = .ok (.invokevirtual 293, 3) := by decide +kernel
theorem dX12_statement_192 : decode cX12_statement 192 = .ok (.aload_n 0, 1) := by decide +kernel
theorem dX12_statement_193 : decode cX12_statement 193 = .ok (.bipush 30, 2) := by decide +kernel
theorem dX12_statement_195 : decode cX12_statement 195 = .ok (.invokevirtual 330, 3) := by decide +kernel
theorem dX12_statement_198 : decode cX12_statement 198 = .ok (.istore_n 2, 1) := by decide +kernel
theorem dX12_statement_199 : decode cX12_statement 199 = .ok (.aload_n 0, 1) := by decide +kernel
theorem dX12_statement_200 : decode cX12_statement 200 = .ok (.invokevirtual 250, 3) := by decide +kernel
theorem dX12_statement_203 : decode cX12_statement 203 = .ok (.iload_n 2, 1) := by decide +kernel
theorem dX12_statement_204 : decode cX12_statement 204 = .ok (.ireturn, 1) := by decide +kernel
theorem dX12_statement_205 : decode cX12_statement 205 = .ok (.aload_n 0, 1) := by decide +kernel
theorem dX12_statement_206 : decode cX12_statement 206 = .ok (.invokevirtual 243, 3) := by decide +kernel
theorem dX12_statement_209 : decode cX12_statement 209 = .ok (.ifCond .eq 16, 3) := by decide +kernel
theorem dX12_statement_212 : decode cX12_statement 212 = .ok (.aload_n 0, 1) := by decide +kernel
theorem dX12_statement_213 : decode cX12_statement 213 = .ok (.getfield 206, 3) := by decide +kernel
theorem dX12_statement_216 : decode cX12_statement 216 = .ok (.iconst 1, 1) := by decide +kernel
theorem dX12_statement_217 : decode cX12_statement 217 = .ok (.if_icmp .ne 8, 3) := by decide +kernel
theorem dX12_statement_220 : decode cX12_statement 220 = .ok (.aload_n 0, 1) := by decide +kernel
theorem dX12_statement_221 : decode cX12_statement 221 = .ok (.invokevirtual 363, 3) := by decide +kernel
theorem dX12_statement_224 : decode cX12_statement 224 = .ok (.ireturn, 1) := by decide +kernel
theorem dX12_statement_225 : decode cX12_statement 225 = .ok (.aload_n 0, 1) := by decide +kernel
theorem dX12_statement_226 : decode cX12_statement 226 = .ok (.invokevirtual 253, 3) := by decide +kernel
theorem dX12_statement_229 : decode cX12_statement 229 = .ok (.iconst (-1), 1) := by decide +kernel
theorem dX12_statement_230 : decode cX12_statement 230 = .ok (.ireturn, 1) := by decide +kernel
theorem dX12_branch_0 : decode cX12_branch 0 = .ok (.aload_n 0, 1) := by decide +kernel
theorem dX12_branch_1 : decode cX12_branch 1 = .ok (.iconst 3, 1) := by decide +kernel
theorem dX12_branch_2 : decode cX12_branch 2 = .ok (.invokevirtual 290, 3) := by decide +kernel
theorem dX12_branch_5 : decode cX12_branch 5 = .ok (.istore_n 1, 1) := by decide +kernel
theorem dX12_branch_6 : decode cX12_branch 6 = .ok (.aload_n 0, 1) := by decide +kernel
theorem dX12_branch_7 : decode cX12_branch 7 = .ok (.getfield 199, 3) := by decide +kernel
