/-! THE LAW ITSELF, from its first look on -/
theorem dL_law_0 : decode code 0 = .ok (.iconst 1, 1) := by decide +kernel
theorem dL_law_1 : decode code 1 = .ok (.istore_n 1, 1) := by decide +kernel
theorem dL_law_2 : decode code 2 = .ok (.iconst 0, 1) := by decide +kernel
theorem dL_law_3 : decode code 3 = .ok (.istore_n 2, 1) := by decide +kernel
theorem dL_law_4 : decode code 4 = .ok (.iload_n 2, 1) := by decide +kernel
theorem dL_law_5 : decode code 5 = .ok (.aload_n 0, 1) := by decide +kernel
theorem dL_law_6 : decode code 6 = .ok (.arraylength, 1) := by decide +kernel
theorem dL_law_7 : decode code 7 = .ok (.if_icmp .ge 1385, 3) := by decide +kernel
theorem dL_law_10 : decode code 10 = .ok (.iload_n 2, 1) := by decide +kernel
theorem dL_law_11 : decode code 11 = .ok (.iconst 1, 1) := by decide +kernel
theorem dL_law_12 : decode code 12 = .ok (.if_icmp .ge 1380, 3) := by decide +kernel
theorem dL_law_15 : decode code 15 = .ok (.iload_n 1, 1) := by decide +kernel
theorem dL_law_16 : decode code 16 = .ok (.ifCond .eq 1376, 3) := by decide +kernel
theorem dL_law_19 : decode code 19 = .ok (.new 14, 3) := by decide +kernel
theorem dL_law_22 : decode code 22 = .ok (.dup, 1) := by decide +kernel
theorem dL_law_23 : decode code 23 = .ok (.invokespecial 206, 3) := by decide +kernel
theorem dL_law_26 : decode code 26 = .ok (.astore_n 3, 1) := by decide +kernel
theorem dL_law_27 : decode code 27 = .ok (.bipush 8, 2) := by decide +kernel
theorem dL_law_29 : decode code 29 = .ok (.newarray .int, 2) := by decide +kernel
theorem dL_law_31 : decode code 31 = .ok (.astore 4, 2) := by decide +kernel
theorem dL_law_33 : decode code 33 = .ok (.new 114, 3) := by decide +kernel
theorem dL_law_36 : decode code 36 = .ok (.dup, 1) := by decide +kernel
theorem dL_law_37 : decode code 37 = .ok (.aload_n 0, 1) := by decide +kernel
theorem dL_law_38 : decode code 38 = .ok (.iload_n 2, 1) := by decide +kernel
theorem dL_law_39 : decode code 39 = .ok (.iaload, 1) := by decide +kernel
theorem dL_law_40 : decode code 40 = .ok (.invokespecial 207, 3) := by decide +kernel
theorem dL_law_43 : decode code 43 = .ok (.astore 5, 2) := by decide +kernel
theorem dL_law_45 : decode code 45 = .ok (.aload_n 3, 1) := by decide +kernel
theorem dL_law_46 : decode code 46 = .ok (.new 110, 3) := by decide +kernel
theorem dL_law_49 : decode code 49 = .ok (.dup, 1) := by decide +kernel
theorem dL_law_50 : decode code 50 = .ok (.invokespecial 112, 3) := by decide +kernel
theorem dL_law_53 : decode code 53 = .ok (.invokestatic 210, 3) := by decide +kernel
theorem dL_law_56 : decode code 56 = .ok (.ifCond .eq 121, 3) := by decide +kernel
theorem dL_law_59 : decode code 59 = .ok (.aload_n 3, 1) := by decide +kernel
theorem dL_law_60 : decode code 60 = .ok (.invokevirtual 214, 3) := by decide +kernel
theorem dL_law_63 : decode code 63 = .ok (.iconst (-1), 1) := by decide +kernel
theorem dL_law_64 : decode code 64 = .ok (.if_icmp .ne 113, 3) := by decide +kernel
theorem dL_law_67 : decode code 67 = .ok (.aload_n 3, 1) := by decide +kernel
theorem dL_law_68 : decode code 68 = .ok (.invokevirtual 217, 3) := by decide +kernel
theorem dL_law_71 : decode code 71 = .ok (.iconst (-1), 1) := by decide +kernel
theorem dL_law_72 : decode code 72 = .ok (.if_icmp .ne 105, 3) := by decide +kernel
theorem dL_law_75 : decode code 75 = .ok (.aload_n 3, 1) := by decide +kernel
theorem dL_law_76 : decode code 76 = .ok (.iconst 0, 1) := by decide +kernel
theorem dL_law_77 : decode code 77 = .ok (.iconst 0, 1) := by decide +kernel
theorem dL_law_78 : decode code 78 = .ok (.invokestatic 220, 3) := by decide +kernel
theorem dL_law_81 : decode code 81 = .ok (.ldc 52, 2) := by decide +kernel
theorem dL_law_83 : decode code 83 = .ok (.if_icmp .ne 94, 3) := by decide +kernel
theorem dL_law_86 : decode code 86 = .ok (.aload_n 3, 1) := by decide +kernel
theorem dL_law_87 : decode code 87 = .ok (.iconst 1, 1) := by decide +kernel
theorem dL_law_88 : decode code 88 = .ok (.iconst 1, 1) := by decide +kernel
theorem dL_law_89 : decode code 89 = .ok (.iconst 1, 1) := by decide +kernel
theorem dL_law_90 : decode code 90 = .ok (.invokestatic 222, 3) := by decide +kernel
theorem dL_law_93 : decode code 93 = .ok (.ldc 42, 2) := by decide +kernel
theorem dL_law_95 : decode code 95 = .ok (.if_icmp .ne 82, 3) := by decide +kernel
theorem dL_law_98 : decode code 98 = .ok (.aload_n 3, 1) := by decide +kernel
theorem dL_law_99 : decode code 99 = .ok (.iconst 0, 1) := by decide +kernel
theorem dL_law_100 : decode code 100 = .ok (.iconst 1, 1) := by decide +kernel
theorem dL_law_101 : decode code 101 = .ok (.bipush 37, 2) := by decide +kernel
theorem dL_law_103 : decode code 103 = .ok (.invokestatic 222, 3) := by decide +kernel
theorem dL_law_106 : decode code 106 = .ok (.ldc 42, 2) := by decide +kernel
theorem dL_law_108 : decode code 108 = .ok (.if_icmp .ne 69, 3) := by decide +kernel
theorem dL_law_111 : decode code 111 = .ok (.aload_n 3, 1) := by decide +kernel
theorem dL_law_112 : decode code 112 = .ok (.iconst 0, 1) := by decide +kernel
theorem dL_law_113 : decode code 113 = .ok (.invokestatic 225, 3) := by decide +kernel
theorem dL_law_116 : decode code 116 = .ok (.ldc 52, 2) := by decide +kernel
theorem dL_law_118 : decode code 118 = .ok (.if_icmp .ne 59, 3) := by decide +kernel
theorem dL_law_121 : decode code 121 = .ok (.aload_n 3, 1) := by decide +kernel
theorem dL_law_122 : decode code 122 = .ok (.bipush 6, 2) := by decide +kernel
theorem dL_law_124 : decode code 124 = .ok (.iconst 0, 1) := by decide +kernel
theorem dL_law_125 : decode code 125 = .ok (.invokestatic 227, 3) := by decide +kernel
theorem dL_law_128 : decode code 128 = .ok (.ldc 42, 2) := by decide +kernel
theorem dL_law_130 : decode code 130 = .ok (.if_icmp .ne 47, 3) := by decide +kernel
theorem dL_law_133 : decode code 133 = .ok (.aload_n 3, 1) := by decide +kernel
theorem dL_law_134 : decode code 134 = .ok (.iconst 0, 1) := by decide +kernel
theorem dL_law_135 : decode code 135 = .ok (.invokestatic 229, 3) := by decide +kernel
theorem dL_law_138 : decode code 138 = .ok (.ldc 52, 2) := by decide +kernel
theorem dL_law_140 : decode code 140 = .ok (.if_icmp .ne 37, 3) := by decide +kernel
theorem dL_law_143 : decode code 143 = .ok (.aload_n 3, 1) := by decide +kernel
theorem dL_law_144 : decode code 144 = .ok (.iconst 0, 1) := by decide +kernel
theorem dL_law_145 : decode code 145 = .ok (.iconst 2, 1) := by decide +kernel
theorem dL_law_146 : decode code 146 = .ok (.bipush 18, 2) := by decide +kernel
theorem dL_law_148 : decode code 148 = .ok (.invokestatic 222, 3) := by decide +kernel
theorem dL_law_151 : decode code 151 = .ok (.iconst 1, 1) := by decide +kernel
theorem dL_law_152 : decode code 152 = .ok (.if_icmp .ne 25, 3) := by decide +kernel
theorem dL_law_155 : decode code 155 = .ok (.aload_n 3, 1) := by decide +kernel
theorem dL_law_156 : decode code 156 = .ok (.iconst 1, 1) := by decide +kernel
theorem dL_law_157 : decode code 157 = .ok (.bipush 6, 2) := by decide +kernel
theorem dL_law_159 : decode code 159 = .ok (.invokestatic 200, 3) := by decide +kernel
theorem dL_law_162 : decode code 162 = .ok (.iconst 1, 1) := by decide +kernel
theorem dL_law_163 : decode code 163 = .ok (.if_icmp .ne 14, 3) := by decide +kernel
theorem dL_law_166 : decode code 166 = .ok (.aload_n 3, 1) := by decide +kernel
theorem dL_law_167 : decode code 167 = .ok (.invokevirtual 217, 3) := by decide +kernel
theorem dL_law_170 : decode code 170 = .ok (.ifCond .ne 7, 3) := by decide +kernel
theorem dL_law_173 : decode code 173 = .ok (.iconst 1, 1) := by decide +kernel
theorem dL_law_174 : decode code 174 = .ok (.goto 4, 3) := by decide +kernel
theorem dL_law_177 : decode code 177 = .ok (.iconst 0, 1) := by decide +kernel
theorem dL_law_178 : decode code 178 = .ok (.istore_n 1, 1) := by decide +kernel
theorem dL_law_179 : decode code 179 = .ok (.aload_n 3, 1) := by decide +kernel
theorem dL_law_180 : decode code 180 = .ok (.aload 4, 2) := by decide +kernel
theorem dL_law_182 : decode code 182 = .ok (.aload 5, 2) := by decide +kernel
theorem dL_law_184 : decode code 184 = .ok (.invokestatic 231, 3) := by decide +kernel
theorem dL_law_187 : decode code 187 = .ok (.astore 6, 2) := by decide +kernel
theorem dL_law_189 : decode code 189 = .ok (.aload 6, 2) := by decide +kernel
theorem dL_law_191 : decode code 191 = .ok (.ifnonnull 5, 3) := by decide +kernel
theorem dL_law_194 : decode code 194 = .ok (.iconst 0, 1) := by decide +kernel
theorem dL_law_195 : decode code 195 = .ok (.ireturn, 1) := by decide +kernel
theorem dL_law_196 : decode code 196 = .ok (.iload_n 1, 1) := by decide +kernel
theorem dL_law_197 : decode code 197 = .ok (.ifCond .eq 16, 3) := by decide +kernel
theorem dL_law_200 : decode code 200 = .ok (.aload_n 3, 1) := by decide +kernel
theorem dL_law_201 : decode code 201 = .ok (.aload 6, 2) := by decide +kernel
theorem dL_law_203 : decode code 203 = .ok (.invokestatic 210, 3) := by decide +kernel
theorem dL_law_206 : decode code 206 = .ok (.ifCond .eq 7, 3) := by decide +kernel
theorem dL_law_209 : decode code 209 = .ok (.iconst 1, 1) := by decide +kernel
theorem dL_law_210 : decode code 210 = .ok (.goto 4, 3) := by decide +kernel
theorem dL_law_213 : decode code 213 = .ok (.iconst 0, 1) := by decide +kernel
theorem dL_law_214 : decode code 214 = .ok (.istore_n 1, 1) := by decide +kernel
theorem dL_law_215 : decode code 215 = .ok (.bipush 9, 2) := by decide +kernel
theorem dL_law_217 : decode code 217 = .ok (.anewarray 110, 3) := by decide +kernel
theorem dL_law_220 : decode code 220 = .ok (.astore 7, 2) := by decide +kernel
theorem dL_law_222 : decode code 222 = .ok (.iconst 0, 1) := by decide +kernel
theorem dL_law_223 : decode code 223 = .ok (.istore 8, 2) := by decide +kernel
theorem dL_law_225 : decode code 225 = .ok (.iconst 0, 1) := by decide +kernel
theorem dL_law_226 : decode code 226 = .ok (.istore 9, 2) := by decide +kernel
theorem dL_law_228 : decode code 228 = .ok (.iload 9, 2) := by decide +kernel
theorem dL_law_230 : decode code 230 = .ok (.bipush 14, 2) := by decide +kernel
theorem dL_law_232 : decode code 232 = .ok (.if_icmp .ge 1010, 3) := by decide +kernel
theorem dL_law_235 : decode code 235 = .ok (.iload_n 1, 1) := by decide +kernel
theorem dL_law_236 : decode code 236 = .ok (.ifCond .eq 1006, 3) := by decide +kernel
theorem dL_law_239 : decode code 239 = .ok (.aload 6, 2) := by decide +kernel
theorem dL_law_241 : decode code 241 = .ok (.invokevirtual 235, 3) := by decide +kernel
theorem dL_law_244 : decode code 244 = .ok (.astore 10, 2) := by decide +kernel
theorem dL_law_246 : decode code 246 = .ok (.iconst 1, 1) := by decide +kernel
theorem dL_law_247 : decode code 247 = .ok (.istore 11, 2) := by decide +kernel
theorem dL_law_249 : decode code 249 = .ok (.aload 5, 2) := by decide +kernel
theorem dL_law_251 : decode code 251 = .ok (.aload 6, 2) := by decide +kernel
theorem dL_law_253 : decode code 253 = .ok (.getfield 193, 3) := by decide +kernel
theorem dL_law_256 : decode code 256 = .ok (.arraylength, 1) := by decide +kernel
theorem dL_law_257 : decode code 257 = .ok (.iconst 1, 1) := by decide +kernel
theorem dL_law_258 : decode code 258 = .ok (.iadd, 1) := by decide +kernel
theorem dL_law_259 : decode code 259 = .ok (.invokevirtual 113, 3) := by decide +kernel
theorem dL_law_262 : decode code 262 = .ok (.istore 12, 2) := by decide +kernel
theorem dL_law_264 : decode code 264 = .ok (.iload 12, 2) := by decide +kernel
theorem dL_law_266 : decode code 266 = .ok (.aload 6, 2) := by decide +kernel
theorem dL_law_268 : decode code 268 = .ok (.getfield 193, 3) := by decide +kernel
theorem dL_law_271 : decode code 271 = .ok (.arraylength, 1) := by decide +kernel
theorem dL_law_272 : decode code 272 = .ok (.if_icmp .ge 7, 3) := by decide +kernel
theorem dL_law_275 : decode code 275 = .ok (.iconst 1, 1) := by decide +kernel
theorem dL_law_276 : decode code 276 = .ok (.goto 4, 3) := by decide +kernel
theorem dL_law_279 : decode code 279 = .ok (.iconst 0, 1) := by decide +kernel
theorem dL_law_280 : decode code 280 = .ok (.istore 13, 2) := by decide +kernel
theorem dL_law_282 : decode code 282 = .ok (.aload 6, 2) := by decide +kernel
theorem dL_law_284 : decode code 284 = .ok (.getfield 118, 3) := by decide +kernel
theorem dL_law_287 : decode code 287 = .ok (.aload 6, 2) := by decide +kernel
theorem dL_law_289 : decode code 289 = .ok (.getfield 125, 3) := by decide +kernel
theorem dL_law_292 : decode code 292 = .ok (.isub, 1) := by decide +kernel
theorem dL_law_293 : decode code 293 = .ok (.istore 14, 2) := by decide +kernel
theorem dL_law_295 : decode code 295 = .ok (.aload 5, 2) := by decide +kernel
theorem dL_law_297 : decode code 297 = .ok (.bipush 7, 2) := by decide +kernel
theorem dL_law_299 : decode code 299 = .ok (.invokevirtual 113, 3) := by decide +kernel
theorem dL_law_302 : decode code 302 = .ok (.tableswitch 779 0 5 #[38, 148, 244, 402, 493, 493], 38) := by decide +kernel
theorem dL_law_340 : decode code 340 = .ok (.aload 5, 2) := by decide +kernel
theorem dL_law_342 : decode code 342 = .ok (.iconst 5, 1) := by decide +kernel
theorem dL_law_343 : decode code 343 = .ok (.invokevirtual 113, 3) := by decide +kernel
theorem dL_law_346 : decode code 346 = .ok (.iconst 1, 1) := by decide +kernel
theorem dL_law_347 : decode code 347 = .ok (.isub, 1) := by decide +kernel
theorem dL_law_348 : decode code 348 = .ok (.istore 15, 2) := by decide +kernel
theorem dL_law_350 : decode code 350 = .ok (.iload 13, 2) := by decide +kernel
theorem dL_law_352 : decode code 352 = .ok (.ifCond .eq 13, 3) := by decide +kernel
theorem dL_law_355 : decode code 355 = .ok (.iload 15, 2) := by decide +kernel
theorem dL_law_357 : decode code 357 = .ok (.iconst 3, 1) := by decide +kernel
theorem dL_law_358 : decode code 358 = .ok (.if_icmp .ge 7, 3) := by decide +kernel
theorem dL_law_361 : decode code 361 = .ok (.iconst 1, 1) := by decide +kernel
theorem dL_law_362 : decode code 362 = .ok (.goto 4, 3) := by decide +kernel
theorem dL_law_365 : decode code 365 = .ok (.iconst 0, 1) := by decide +kernel
theorem dL_law_366 : decode code 366 = .ok (.istore 11, 2) := by decide +kernel
theorem dL_law_368 : decode code 368 = .ok (.iload 13, 2) := by decide +kernel
theorem dL_law_370 : decode code 370 = .ok (.ifCond .eq 17, 3) := by decide +kernel
theorem dL_law_373 : decode code 373 = .ok (.aload 6, 2) := by decide +kernel
theorem dL_law_375 : decode code 375 = .ok (.getfield 193, 3) := by decide +kernel
theorem dL_law_378 : decode code 378 = .ok (.iload 12, 2) := by decide +kernel
theorem dL_law_380 : decode code 380 = .ok (.aaload, 1) := by decide +kernel
theorem dL_law_381 : decode code 381 = .ok (.getfield 239, 3) := by decide +kernel
theorem dL_law_384 : decode code 384 = .ok (.goto 4, 3) := by decide +kernel
theorem dL_law_387 : decode code 387 = .ok (.iconst 0, 1) := by decide +kernel
theorem dL_law_388 : decode code 388 = .ok (.istore 16, 2) := by decide +kernel
theorem dL_law_390 : decode code 390 = .ok (.iload 11, 2) := by decide +kernel
theorem dL_law_392 : decode code 392 = .ok (.ifCond .eq 16, 3) := by decide +kernel
theorem dL_law_395 : decode code 395 = .ok (.aload 6, 2) := by decide +kernel
theorem dL_law_397 : decode code 397 = .ok (.getfield 193, 3) := by decide +kernel
theorem dL_law_400 : decode code 400 = .ok (.iload 12, 2) := by decide +kernel
theorem dL_law_402 : decode code 402 = .ok (.aaload, 1) := by decide +kernel
theorem dL_law_403 : decode code 403 = .ok (.iload 15, 2) := by decide +kernel
theorem dL_law_405 : decode code 405 = .ok (.putfield 239, 3) := by decide +kernel
theorem dL_law_408 : decode code 408 = .ok (.aload_n 3, 1) := by decide +kernel
theorem dL_law_409 : decode code 409 = .ok (.iload 12, 2) := by decide +kernel
theorem dL_law_411 : decode code 411 = .ok (.iload 15, 2) := by decide +kernel
theorem dL_law_413 : decode code 413 = .ok (.invokestatic 220, 3) := by decide +kernel
theorem dL_law_416 : decode code 416 = .ok (.iload 11, 2) := by decide +kernel
theorem dL_law_418 : decode code 418 = .ok (.ifCond .eq 8, 3) := by decide +kernel
theorem dL_law_421 : decode code 421 = .ok (.iload 16, 2) := by decide +kernel
theorem dL_law_423 : decode code 423 = .ok (.goto 15, 3) := by decide +kernel
theorem dL_law_426 : decode code 426 = .ok (.iload 13, 2) := by decide +kernel
theorem dL_law_428 : decode code 428 = .ok (.ifCond .eq 8, 3) := by decide +kernel
theorem dL_law_431 : decode code 431 = .ok (.ldc 42, 2) := by decide +kernel
theorem dL_law_433 : decode code 433 = .ok (.goto 5, 3) := by decide +kernel
theorem dL_law_436 : decode code 436 = .ok (.ldc 52, 2) := by decide +kernel
theorem dL_law_438 : decode code 438 = .ok (.if_icmp .ne 7, 3) := by decide +kernel
theorem dL_law_441 : decode code 441 = .ok (.iconst 1, 1) := by decide +kernel
theorem dL_law_442 : decode code 442 = .ok (.goto 4, 3) := by decide +kernel
theorem dL_law_445 : decode code 445 = .ok (.iconst 0, 1) := by decide +kernel
theorem dL_law_446 : decode code 446 = .ok (.istore_n 1, 1) := by decide +kernel
theorem dL_law_447 : decode code 447 = .ok (.goto 729, 3) := by decide +kernel
theorem dL_law_450 : decode code 450 = .ok (.aload 5, 2) := by decide +kernel
theorem dL_law_452 : decode code 452 = .ok (.iconst 2, 1) := by decide +kernel
theorem dL_law_453 : decode code 453 = .ok (.invokevirtual 113, 3) := by decide +kernel
theorem dL_law_456 : decode code 456 = .ok (.ifCond .ne 7, 3) := by decide +kernel
theorem dL_law_459 : decode code 459 = .ok (.iconst 1, 1) := by decide +kernel
theorem dL_law_460 : decode code 460 = .ok (.goto 4, 3) := by decide +kernel
theorem dL_law_463 : decode code 463 = .ok (.iconst 0, 1) := by decide +kernel
theorem dL_law_464 : decode code 464 = .ok (.istore 17, 2) := by decide +kernel
theorem dL_law_466 : decode code 466 = .ok (.iload 13, 2) := by decide +kernel
theorem dL_law_468 : decode code 468 = .ok (.istore 11, 2) := by decide +kernel
theorem dL_law_470 : decode code 470 = .ok (.iload 13, 2) := by decide +kernel
theorem dL_law_472 : decode code 472 = .ok (.ifCond .eq 21, 3) := by decide +kernel
theorem dL_law_475 : decode code 475 = .ok (.aload 6, 2) := by decide +kernel
theorem dL_law_477 : decode code 477 = .ok (.getfield 193, 3) := by decide +kernel
theorem dL_law_480 : decode code 480 = .ok (.iload 12, 2) := by decide +kernel
theorem dL_law_482 : decode code 482 = .ok (.aaload, 1) := by decide +kernel
theorem dL_law_483 : decode code 483 = .ok (.getfield 145, 3) := by decide +kernel
theorem dL_law_486 : decode code 486 = .ok (.ifCond .eq 7, 3) := by decide +kernel
theorem dL_law_489 : decode code 489 = .ok (.iconst 1, 1) := by decide +kernel
theorem dL_law_490 : decode code 490 = .ok (.goto 4, 3) := by decide +kernel
theorem dL_law_493 : decode code 493 = .ok (.iconst 0, 1) := by decide +kernel
theorem dL_law_494 : decode code 494 = .ok (.istore 18, 2) := by decide +kernel
theorem dL_law_496 : decode code 496 = .ok (.iload 13, 2) := by decide +kernel
theorem dL_law_498 : decode code 498 = .ok (.ifCond .eq 16, 3) := by decide +kernel
theorem dL_law_501 : decode code 501 = .ok (.aload 6, 2) := by decide +kernel
theorem dL_law_503 : decode code 503 = .ok (.getfield 193, 3) := by decide +kernel
theorem dL_law_506 : decode code 506 = .ok (.iload 12, 2) := by decide +kernel
theorem dL_law_508 : decode code 508 = .ok (.aaload, 1) := by decide +kernel
theorem dL_law_509 : decode code 509 = .ok (.iload 17, 2) := by decide +kernel
theorem dL_law_511 : decode code 511 = .ok (.putfield 145, 3) := by decide +kernel
theorem dL_law_514 : decode code 514 = .ok (.aload_n 3, 1) := by decide +kernel
theorem dL_law_515 : decode code 515 = .ok (.iload 12, 2) := by decide +kernel
theorem dL_law_517 : decode code 517 = .ok (.iload 17, 2) := by decide +kernel
theorem dL_law_519 : decode code 519 = .ok (.invokestatic 242, 3) := by decide +kernel
theorem dL_law_522 : decode code 522 = .ok (.iload 13, 2) := by decide +kernel
theorem dL_law_524 : decode code 524 = .ok (.ifCond .eq 8, 3) := by decide +kernel
theorem dL_law_527 : decode code 527 = .ok (.iload 18, 2) := by decide +kernel
theorem dL_law_529 : decode code 529 = .ok (.goto 5, 3) := by decide +kernel
theorem dL_law_532 : decode code 532 = .ok (.ldc 52, 2) := by decide +kernel
theorem dL_law_534 : decode code 534 = .ok (.if_icmp .ne 7, 3) := by decide +kernel
theorem dL_law_537 : decode code 537 = .ok (.iconst 1, 1) := by decide +kernel
theorem dL_law_538 : decode code 538 = .ok (.goto 4, 3) := by decide +kernel
theorem dL_law_541 : decode code 541 = .ok (.iconst 0, 1) := by decide +kernel
theorem dL_law_542 : decode code 542 = .ok (.istore_n 1, 1) := by decide +kernel
theorem dL_law_543 : decode code 543 = .ok (.goto 633, 3) := by decide +kernel
theorem dL_law_546 : decode code 546 = .ok (.aload 5, 2) := by decide +kernel
theorem dL_law_548 : decode code 548 = .ok (.iconst 5, 1) := by decide +kernel
theorem dL_law_549 : decode code 549 = .ok (.invokevirtual 113, 3) := by decide +kernel
theorem dL_law_552 : decode code 552 = .ok (.istore 19, 2) := by decide +kernel
theorem dL_law_554 : decode code 554 = .ok (.aload 5, 2) := by decide +kernel
theorem dL_law_556 : decode code 556 = .ok (.iload 14, 2) := by decide +kernel
theorem dL_law_558 : decode code 558 = .ok (.iconst 2, 1) := by decide +kernel
theorem dL_law_559 : decode code 559 = .ok (.iadd, 1) := by decide +kernel
theorem dL_law_560 : decode code 560 = .ok (.invokevirtual 113, 3) := by decide +kernel
theorem dL_law_563 : decode code 563 = .ok (.istore 20, 2) := by decide +kernel
theorem dL_law_565 : decode code 565 = .ok (.aload 6, 2) := by decide +kernel
theorem dL_law_567 : decode code 567 = .ok (.getfield 193, 3) := by decide +kernel
theorem dL_law_570 : decode code 570 = .ok (.arraylength, 1) := by decide +kernel
theorem dL_law_571 : decode code 571 = .ok (.iconst 3, 1) := by decide +kernel
theorem dL_law_572 : decode code 572 = .ok (.if_icmp .ge 24, 3) := by decide +kernel
theorem dL_law_575 : decode code 575 = .ok (.iload 19, 2) := by decide +kernel
theorem dL_law_577 : decode code 577 = .ok (.ifCond .le 19, 3) := by decide +kernel
theorem dL_law_580 : decode code 580 = .ok (.iload 20, 2) := by decide +kernel
theorem dL_law_582 : decode code 582 = .ok (.ifCond .le 14, 3) := by decide +kernel
theorem dL_law_585 : decode code 585 = .ok (.iload 20, 2) := by decide +kernel
theorem dL_law_587 : decode code 587 = .ok (.iload 14, 2) := by decide +kernel
theorem dL_law_589 : decode code 589 = .ok (.if_icmp .gt 7, 3) := by decide +kernel
theorem dL_law_592 : decode code 592 = .ok (.iconst 1, 1) := by decide +kernel
theorem dL_law_593 : decode code 593 = .ok (.goto 4, 3) := by decide +kernel
theorem dL_law_596 : decode code 596 = .ok (.iconst 0, 1) := by decide +kernel
theorem dL_law_597 : decode code 597 = .ok (.istore 11, 2) := by decide +kernel
theorem dL_law_599 : decode code 599 = .ok (.aload 6, 2) := by decide +kernel
theorem dL_law_601 : decode code 601 = .ok (.getfield 193, 3) := by decide +kernel
theorem dL_law_604 : decode code 604 = .ok (.arraylength, 1) := by decide +kernel
theorem dL_law_605 : decode code 605 = .ok (.iconst 3, 1) := by decide +kernel
theorem dL_law_606 : decode code 606 = .ok (.if_icmp .ne 6, 3) := by decide +kernel
theorem dL_law_609 : decode code 609 = .ok (.iconst 0, 1) := by decide +kernel
theorem dL_law_610 : decode code 610 = .ok (.istore 19, 2) := by decide +kernel
theorem dL_law_612 : decode code 612 = .ok (.iload 11, 2) := by decide +kernel
theorem dL_law_614 : decode code 614 = .ok (.ifCond .eq 52, 3) := by decide +kernel
theorem dL_law_617 : decode code 617 = .ok (.new 138, 3) := by decide +kernel
theorem dL_law_620 : decode code 620 = .ok (.dup, 1) := by decide +kernel
theorem dL_law_621 : decode code 621 = .ok (.invokespecial 140, 3) := by decide +kernel
theorem dL_law_624 : decode code 624 = .ok (.astore 21, 2) := by decide +kernel
theorem dL_law_626 : decode code 626 = .ok (.iconst 0, 1) := by decide +kernel
theorem dL_law_627 : decode code 627 = .ok (.istore 22, 2) := by decide +kernel
theorem dL_law_629 : decode code 629 = .ok (.iload 22, 2) := by decide +kernel
theorem dL_law_631 : decode code 631 = .ok (.iload 19, 2) := by decide +kernel
theorem dL_law_633 : decode code 633 = .ok (.if_icmp .ge 24, 3) := by decide +kernel
theorem dL_law_636 : decode code 636 = .ok (.aload 21, 2) := by decide +kernel
theorem dL_law_638 : decode code 638 = .ok (.aload 21, 2) := by decide +kernel
theorem dL_law_640 : decode code 640 = .ok (.getfield 148, 3) := by decide +kernel
theorem dL_law_643 : decode code 643 = .ok (.iload 20, 2) := by decide +kernel
theorem dL_law_645 : decode code 645 = .ok (.invokestatic 152, 3) := by decide +kernel
theorem dL_law_648 : decode code 648 = .ok (.putfield 148, 3) := by decide +kernel
theorem dL_law_651 : decode code 651 = .ok (.iinc 22 1, 3) := by decide +kernel
theorem dL_law_654 : decode code 654 = .ok (.goto (-25), 3) := by decide +kernel
theorem dL_law_657 : decode code 657 = .ok (.aload 6, 2) := by decide +kernel
theorem dL_law_659 : decode code 659 = .ok (.iload 12, 2) := by decide +kernel
theorem dL_law_661 : decode code 661 = .ok (.aload 21, 2) := by decide +kernel
theorem dL_law_663 : decode code 663 = .ok (.invokevirtual 174, 3) := by decide +kernel
theorem dL_law_666 : decode code 666 = .ok (.aload_n 3, 1) := by decide +kernel
theorem dL_law_667 : decode code 667 = .ok (.iload 12, 2) := by decide +kernel
theorem dL_law_669 : decode code 669 = .ok (.iload 19, 2) := by decide +kernel
theorem dL_law_671 : decode code 671 = .ok (.iload 20, 2) := by decide +kernel
theorem dL_law_673 : decode code 673 = .ok (.invokestatic 222, 3) := by decide +kernel
theorem dL_law_676 : decode code 676 = .ok (.iload 11, 2) := by decide +kernel
theorem dL_law_678 : decode code 678 = .ok (.ifCond .eq 12, 3) := by decide +kernel
theorem dL_law_681 : decode code 681 = .ok (.aload 6, 2) := by decide +kernel
theorem dL_law_683 : decode code 683 = .ok (.getfield 193, 3) := by decide +kernel
theorem dL_law_686 : decode code 686 = .ok (.arraylength, 1) := by decide +kernel
theorem dL_law_687 : decode code 687 = .ok (.goto 5, 3) := by decide +kernel
theorem dL_law_690 : decode code 690 = .ok (.ldc 42, 2) := by decide +kernel
theorem dL_law_692 : decode code 692 = .ok (.if_icmp .ne 7, 3) := by decide +kernel
theorem dL_law_695 : decode code 695 = .ok (.iconst 1, 1) := by decide +kernel
theorem dL_law_696 : decode code 696 = .ok (.goto 4, 3) := by decide +kernel
theorem dL_law_699 : decode code 699 = .ok (.iconst 0, 1) := by decide +kernel
theorem dL_law_700 : decode code 700 = .ok (.istore_n 1, 1) := by decide +kernel
theorem dL_law_701 : decode code 701 = .ok (.goto 475, 3) := by decide +kernel
theorem dL_law_704 : decode code 704 = .ok (.iload 13, 2) := by decide +kernel
theorem dL_law_706 : decode code 706 = .ok (.ifCond .eq 16, 3) := by decide +kernel
theorem dL_law_709 : decode code 709 = .ok (.aload 5, 2) := by decide +kernel
theorem dL_law_711 : decode code 711 = .ok (.iconst 3, 1) := by decide +kernel
theorem dL_law_712 : decode code 712 = .ok (.invokevirtual 113, 3) := by decide +kernel
theorem dL_law_715 : decode code 715 = .ok (.ifCond .ne 7, 3) := by decide +kernel
theorem dL_law_718 : decode code 718 = .ok (.iconst 1, 1) := by decide +kernel
theorem dL_law_719 : decode code 719 = .ok (.goto 4, 3) := by decide +kernel
theorem dL_law_722 : decode code 722 = .ok (.iconst 0, 1) := by decide +kernel
theorem dL_law_723 : decode code 723 = .ok (.istore 11, 2) := by decide +kernel
theorem dL_law_725 : decode code 725 = .ok (.iload 11, 2) := by decide +kernel
theorem dL_law_727 : decode code 727 = .ok (.ifCond .eq 44, 3) := by decide +kernel
theorem dL_law_730 : decode code 730 = .ok (.aload 6, 2) := by decide +kernel
theorem dL_law_732 : decode code 732 = .ok (.getfield 193, 3) := by decide +kernel
theorem dL_law_735 : decode code 735 = .ok (.iload 12, 2) := by decide +kernel
theorem dL_law_737 : decode code 737 = .ok (.aaload, 1) := by decide +kernel
theorem dL_law_738 : decode code 738 = .ok (.getfield 148, 3) := by decide +kernel
theorem dL_law_741 : decode code 741 = .ok (.arraylength, 1) := by decide +kernel
theorem dL_law_742 : decode code 742 = .ok (.istore 21, 2) := by decide +kernel
theorem dL_law_744 : decode code 744 = .ok (.aload 6, 2) := by decide +kernel
theorem dL_law_746 : decode code 746 = .ok (.iload 12, 2) := by decide +kernel
theorem dL_law_748 : decode code 748 = .ok (.invokevirtual 245, 3) := by decide +kernel
theorem dL_law_751 : decode code 751 = .ok (.aload_n 3, 1) := by decide +kernel
theorem dL_law_752 : decode code 752 = .ok (.iload 12, 2) := by decide +kernel
theorem dL_law_754 : decode code 754 = .ok (.invokestatic 225, 3) := by decide +kernel
theorem dL_law_757 : decode code 757 = .ok (.iload 21, 2) := by decide +kernel
theorem dL_law_759 : decode code 759 = .ok (.if_icmp .ne 7, 3) := by decide +kernel
theorem dL_law_762 : decode code 762 = .ok (.iconst 1, 1) := by decide +kernel
theorem dL_law_763 : decode code 763 = .ok (.goto 4, 3) := by decide +kernel
theorem dL_law_766 : decode code 766 = .ok (.iconst 0, 1) := by decide +kernel
theorem dL_law_767 : decode code 767 = .ok (.istore_n 1, 1) := by decide +kernel
theorem dL_law_768 : decode code 768 = .ok (.goto 408, 3) := by decide +kernel
theorem dL_law_771 : decode code 771 = .ok (.aload_n 3, 1) := by decide +kernel
theorem dL_law_772 : decode code 772 = .ok (.aload 6, 2) := by decide +kernel
theorem dL_law_774 : decode code 774 = .ok (.getfield 193, 3) := by decide +kernel
theorem dL_law_777 : decode code 777 = .ok (.arraylength, 1) := by decide +kernel
theorem dL_law_778 : decode code 778 = .ok (.invokestatic 225, 3) := by decide +kernel
theorem dL_law_781 : decode code 781 = .ok (.ldc 52, 2) := by decide +kernel
theorem dL_law_783 : decode code 783 = .ok (.if_icmp .ne 7, 3) := by decide +kernel
theorem dL_law_786 : decode code 786 = .ok (.iconst 1, 1) := by decide +kernel
theorem dL_law_787 : decode code 787 = .ok (.goto 4, 3) := by decide +kernel
theorem dL_law_790 : decode code 790 = .ok (.iconst 0, 1) := by decide +kernel
theorem dL_law_791 : decode code 791 = .ok (.istore_n 1, 1) := by decide +kernel
theorem dL_law_792 : decode code 792 = .ok (.goto 384, 3) := by decide +kernel
theorem dL_law_795 : decode code 795 = .ok (.iload 13, 2) := by decide +kernel
theorem dL_law_797 : decode code 797 = .ok (.ifCond .eq 18, 3) := by decide +kernel
theorem dL_law_800 : decode code 800 = .ok (.aload 6, 2) := by decide +kernel
theorem dL_law_802 : decode code 802 = .ok (.getfield 193, 3) := by decide +kernel
theorem dL_law_805 : decode code 805 = .ok (.iload 12, 2) := by decide +kernel
theorem dL_law_807 : decode code 807 = .ok (.aaload, 1) := by decide +kernel
theorem dL_law_808 : decode code 808 = .ok (.getfield 148, 3) := by decide +kernel
theorem dL_law_811 : decode code 811 = .ok (.arraylength, 1) := by decide +kernel
theorem dL_law_812 : decode code 812 = .ok (.goto 4, 3) := by decide +kernel
theorem dL_law_815 : decode code 815 = .ok (.iconst 0, 1) := by decide +kernel
theorem dL_law_816 : decode code 816 = .ok (.istore 21, 2) := by decide +kernel
theorem dL_law_818 : decode code 818 = .ok (.aload 5, 2) := by decide +kernel
theorem dL_law_820 : decode code 820 = .ok (.iload 21, 2) := by decide +kernel
theorem dL_law_822 : decode code 822 = .ok (.iconst 2, 1) := by decide +kernel
theorem dL_law_823 : decode code 823 = .ok (.iadd, 1) := by decide +kernel
theorem dL_law_824 : decode code 824 = .ok (.invokevirtual 113, 3) := by decide +kernel
theorem dL_law_827 : decode code 827 = .ok (.istore 22, 2) := by decide +kernel
theorem dL_law_829 : decode code 829 = .ok (.aload 5, 2) := by decide +kernel
theorem dL_law_831 : decode code 831 = .ok (.iload 14, 2) := by decide +kernel
theorem dL_law_833 : decode code 833 = .ok (.iconst 2, 1) := by decide +kernel
theorem dL_law_834 : decode code 834 = .ok (.iadd, 1) := by decide +kernel
theorem dL_law_835 : decode code 835 = .ok (.invokevirtual 113, 3) := by decide +kernel
theorem dL_law_838 : decode code 838 = .ok (.istore 23, 2) := by decide +kernel
theorem dL_law_840 : decode code 840 = .ok (.iload 22, 2) := by decide +kernel
theorem dL_law_842 : decode code 842 = .ok (.iload 21, 2) := by decide +kernel
theorem dL_law_844 : decode code 844 = .ok (.if_icmp .gt 26, 3) := by decide +kernel
theorem dL_law_847 : decode code 847 = .ok (.iload 23, 2) := by decide +kernel
theorem dL_law_849 : decode code 849 = .ok (.iload 14, 2) := by decide +kernel
theorem dL_law_851 : decode code 851 = .ok (.if_icmp .gt 19, 3) := by decide +kernel
theorem dL_law_854 : decode code 854 = .ok (.iload 22, 2) := by decide +kernel
theorem dL_law_856 : decode code 856 = .ok (.iload 21, 2) := by decide +kernel
theorem dL_law_858 : decode code 858 = .ok (.if_icmp .lt 8, 3) := by decide +kernel
theorem dL_law_861 : decode code 861 = .ok (.iload 23, 2) := by decide +kernel
theorem dL_law_863 : decode code 863 = .ok (.ifCond .le 7, 3) := by decide +kernel
theorem dL_law_866 : decode code 866 = .ok (.iconst 1, 1) := by decide +kernel
theorem dL_law_867 : decode code 867 = .ok (.goto 4, 3) := by decide +kernel
theorem dL_law_870 : decode code 870 = .ok (.iconst 0, 1) := by decide +kernel
theorem dL_law_871 : decode code 871 = .ok (.istore 24, 2) := by decide +kernel
theorem dL_law_873 : decode code 873 = .ok (.iload 13, 2) := by decide +kernel
theorem dL_law_875 : decode code 875 = .ok (.ifCond .eq 32, 3) := by decide +kernel
theorem dL_law_878 : decode code 878 = .ok (.iload 24, 2) := by decide +kernel
theorem dL_law_880 : decode code 880 = .ok (.ifCond .eq 27, 3) := by decide +kernel
theorem dL_law_883 : decode code 883 = .ok (.iload 23, 2) := by decide +kernel
theorem dL_law_885 : decode code 885 = .ok (.ifCond .le 12, 3) := by decide +kernel
theorem dL_law_888 : decode code 888 = .ok (.iload 22, 2) := by decide +kernel
theorem dL_law_890 : decode code 890 = .ok (.iconst 5, 1) := by decide +kernel
theorem dL_law_891 : decode code 891 = .ok (.if_icmp .ge 16, 3) := by decide +kernel
theorem dL_law_894 : decode code 894 = .ok (.goto 9, 3) := by decide +kernel
theorem dL_law_897 : decode code 897 = .ok (.iload 21, 2) := by decide +kernel
theorem dL_law_899 : decode code 899 = .ok (.iconst 1, 1) := by decide +kernel
theorem dL_law_900 : decode code 900 = .ok (.if_icmp .le 7, 3) := by decide +kernel
theorem dL_law_903 : decode code 903 = .ok (.iconst 1, 1) := by decide +kernel
theorem dL_law_904 : decode code 904 = .ok (.goto 4, 3) := by decide +kernel
theorem dL_law_907 : decode code 907 = .ok (.iconst 0, 1) := by decide +kernel
theorem dL_law_908 : decode code 908 = .ok (.istore 11, 2) := by decide +kernel
theorem dL_law_910 : decode code 910 = .ok (.iload 13, 2) := by decide +kernel
theorem dL_law_912 : decode code 912 = .ok (.ifCond .eq 25, 3) := by decide +kernel
theorem dL_law_915 : decode code 915 = .ok (.iload 24, 2) := by decide +kernel
theorem dL_law_917 : decode code 917 = .ok (.ifCond .eq 20, 3) := by decide +kernel
theorem dL_law_920 : decode code 920 = .ok (.iload 23, 2) := by decide +kernel
theorem dL_law_922 : decode code 922 = .ok (.ifCond .le 15, 3) := by decide +kernel
theorem dL_law_925 : decode code 925 = .ok (.iload 22, 2) := by decide +kernel
theorem dL_law_927 : decode code 927 = .ok (.iconst 5, 1) := by decide +kernel
theorem dL_law_928 : decode code 928 = .ok (.if_icmp .lt 9, 3) := by decide +kernel
theorem dL_law_931 : decode code 931 = .ok (.iconst 0, 1) := by decide +kernel
theorem dL_law_932 : decode code 932 = .ok (.istore 11, 2) := by decide +kernel
theorem dL_law_934 : decode code 934 = .ok (.goto 242, 3) := by decide +kernel
theorem dL_law_937 : decode code 937 = .ok (.iload 11, 2) := by decide +kernel
theorem dL_law_939 : decode code 939 = .ok (.ifCond .eq 82, 3) := by decide +kernel
theorem dL_law_942 : decode code 942 = .ok (.aload 6, 2) := by decide +kernel
theorem dL_law_944 : decode code 944 = .ok (.getfield 193, 3) := by decide +kernel
theorem dL_law_947 : decode code 947 = .ok (.iload 12, 2) := by decide +kernel
theorem dL_law_949 : decode code 949 = .ok (.aaload, 1) := by decide +kernel
theorem dL_law_950 : decode code 950 = .ok (.getfield 148, 3) := by decide +kernel
theorem dL_law_953 : decode code 953 = .ok (.astore 25, 2) := by decide +kernel
theorem dL_law_955 : decode code 955 = .ok (.iload 23, 2) := by decide +kernel
theorem dL_law_957 : decode code 957 = .ok (.ifCond .ne 15, 3) := by decide +kernel
theorem dL_law_960 : decode code 960 = .ok (.aload 25, 2) := by decide +kernel
theorem dL_law_962 : decode code 962 = .ok (.iload 22, 2) := by decide +kernel
theorem dL_law_964 : decode code 964 = .ok (.invokestatic 248, 3) := by decide +kernel
theorem dL_law_967 : decode code 967 = .ok (.astore 25, 2) := by decide +kernel
theorem dL_law_969 : decode code 969 = .ok (.goto 39, 3) := by decide +kernel
theorem dL_law_972 : decode code 972 = .ok (.iload 22, 2) := by decide +kernel
theorem dL_law_974 : decode code 974 = .ok (.iload 21, 2) := by decide +kernel
theorem dL_law_976 : decode code 976 = .ok (.if_icmp .ne 15, 3) := by decide +kernel
theorem dL_law_979 : decode code 979 = .ok (.aload 25, 2) := by decide +kernel
theorem dL_law_981 : decode code 981 = .ok (.iload 23, 2) := by decide +kernel
theorem dL_law_983 : decode code 983 = .ok (.invokestatic 152, 3) := by decide +kernel
theorem dL_law_986 : decode code 986 = .ok (.astore 25, 2) := by decide +kernel
theorem dL_law_988 : decode code 988 = .ok (.goto 20, 3) := by decide +kernel
theorem dL_law_991 : decode code 991 = .ok (.aload 25, 2) := by decide +kernel
theorem dL_law_993 : decode code 993 = .ok (.invokevirtual 251, 3) := by decide +kernel
theorem dL_law_996 : decode code 996 = .ok (.checkcast 252, 3) := by decide +kernel
theorem dL_law_999 : decode code 999 = .ok (.astore 25, 2) := by decide +kernel
theorem dL_law_1001 : decode code 1001 = .ok (.aload 25, 2) := by decide +kernel
theorem dL_law_1003 : decode code 1003 = .ok (.iload 22, 2) := by decide +kernel
theorem dL_law_1005 : decode code 1005 = .ok (.iload 23, 2) := by decide +kernel
theorem dL_law_1007 : decode code 1007 = .ok (.iastore, 1) := by decide +kernel
theorem dL_law_1008 : decode code 1008 = .ok (.aload 6, 2) := by decide +kernel
theorem dL_law_1010 : decode code 1010 = .ok (.getfield 193, 3) := by decide +kernel
theorem dL_law_1013 : decode code 1013 = .ok (.iload 12, 2) := by decide +kernel
theorem dL_law_1015 : decode code 1015 = .ok (.aaload, 1) := by decide +kernel
theorem dL_law_1016 : decode code 1016 = .ok (.aload 25, 2) := by decide +kernel
theorem dL_law_1018 : decode code 1018 = .ok (.putfield 148, 3) := by decide +kernel
theorem dL_law_1021 : decode code 1021 = .ok (.aload_n 3, 1) := by decide +kernel
theorem dL_law_1022 : decode code 1022 = .ok (.iload 12, 2) := by decide +kernel
theorem dL_law_1024 : decode code 1024 = .ok (.iload 22, 2) := by decide +kernel
theorem dL_law_1026 : decode code 1026 = .ok (.iload 23, 2) := by decide +kernel
theorem dL_law_1028 : decode code 1028 = .ok (.invokestatic 256, 3) := by decide +kernel
theorem dL_law_1031 : decode code 1031 = .ok (.iload 11, 2) := by decide +kernel
theorem dL_law_1033 : decode code 1033 = .ok (.ifCond .eq 14, 3) := by decide +kernel
theorem dL_law_1036 : decode code 1036 = .ok (.aload 6, 2) := by decide +kernel
theorem dL_law_1038 : decode code 1038 = .ok (.iload 12, 2) := by decide +kernel
theorem dL_law_1040 : decode code 1040 = .ok (.iconst 0, 1) := by decide +kernel
theorem dL_law_1041 : decode code 1041 = .ok (.invokevirtual 258, 3) := by decide +kernel
theorem dL_law_1044 : decode code 1044 = .ok (.goto 25, 3) := by decide +kernel
theorem dL_law_1047 : decode code 1047 = .ok (.iload 13, 2) := by decide +kernel
theorem dL_law_1049 : decode code 1049 = .ok (.ifCond .ne 8, 3) := by decide +kernel
theorem dL_law_1052 : decode code 1052 = .ok (.ldc 52, 2) := by decide +kernel
theorem dL_law_1054 : decode code 1054 = .ok (.goto 15, 3) := by decide +kernel
theorem dL_law_1057 : decode code 1057 = .ok (.iload 24, 2) := by decide +kernel
theorem dL_law_1059 : decode code 1059 = .ok (.ifCond .eq 8, 3) := by decide +kernel
theorem dL_law_1062 : decode code 1062 = .ok (.ldc 89, 2) := by decide +kernel
theorem dL_law_1064 : decode code 1064 = .ok (.goto 5, 3) := by decide +kernel
theorem dL_law_1067 : decode code 1067 = .ok (.ldc 42, 2) := by decide +kernel
theorem dL_law_1069 : decode code 1069 = .ok (.if_icmp .ne 7, 3) := by decide +kernel
theorem dL_law_1072 : decode code 1072 = .ok (.iconst 1, 1) := by decide +kernel
theorem dL_law_1073 : decode code 1073 = .ok (.goto 4, 3) := by decide +kernel
theorem dL_law_1076 : decode code 1076 = .ok (.iconst 0, 1) := by decide +kernel
theorem dL_law_1077 : decode code 1077 = .ok (.istore_n 1, 1) := by decide +kernel
theorem dL_law_1078 : decode code 1078 = .ok (.goto 98, 3) := by decide +kernel
theorem dL_law_1081 : decode code 1081 = .ok (.aload 5, 2) := by decide +kernel
theorem dL_law_1083 : decode code 1083 = .ok (.bipush 7, 2) := by decide +kernel
theorem dL_law_1085 : decode code 1085 = .ok (.invokevirtual 113, 3) := by decide +kernel
theorem dL_law_1088 : decode code 1088 = .ok (.istore 25, 2) := by decide +kernel
theorem dL_law_1090 : decode code 1090 = .ok (.aload 5, 2) := by decide +kernel
theorem dL_law_1092 : decode code 1092 = .ok (.bipush 40, 2) := by decide +kernel
theorem dL_law_1094 : decode code 1094 = .ok (.invokevirtual 113, 3) := by decide +kernel
theorem dL_law_1097 : decode code 1097 = .ok (.istore 26, 2) := by decide +kernel
theorem dL_law_1099 : decode code 1099 = .ok (.iload 25, 2) := by decide +kernel
theorem dL_law_1101 : decode code 1101 = .ok (.bipush 6, 2) := by decide +kernel
theorem dL_law_1103 : decode code 1103 = .ok (.if_icmp .ge 7, 3) := by decide +kernel
theorem dL_law_1106 : decode code 1106 = .ok (.iconst 1, 1) := by decide +kernel
theorem dL_law_1107 : decode code 1107 = .ok (.goto 4, 3) := by decide +kernel
theorem dL_law_1110 : decode code 1110 = .ok (.iconst 0, 1) := by decide +kernel
theorem dL_law_1111 : decode code 1111 = .ok (.istore 11, 2) := by decide +kernel
theorem dL_law_1113 : decode code 1113 = .ok (.iload 11, 2) := by decide +kernel
theorem dL_law_1115 : decode code 1115 = .ok (.ifCond .eq 14, 3) := by decide +kernel
theorem dL_law_1118 : decode code 1118 = .ok (.aload 6, 2) := by decide +kernel
theorem dL_law_1120 : decode code 1120 = .ok (.getfield 178, 3) := by decide +kernel
theorem dL_law_1123 : decode code 1123 = .ok (.iload 25, 2) := by decide +kernel
theorem dL_law_1125 : decode code 1125 = .ok (.iaload, 1) := by decide +kernel
theorem dL_law_1126 : decode code 1126 = .ok (.goto 4, 3) := by decide +kernel
theorem dL_law_1129 : decode code 1129 = .ok (.iconst 0, 1) := by decide +kernel
theorem dL_law_1130 : decode code 1130 = .ok (.istore 27, 2) := by decide +kernel
theorem dL_law_1132 : decode code 1132 = .ok (.iload 11, 2) := by decide +kernel
theorem dL_law_1134 : decode code 1134 = .ok (.ifCond .eq 13, 3) := by decide +kernel
theorem dL_law_1137 : decode code 1137 = .ok (.aload 6, 2) := by decide +kernel
theorem dL_law_1139 : decode code 1139 = .ok (.getfield 178, 3) := by decide +kernel
theorem dL_law_1142 : decode code 1142 = .ok (.iload 25, 2) := by decide +kernel
theorem dL_law_1144 : decode code 1144 = .ok (.iload 26, 2) := by decide +kernel
theorem dL_law_1146 : decode code 1146 = .ok (.iastore, 1) := by decide +kernel
theorem dL_law_1147 : decode code 1147 = .ok (.aload_n 3, 1) := by decide +kernel
theorem dL_law_1148 : decode code 1148 = .ok (.iload 25, 2) := by decide +kernel
theorem dL_law_1150 : decode code 1150 = .ok (.iload 26, 2) := by decide +kernel
theorem dL_law_1152 : decode code 1152 = .ok (.invokestatic 227, 3) := by decide +kernel
theorem dL_law_1155 : decode code 1155 = .ok (.iload 11, 2) := by decide +kernel
theorem dL_law_1157 : decode code 1157 = .ok (.ifCond .eq 8, 3) := by decide +kernel
theorem dL_law_1160 : decode code 1160 = .ok (.iload 27, 2) := by decide +kernel
theorem dL_law_1162 : decode code 1162 = .ok (.goto 5, 3) := by decide +kernel
theorem dL_law_1165 : decode code 1165 = .ok (.ldc 42, 2) := by decide +kernel
theorem dL_law_1167 : decode code 1167 = .ok (.if_icmp .ne 7, 3) := by decide +kernel
theorem dL_law_1170 : decode code 1170 = .ok (.iconst 1, 1) := by decide +kernel
theorem dL_law_1171 : decode code 1171 = .ok (.goto 4, 3) := by decide +kernel
theorem dL_law_1174 : decode code 1174 = .ok (.iconst 0, 1) := by decide +kernel
theorem dL_law_1175 : decode code 1175 = .ok (.istore_n 1, 1) := by decide +kernel
theorem dL_law_1176 : decode code 1176 = .ok (.iload 11, 2) := by decide +kernel
theorem dL_law_1178 : decode code 1178 = .ok (.ifCond .eq 39, 3) := by decide +kernel
theorem dL_law_1181 : decode code 1181 = .ok (.bipush 8, 2) := by decide +kernel
theorem dL_law_1183 : decode code 1183 = .ok (.istore 15, 2) := by decide +kernel
theorem dL_law_1185 : decode code 1185 = .ok (.iload 15, 2) := by decide +kernel
theorem dL_law_1187 : decode code 1187 = .ok (.ifCond .le 21, 3) := by decide +kernel
theorem dL_law_1190 : decode code 1190 = .ok (.aload 7, 2) := by decide +kernel
theorem dL_law_1192 : decode code 1192 = .ok (.iload 15, 2) := by decide +kernel
theorem dL_law_1194 : decode code 1194 = .ok (.aload 7, 2) := by decide +kernel
theorem dL_law_1196 : decode code 1196 = .ok (.iload 15, 2) := by decide +kernel
theorem dL_law_1198 : decode code 1198 = .ok (.iconst 1, 1) := by decide +kernel
theorem dL_law_1199 : decode code 1199 = .ok (.isub, 1) := by decide +kernel
theorem dL_law_1200 : decode code 1200 = .ok (.aaload, 1) := by decide +kernel
theorem dL_law_1201 : decode code 1201 = .ok (.aastore, 1) := by decide +kernel
theorem dL_law_1202 : decode code 1202 = .ok (.iinc 15 (-1), 3) := by decide +kernel
theorem dL_law_1205 : decode code 1205 = .ok (.goto (-20), 3) := by decide +kernel
theorem dL_law_1208 : decode code 1208 = .ok (.aload 7, 2) := by decide +kernel
theorem dL_law_1210 : decode code 1210 = .ok (.iconst 0, 1) := by decide +kernel
theorem dL_law_1211 : decode code 1211 = .ok (.aload 10, 2) := by decide +kernel
theorem dL_law_1213 : decode code 1213 = .ok (.aastore, 1) := by decide +kernel
theorem dL_law_1214 : decode code 1214 = .ok (.iinc 8 1, 3) := by decide +kernel
theorem dL_law_1217 : decode code 1217 = .ok (.iload_n 1, 1) := by decide +kernel
theorem dL_law_1218 : decode code 1218 = .ok (.ifCond .eq 16, 3) := by decide +kernel
theorem dL_law_1221 : decode code 1221 = .ok (.aload_n 3, 1) := by decide +kernel
theorem dL_law_1222 : decode code 1222 = .ok (.aload 6, 2) := by decide +kernel
theorem dL_law_1224 : decode code 1224 = .ok (.invokestatic 210, 3) := by decide +kernel
theorem dL_law_1227 : decode code 1227 = .ok (.ifCond .eq 7, 3) := by decide +kernel
theorem dL_law_1230 : decode code 1230 = .ok (.iconst 1, 1) := by decide +kernel
theorem dL_law_1231 : decode code 1231 = .ok (.goto 4, 3) := by decide +kernel
theorem dL_law_1234 : decode code 1234 = .ok (.iconst 0, 1) := by decide +kernel
theorem dL_law_1235 : decode code 1235 = .ok (.istore_n 1, 1) := by decide +kernel
theorem dL_law_1236 : decode code 1236 = .ok (.iinc 9 1, 3) := by decide +kernel
theorem dL_law_1239 : decode code 1239 = .ok (.goto (-1011), 3) := by decide +kernel
theorem dL_law_1242 : decode code 1242 = .ok (.iconst 0, 1) := by decide +kernel
theorem dL_law_1243 : decode code 1243 = .ok (.istore 9, 2) := by decide +kernel
theorem dL_law_1245 : decode code 1245 = .ok (.iload 9, 2) := by decide +kernel
theorem dL_law_1247 : decode code 1247 = .ok (.bipush 8, 2) := by decide +kernel
theorem dL_law_1249 : decode code 1249 = .ok (.if_icmp .ge 45, 3) := by decide +kernel
theorem dL_law_1252 : decode code 1252 = .ok (.iload 9, 2) := by decide +kernel
theorem dL_law_1254 : decode code 1254 = .ok (.iload 8, 2) := by decide +kernel
theorem dL_law_1256 : decode code 1256 = .ok (.if_icmp .ge 38, 3) := by decide +kernel
theorem dL_law_1259 : decode code 1259 = .ok (.iload_n 1, 1) := by decide +kernel
theorem dL_law_1260 : decode code 1260 = .ok (.ifCond .eq 34, 3) := by decide +kernel
theorem dL_law_1263 : decode code 1263 = .ok (.aload_n 3, 1) := by decide +kernel
theorem dL_law_1264 : decode code 1264 = .ok (.invokevirtual 217, 3) := by decide +kernel
theorem dL_law_1267 : decode code 1267 = .ok (.ifCond .lt 19, 3) := by decide +kernel
theorem dL_law_1270 : decode code 1270 = .ok (.aload_n 3, 1) := by decide +kernel
theorem dL_law_1271 : decode code 1271 = .ok (.aload 7, 2) := by decide +kernel
theorem dL_law_1273 : decode code 1273 = .ok (.iload 9, 2) := by decide +kernel
theorem dL_law_1275 : decode code 1275 = .ok (.aaload, 1) := by decide +kernel
theorem dL_law_1276 : decode code 1276 = .ok (.invokestatic 210, 3) := by decide +kernel
theorem dL_law_1279 : decode code 1279 = .ok (.ifCond .eq 7, 3) := by decide +kernel
theorem dL_law_1282 : decode code 1282 = .ok (.iconst 1, 1) := by decide +kernel
theorem dL_law_1283 : decode code 1283 = .ok (.goto 4, 3) := by decide +kernel
theorem dL_law_1286 : decode code 1286 = .ok (.iconst 0, 1) := by decide +kernel
theorem dL_law_1287 : decode code 1287 = .ok (.istore_n 1, 1) := by decide +kernel
theorem dL_law_1288 : decode code 1288 = .ok (.iinc 9 1, 3) := by decide +kernel
theorem dL_law_1291 : decode code 1291 = .ok (.goto (-46), 3) := by decide +kernel
theorem dL_law_1294 : decode code 1294 = .ok (.iload_n 1, 1) := by decide +kernel
theorem dL_law_1295 : decode code 1295 = .ok (.ifCond .eq 89, 3) := by decide +kernel
theorem dL_law_1298 : decode code 1298 = .ok (.aload_n 3, 1) := by decide +kernel
theorem dL_law_1299 : decode code 1299 = .ok (.iconst 1, 1) := by decide +kernel
theorem dL_law_1300 : decode code 1300 = .ok (.invokestatic 19, 3) := by decide +kernel
theorem dL_law_1303 : decode code 1303 = .ok (.ldc 42, 2) := by decide +kernel
theorem dL_law_1305 : decode code 1305 = .ok (.if_icmp .ne 79, 3) := by decide +kernel
theorem dL_law_1308 : decode code 1308 = .ok (.aload_n 3, 1) := by decide +kernel
theorem dL_law_1309 : decode code 1309 = .ok (.iconst (-1), 1) := by decide +kernel
theorem dL_law_1310 : decode code 1310 = .ok (.iconst 0, 1) := by decide +kernel
theorem dL_law_1311 : decode code 1311 = .ok (.invokestatic 261, 3) := by decide +kernel
theorem dL_law_1314 : decode code 1314 = .ok (.ldc 52, 2) := by decide +kernel
theorem dL_law_1316 : decode code 1316 = .ok (.if_icmp .ne 68, 3) := by decide +kernel
theorem dL_law_1319 : decode code 1319 = .ok (.aload_n 3, 1) := by decide +kernel
theorem dL_law_1320 : decode code 1320 = .ok (.bipush 16, 2) := by decide +kernel
theorem dL_law_1322 : decode code 1322 = .ok (.iconst 0, 1) := by decide +kernel
theorem dL_law_1323 : decode code 1323 = .ok (.iconst 0, 1) := by decide +kernel
theorem dL_law_1324 : decode code 1324 = .ok (.invokestatic 263, 3) := by decide +kernel
theorem dL_law_1327 : decode code 1327 = .ok (.ldc 52, 2) := by decide +kernel
theorem dL_law_1329 : decode code 1329 = .ok (.if_icmp .ne 55, 3) := by decide +kernel
theorem dL_law_1332 : decode code 1332 = .ok (.aload_n 3, 1) := by decide +kernel
theorem dL_law_1333 : decode code 1333 = .ok (.iconst 1, 1) := by decide +kernel
theorem dL_law_1334 : decode code 1334 = .ok (.iconst (-1), 1) := by decide +kernel
theorem dL_law_1335 : decode code 1335 = .ok (.iconst 0, 1) := by decide +kernel
theorem dL_law_1336 : decode code 1336 = .ok (.invokestatic 265, 3) := by decide +kernel
theorem dL_law_1339 : decode code 1339 = .ok (.ldc 52, 2) := by decide +kernel
theorem dL_law_1341 : decode code 1341 = .ok (.if_icmp .ne 43, 3) := by decide +kernel
theorem dL_law_1344 : decode code 1344 = .ok (.aload_n 3, 1) := by decide +kernel
theorem dL_law_1345 : decode code 1345 = .ok (.iconst 1, 1) := by decide +kernel
theorem dL_law_1346 : decode code 1346 = .ok (.iconst (-1), 1) := by decide +kernel
theorem dL_law_1347 : decode code 1347 = .ok (.iconst 0, 1) := by decide +kernel
theorem dL_law_1348 : decode code 1348 = .ok (.invokestatic 268, 3) := by decide +kernel
theorem dL_law_1351 : decode code 1351 = .ok (.ldc 52, 2) := by decide +kernel
theorem dL_law_1353 : decode code 1353 = .ok (.if_icmp .ne 31, 3) := by decide +kernel
theorem dL_law_1356 : decode code 1356 = .ok (.aload_n 3, 1) := by decide +kernel
theorem dL_law_1357 : decode code 1357 = .ok (.iconst 0, 1) := by decide +kernel
theorem dL_law_1358 : decode code 1358 = .ok (.sipush 1000, 3) := by decide +kernel
theorem dL_law_1361 : decode code 1361 = .ok (.invokestatic 227, 3) := by decide +kernel
theorem dL_law_1364 : decode code 1364 = .ok (.ldc 42, 2) := by decide +kernel
theorem dL_law_1366 : decode code 1366 = .ok (.if_icmp .ne 18, 3) := by decide +kernel
theorem dL_law_1369 : decode code 1369 = .ok (.aload_n 3, 1) := by decide +kernel
theorem dL_law_1370 : decode code 1370 = .ok (.iconst (-1), 1) := by decide +kernel
theorem dL_law_1371 : decode code 1371 = .ok (.iconst 1, 1) := by decide +kernel
theorem dL_law_1372 : decode code 1372 = .ok (.invokestatic 242, 3) := by decide +kernel
theorem dL_law_1375 : decode code 1375 = .ok (.ldc 52, 2) := by decide +kernel
theorem dL_law_1377 : decode code 1377 = .ok (.if_icmp .ne 7, 3) := by decide +kernel
theorem dL_law_1380 : decode code 1380 = .ok (.iconst 1, 1) := by decide +kernel
theorem dL_law_1381 : decode code 1381 = .ok (.goto 4, 3) := by decide +kernel
theorem dL_law_1384 : decode code 1384 = .ok (.iconst 0, 1) := by decide +kernel
theorem dL_law_1385 : decode code 1385 = .ok (.istore_n 1, 1) := by decide +kernel
theorem dL_law_1386 : decode code 1386 = .ok (.iinc 2 1, 3) := by decide +kernel
theorem dL_law_1389 : decode code 1389 = .ok (.goto (-1385), 3) := by decide +kernel
theorem dL_law_1392 : decode code 1392 = .ok (.iload_n 1, 1) := by decide +kernel
theorem dL_law_1393 : decode code 1393 = .ok (.ireturn, 1) := by decide +kernel
def wpL_law_b1385 (cB : Nat) (Post : Prop)  (S : ivS) (mu : Mu) (u : Nat) (s0 : Int32) : Prop := s0 = 1 ∧ u ≤ cB
def wpL_law_b1384 (cB : Nat) (Post : Prop)  (S : ivS) (mu : Mu) (u : Nat) : Prop := wpL_law_b1385 cB Post  S mu u (0 : Int32)
def wpL_law_b1294 (cB : Nat) (Post : Prop)  (S : ivS) (mu : Mu) (u : Nat) (v1 : Int32) : Prop := (v1 = 0 → wpL_law_b1384 cB Post  S mu u) ∧ (¬ v1 = 0 → u + 1 ≤ cB ∧ ∀ S10, S10 = (s_load S (1 : Int32)).2.2.2 → ∀ r10, r10 = an1 (s_load S (1 : Int32)) (-2000000098) → (¬ r10 = (-2000000098 : Int32) → wpL_law_b1384 cB Post  S10 mu (u + 1)) ∧ (r10 = (-2000000098 : Int32) → (u + 1) + 2 ≤ cB ∧ ∀ S11, S11 = (s_word S10 (-1 : Int32) (0 : Int32)).2.2.2 → ∀ r11, r11 = an2 (s_word S10 (-1 : Int32) (0 : Int32)) (-2000000097) (-2000000100) → (¬ r11 = (-2000000097 : Int32) → wpL_law_b1384 cB Post  S11 mu ((u + 1) + 2)) ∧ (r11 = (-2000000097 : Int32) → ((u + 1) + 2) + 2 ≤ cB ∧ ∀ S12, S12 = (s_lineLength S11 (16 : Int32) (0 : Int32) (0 : Int32)).2.2.2 → ∀ r12, r12 = an3 (s_lineLength S11 (16 : Int32) (0 : Int32) (0 : Int32)) (-2000000097) (-2000000098) (-2000000100) → (¬ r12 = (-2000000097 : Int32) → wpL_law_b1384 cB Post  S12 mu (((u + 1) + 2) + 2)) ∧ (r12 = (-2000000097 : Int32) → (((u + 1) + 2) + 2) + 2 ≤ cB ∧ ∀ S13, S13 = (s_page S12 true (-1 : Int32) (0 : Int32)).2.2.2 → ∀ r13, r13 = an2 (s_page S12 true (-1 : Int32) (0 : Int32)) (-2000000097) (-2000000098) → (¬ r13 = (-2000000097 : Int32) → wpL_law_b1384 cB Post  S13 mu ((((u + 1) + 2) + 2) + 2)) ∧ (r13 = (-2000000097 : Int32) → ((((u + 1) + 2) + 2) + 2) + 2 ≤ cB ∧ ∀ S14, S14 = (s_pageOf S13 true (-1 : Int32) (0 : Int32)).2.2.2 → ∀ r14, r14 = an2 (s_pageOf S13 true (-1 : Int32) (0 : Int32)) (-2000000097) (-2000000100) → (¬ r14 = (-2000000097 : Int32) → wpL_law_b1384 cB Post  S14 mu (((((u + 1) + 2) + 2) + 2) + 2)) ∧ (r14 = (-2000000097 : Int32) → (((((u + 1) + 2) + 2) + 2) + 2) + 1 ≤ cB ∧ ∀ S15, S15 = (s_setCost S14 (0 : Int32) (1000 : Int32)).2.2.2 → ∀ r15, r15 = an1 (s_setCost S14 (0 : Int32) (1000 : Int32)) (-2000000098) → (¬ r15 = (-2000000098 : Int32) → wpL_law_b1384 cB Post  S15 mu ((((((u + 1) + 2) + 2) + 2) + 2) + 1)) ∧ (r15 = (-2000000098 : Int32) → ((((((u + 1) + 2) + 2) + 2) + 2) + 1) + 1 ≤ cB ∧ ∀ S16, S16 = (s_begin S15 (-1 : Int32) true).2.2.2 → ∀ r16, r16 = an1 (s_begin S15 (-1 : Int32) true) (-2000000097) → (¬ r16 = (-2000000097 : Int32) → wpL_law_b1384 cB Post  S16 mu (((((((u + 1) + 2) + 2) + 2) + 2) + 1) + 1)) ∧ (r16 = (-2000000097 : Int32) → wpL_law_b1385 cB Post  S16 mu (((((((u + 1) + 2) + 2) + 2) + 2) + 1) + 1) (1 : Int32)))))))))
def wpL_law_b1287 (cB : Nat) (Post : Prop) (K1245 : ivS → Mu → Nat → Int32 → Nat → Int32 → Int32 → Prop) (S : ivS) (mu : Mu) (u : Nat) (v7 : Nat) (v8 : Int32) (v9 : Int32) (s0 : Int32) : Prop := K1245 S mu u s0 v7 v8 (v9 + (1 : Int32))
def wpL_law_b1286 (cB : Nat) (Post : Prop) (K1245 : ivS → Mu → Nat → Int32 → Nat → Int32 → Int32 → Prop) (S : ivS) (mu : Mu) (u : Nat) (v7 : Nat) (v8 : Int32) (v9 : Int32) : Prop := wpL_law_b1287 cB Post K1245 S mu u v7 v8 v9 (0 : Int32)
def wpL_law_L1245 (cB : Nat) (Post : Prop)  : Nat → ivS → Mu → Nat → Int32 → Nat → Int32 → Int32 → Prop
  | 0 => fun _ _ _ _ _ _ _ => False
  | nn1245 + 1 => fun S mu u v1 v7 v8 v9 => ((8 : Int32) ≤ v9 → wpL_law_b1294 cB Post  S mu u v1) ∧ (¬ (8 : Int32) ≤ v9 → (v8 ≤ v9 → wpL_law_b1294 cB Post  S mu u v1) ∧ (¬ v8 ≤ v9 → (v1 = 0 → wpL_law_b1294 cB Post  S mu u v1) ∧ (¬ v1 = 0 → u ≤ cB ∧ ∀ S17, S17 = (s_undo S).2.2.2 → ∀ r17, r17 = (s_undo S).2.1 → (r17 < 0 → wpL_law_b1286 cB Post (wpL_law_L1245 cB Post  nn1245) S17 mu u v7 v8 v9) ∧ (¬ r17 < 0 → ∃ n18 f18 k18, mQ mu v7 = some (3, n18, f18) ∧ v9 = nI k18 ∧ k18 < n18 ∧ n18 ≤ 1000 ∧ ∃ a18, f18 k18 = some a18 ∧ ∃ q19, u + q19 ≤ cB ∧ wpL_agrees q19 S17 mu a18 (fun r19 S19 mu19 => (r19 = 0 → wpL_law_b1286 cB Post (wpL_law_L1245 cB Post  nn1245) S19 mu19 (u + q19) v7 v8 v9) ∧ (¬ r19 = 0 → wpL_law_b1287 cB Post (wpL_law_L1245 cB Post  nn1245) S19 mu19 (u + q19) v7 v8 v9 (1 : Int32)))))))
def wpL_law_b1242 (cB : Nat) (Post : Prop)  (S : ivS) (mu : Mu) (u : Nat) (v1 : Int32) (v7 : Nat) (v8 : Int32) : Prop := ∃ m_, wpL_law_L1245 cB Post  m_ S mu u v1 v7 v8 (0 : Int32)
def wpL_law_b1235 (cB : Nat) (Post : Prop) (K228 : ivS → Mu → Nat → Int32 → Nat → Nat → Nat → Int32 → Int32 → Prop) (S : ivS) (mu : Mu) (u : Nat) (v5 : Nat) (v6 : Nat) (v7 : Nat) (v8 : Int32) (v9 : Int32) (s0 : Int32) : Prop := K228 S mu u s0 v5 v6 v7 v8 (v9 + (1 : Int32))
def wpL_law_b1234 (cB : Nat) (Post : Prop) (K228 : ivS → Mu → Nat → Int32 → Nat → Nat → Nat → Int32 → Int32 → Prop) (S : ivS) (mu : Mu) (u : Nat) (v5 : Nat) (v6 : Nat) (v7 : Nat) (v8 : Int32) (v9 : Int32) : Prop := wpL_law_b1235 cB Post K228 S mu u v5 v6 v7 v8 v9 (0 : Int32)
def wpL_law_b1217 (cB : Nat) (Post : Prop) (K228 : ivS → Mu → Nat → Int32 → Nat → Nat → Nat → Int32 → Int32 → Prop) (S : ivS) (mu : Mu) (u : Nat) (v1 : Int32) (v5 : Nat) (v6 : Nat) (v7 : Nat) (v8 : Int32) (v9 : Int32) : Prop := (v1 = 0 → wpL_law_b1234 cB Post K228 S mu u v5 v6 v7 v8 v9) ∧ (¬ v1 = 0 → ∃ q40, u + q40 ≤ cB ∧ wpL_agrees q40 S mu v6 (fun r40 S40 mu40 => (r40 = 0 → wpL_law_b1234 cB Post K228 S40 mu40 (u + q40) v5 v6 v7 v8 v9) ∧ (¬ r40 = 0 → wpL_law_b1235 cB Post K228 S40 mu40 (u + q40) v5 v6 v7 v8 v9 (1 : Int32))))
def wpL_law_L1185 (cB : Nat) (Post : Prop) (K228 : ivS → Mu → Nat → Int32 → Nat → Nat → Nat → Int32 → Int32 → Prop) : Nat → ivS → Mu → Nat → Int32 → Nat → Nat → Nat → Int32 → Int32 → Nat → Int32 → Prop
  | 0 => fun _ _ _ _ _ _ _ _ _ _ _ => False
  | nn1185 + 1 => fun S mu u v1 v5 v6 v7 v8 v9 v10 v15 => (v15 ≤ 0 → ∃ n41 f41 k41, mQ mu v7 = some (3, n41, f41) ∧ (0 : Int32) = nI k41 ∧ k41 < n41 ∧ n41 ≤ 1000 ∧ ∃ x41, mB mu v10 = some x41 ∧ ∀ mu42, mu42 = sQ mu v7 (3, n41, va_up f41 k41 (some v10)) → wpL_law_b1217 cB Post K228 S mu42 u v1 v5 v6 v7 (v8 + (1 : Int32)) v9) ∧ (¬ v15 ≤ 0 → ∃ n43 f43 k43, mQ mu v7 = some (3, n43, f43) ∧ v15 - (1 : Int32) = nI k43 ∧ k43 < n43 ∧ n43 ≤ 1000 ∧ (f43 k43 = none → ∃ n44 f44 k44, mQ mu v7 = some (3, n44, f44) ∧ v15 = nI k44 ∧ k44 < n44 ∧ n44 ≤ 1000 ∧ ∀ mu45, mu45 = sQ mu v7 (3, n44, va_up f44 k44 none) → (wpL_law_L1185 cB Post K228 nn1185) S mu45 u v1 v5 v6 v7 v8 v9 v10 (v15 + (-1 : Int32))) ∧ (∀ a43, f43 k43 = some a43 → ∃ n46 f46 k46, mQ mu v7 = some (3, n46, f46) ∧ v15 = nI k46 ∧ k46 < n46 ∧ n46 ≤ 1000 ∧ ∃ x46, mB mu a43 = some x46 ∧ ∀ mu47, mu47 = sQ mu v7 (3, n46, va_up f46 k46 (some a43)) → (wpL_law_L1185 cB Post K228 nn1185) S mu47 u v1 v5 v6 v7 v8 v9 v10 (v15 + (-1 : Int32))))
def wpL_law_b1176 (cB : Nat) (Post : Prop) (K228 : ivS → Mu → Nat → Int32 → Nat → Nat → Nat → Int32 → Int32 → Prop) (S : ivS) (mu : Mu) (u : Nat) (v1 : Int32) (v5 : Nat) (v6 : Nat) (v7 : Nat) (v8 : Int32) (v9 : Int32) (v10 : Nat) (v11 : Int32) : Prop := (v11 = 0 → wpL_law_b1217 cB Post K228 S mu u v1 v5 v6 v7 v8 v9) ∧ (¬ v11 = 0 → ∃ m_, wpL_law_L1185 cB Post K228 m_ S mu u v1 v5 v6 v7 v8 v9 v10 (8 : Int32))
def wpL_law_b446 (cB : Nat) (Post : Prop) (K228 : ivS → Mu → Nat → Int32 → Nat → Nat → Nat → Int32 → Int32 → Prop) (S : ivS) (mu : Mu) (u : Nat) (v5 : Nat) (v6 : Nat) (v7 : Nat) (v8 : Int32) (v9 : Int32) (v10 : Nat) (v11 : Int32) (s0 : Int32) : Prop := wpL_law_b1176 cB Post K228 S mu u s0 v5 v6 v7 v8 v9 v10 v11
def wpL_law_b438 (cB : Nat) (Post : Prop) (K228 : ivS → Mu → Nat → Int32 → Nat → Nat → Nat → Int32 → Int32 → Prop) (S : ivS) (mu : Mu) (u : Nat) (v5 : Nat) (v6 : Nat) (v7 : Nat) (v8 : Int32) (v9 : Int32) (v10 : Nat) (v11 : Int32) (s0 : Int32) (s1 : Int32) : Prop := (¬ s0 = s1 → wpL_law_b446 cB Post K228 S mu u v5 v6 v7 v8 v9 v10 v11 (0 : Int32)) ∧ (s0 = s1 → wpL_law_b446 cB Post K228 S mu u v5 v6 v7 v8 v9 v10 v11 (1 : Int32))
def wpL_law_b408 (cB : Nat) (Post : Prop) (K228 : ivS → Mu → Nat → Int32 → Nat → Nat → Nat → Int32 → Int32 → Prop) (S : ivS) (mu : Mu) (u : Nat) (v5 : Nat) (v6 : Nat) (v7 : Nat) (v8 : Int32) (v9 : Int32) (v10 : Nat) (v11 : Int32) (v12 : Int32) (v13 : Int32) (v15 : Int32) (v16 : Int32) : Prop := u + 2 ≤ cB ∧ ∀ S39, S39 = (s_fix S v12 v15).2.2.2 → ∀ r39, r39 = an2 (s_fix S v12 v15) (-2000000097) (-2000000098) → (v11 = 0 → (v13 = 0 → wpL_law_b438 cB Post K228 S39 mu (u + 2) v5 v6 v7 v8 v9 v10 v11 r39 (-2000000097 : Int32)) ∧ (¬ v13 = 0 → wpL_law_b438 cB Post K228 S39 mu (u + 2) v5 v6 v7 v8 v9 v10 v11 r39 (-2000000098 : Int32))) ∧ (¬ v11 = 0 → wpL_law_b438 cB Post K228 S39 mu (u + 2) v5 v6 v7 v8 v9 v10 v11 r39 v16)
def wpL_law_b388 (cB : Nat) (Post : Prop) (K228 : ivS → Mu → Nat → Int32 → Nat → Nat → Nat → Int32 → Int32 → Prop) (S : ivS) (mu : Mu) (u : Nat) (v5 : Nat) (v6 : Nat) (v7 : Nat) (v8 : Int32) (v9 : Int32) (v10 : Nat) (v11 : Int32) (v12 : Int32) (v13 : Int32) (v15 : Int32) (s0 : Int32) : Prop := (v11 = 0 → wpL_law_b408 cB Post K228 S mu u v5 v6 v7 v8 v9 v10 v11 v12 v13 v15 s0) ∧ (¬ v11 = 0 → ∃ x48, mB mu v6 = some x48 ∧ ∃ a48, x48.2.2.2.2.2.1 = some a48 ∧ ∃ n49 f49 k49, mQ mu a48 = some (2, n49, f49) ∧ v12 = nI k49 ∧ k49 < n49 ∧ n49 ≤ 1000 ∧ ∃ a49, f49 k49 = some a49 ∧ ∃ x50, mP mu a49 = some x50 ∧ ∀ mu51, mu51 = sP mu a49 (x50.1, x50.2.1, v15, x50.2.2.2) → wpL_law_b408 cB Post K228 S mu51 u v5 v6 v7 v8 v9 v10 v11 v12 v13 v15 s0)
def wpL_law_b366 (cB : Nat) (Post : Prop) (K228 : ivS → Mu → Nat → Int32 → Nat → Nat → Nat → Int32 → Int32 → Prop) (S : ivS) (mu : Mu) (u : Nat) (v5 : Nat) (v6 : Nat) (v7 : Nat) (v8 : Int32) (v9 : Int32) (v10 : Nat) (v12 : Int32) (v13 : Int32) (v15 : Int32) (s0 : Int32) : Prop := (v13 = 0 → wpL_law_b388 cB Post K228 S mu u v5 v6 v7 v8 v9 v10 s0 v12 v13 v15 (0 : Int32)) ∧ (¬ v13 = 0 → ∃ x52, mB mu v6 = some x52 ∧ ∃ a52, x52.2.2.2.2.2.1 = some a52 ∧ ∃ n53 f53 k53, mQ mu a52 = some (2, n53, f53) ∧ v12 = nI k53 ∧ k53 < n53 ∧ n53 ≤ 1000 ∧ ∃ a53, f53 k53 = some a53 ∧ ∃ x54, mP mu a53 = some x54 ∧ wpL_law_b388 cB Post K228 S mu u v5 v6 v7 v8 v9 v10 s0 v12 v13 v15 x54.2.2.1)
def wpL_law_b365 (cB : Nat) (Post : Prop) (K228 : ivS → Mu → Nat → Int32 → Nat → Nat → Nat → Int32 → Int32 → Prop) (S : ivS) (mu : Mu) (u : Nat) (v5 : Nat) (v6 : Nat) (v7 : Nat) (v8 : Int32) (v9 : Int32) (v10 : Nat) (v12 : Int32) (v13 : Int32) (v15 : Int32) : Prop := wpL_law_b366 cB Post K228 S mu u v5 v6 v7 v8 v9 v10 v12 v13 v15 (0 : Int32)
def wpL_law_b542 (cB : Nat) (Post : Prop) (K228 : ivS → Mu → Nat → Int32 → Nat → Nat → Nat → Int32 → Int32 → Prop) (S : ivS) (mu : Mu) (u : Nat) (v5 : Nat) (v6 : Nat) (v7 : Nat) (v8 : Int32) (v9 : Int32) (v10 : Nat) (v11 : Int32) (s0 : Int32) : Prop := wpL_law_b1176 cB Post K228 S mu u s0 v5 v6 v7 v8 v9 v10 v11
def wpL_law_b534 (cB : Nat) (Post : Prop) (K228 : ivS → Mu → Nat → Int32 → Nat → Nat → Nat → Int32 → Int32 → Prop) (S : ivS) (mu : Mu) (u : Nat) (v5 : Nat) (v6 : Nat) (v7 : Nat) (v8 : Int32) (v9 : Int32) (v10 : Nat) (v11 : Int32) (s0 : Int32) (s1 : Int32) : Prop := (¬ s0 = s1 → wpL_law_b542 cB Post K228 S mu u v5 v6 v7 v8 v9 v10 v11 (0 : Int32)) ∧ (s0 = s1 → wpL_law_b542 cB Post K228 S mu u v5 v6 v7 v8 v9 v10 v11 (1 : Int32))
def wpL_law_b514 (cB : Nat) (Post : Prop) (K228 : ivS → Mu → Nat → Int32 → Nat → Nat → Nat → Int32 → Int32 → Prop) (S : ivS) (mu : Mu) (u : Nat) (v5 : Nat) (v6 : Nat) (v7 : Nat) (v8 : Int32) (v9 : Int32) (v10 : Nat) (v11 : Int32) (v12 : Int32) (v13 : Int32) (v17 : Int32) (v18 : Int32) : Prop := u + 1 ≤ cB ∧ ∃ b58, v17 = bI b58 ∧ ∀ S59, S59 = (s_begin S v12 b58).2.2.2 → ∀ r59, r59 = an1 (s_begin S v12 b58) (-2000000097) → (v13 = 0 → wpL_law_b534 cB Post K228 S59 mu (u + 1) v5 v6 v7 v8 v9 v10 v11 r59 (-2000000097 : Int32)) ∧ (¬ v13 = 0 → wpL_law_b534 cB Post K228 S59 mu (u + 1) v5 v6 v7 v8 v9 v10 v11 r59 v18)
def wpL_law_b494 (cB : Nat) (Post : Prop) (K228 : ivS → Mu → Nat → Int32 → Nat → Nat → Nat → Int32 → Int32 → Prop) (S : ivS) (mu : Mu) (u : Nat) (v5 : Nat) (v6 : Nat) (v7 : Nat) (v8 : Int32) (v9 : Int32) (v10 : Nat) (v11 : Int32) (v12 : Int32) (v13 : Int32) (v17 : Int32) (s0 : Int32) : Prop := (v13 = 0 → wpL_law_b514 cB Post K228 S mu u v5 v6 v7 v8 v9 v10 v11 v12 v13 v17 s0) ∧ (¬ v13 = 0 → ∃ x60, mB mu v6 = some x60 ∧ ∃ a60, x60.2.2.2.2.2.1 = some a60 ∧ ∃ n61 f61 k61, mQ mu a60 = some (2, n61, f61) ∧ v12 = nI k61 ∧ k61 < n61 ∧ n61 ≤ 1000 ∧ ∃ a61, f61 k61 = some a61 ∧ ∃ x62, mP mu a61 = some x62 ∧ (v17 = 0 ∨ v17 = 1) ∧ ∀ mu63, mu63 = sP mu a61 (x62.1, v17, x62.2.2.1, x62.2.2.2) → wpL_law_b514 cB Post K228 S mu63 u v5 v6 v7 v8 v9 v10 v11 v12 v13 v17 s0)
def wpL_law_b493 (cB : Nat) (Post : Prop) (K228 : ivS → Mu → Nat → Int32 → Nat → Nat → Nat → Int32 → Int32 → Prop) (S : ivS) (mu : Mu) (u : Nat) (v5 : Nat) (v6 : Nat) (v7 : Nat) (v8 : Int32) (v9 : Int32) (v10 : Nat) (v11 : Int32) (v12 : Int32) (v13 : Int32) (v17 : Int32) : Prop := wpL_law_b494 cB Post K228 S mu u v5 v6 v7 v8 v9 v10 v11 v12 v13 v17 (0 : Int32)
def wpL_law_b464 (cB : Nat) (Post : Prop) (K228 : ivS → Mu → Nat → Int32 → Nat → Nat → Nat → Int32 → Int32 → Prop) (S : ivS) (mu : Mu) (u : Nat) (v5 : Nat) (v6 : Nat) (v7 : Nat) (v8 : Int32) (v9 : Int32) (v10 : Nat) (v12 : Int32) (v13 : Int32) (s0 : Int32) : Prop := (v13 = 0 → wpL_law_b493 cB Post K228 S mu u v5 v6 v7 v8 v9 v10 v13 v12 v13 s0) ∧ (¬ v13 = 0 → ∃ x64, mB mu v6 = some x64 ∧ ∃ a64, x64.2.2.2.2.2.1 = some a64 ∧ ∃ n65 f65 k65, mQ mu a64 = some (2, n65, f65) ∧ v12 = nI k65 ∧ k65 < n65 ∧ n65 ≤ 1000 ∧ ∃ a65, f65 k65 = some a65 ∧ ∃ x66, mP mu a65 = some x66 ∧ (x66.2.1 = 0 → wpL_law_b493 cB Post K228 S mu u v5 v6 v7 v8 v9 v10 v13 v12 v13 s0) ∧ (¬ x66.2.1 = 0 → wpL_law_b494 cB Post K228 S mu u v5 v6 v7 v8 v9 v10 v13 v12 v13 s0 (1 : Int32)))
def wpL_law_b700 (cB : Nat) (Post : Prop) (K228 : ivS → Mu → Nat → Int32 → Nat → Nat → Nat → Int32 → Int32 → Prop) (S : ivS) (mu : Mu) (u : Nat) (v5 : Nat) (v6 : Nat) (v7 : Nat) (v8 : Int32) (v9 : Int32) (v10 : Nat) (v11 : Int32) (s0 : Int32) : Prop := wpL_law_b1176 cB Post K228 S mu u s0 v5 v6 v7 v8 v9 v10 v11
def wpL_law_b692 (cB : Nat) (Post : Prop) (K228 : ivS → Mu → Nat → Int32 → Nat → Nat → Nat → Int32 → Int32 → Prop) (S : ivS) (mu : Mu) (u : Nat) (v5 : Nat) (v6 : Nat) (v7 : Nat) (v8 : Int32) (v9 : Int32) (v10 : Nat) (v11 : Int32) (s0 : Int32) (s1 : Int32) : Prop := (¬ s0 = s1 → wpL_law_b700 cB Post K228 S mu u v5 v6 v7 v8 v9 v10 v11 (0 : Int32)) ∧ (s0 = s1 → wpL_law_b700 cB Post K228 S mu u v5 v6 v7 v8 v9 v10 v11 (1 : Int32))
def wpL_law_b666 (cB : Nat) (Post : Prop) (K228 : ivS → Mu → Nat → Int32 → Nat → Nat → Nat → Int32 → Int32 → Prop) (S : ivS) (mu : Mu) (u : Nat) (v5 : Nat) (v6 : Nat) (v7 : Nat) (v8 : Int32) (v9 : Int32) (v10 : Nat) (v11 : Int32) (v12 : Int32) (v19 : Int32) (v20 : Int32) : Prop := u + 1 ≤ cB ∧ ∀ S77, S77 = (s_insert S v12 v19 v20).2.2.2 → ∀ r77, r77 = an2 (s_insert S v12 v19 v20) (-2000000098) (-2000000099) → (v11 = 0 → wpL_law_b692 cB Post K228 S77 mu (u + 1) v5 v6 v7 v8 v9 v10 v11 r77 (-2000000098 : Int32)) ∧ (¬ v11 = 0 → ∃ x78, mB mu v6 = some x78 ∧ ∃ a78, x78.2.2.2.2.2.1 = some a78 ∧ ∃ n79 f79, mQ mu a78 = some (2, n79, f79) ∧ wpL_law_b692 cB Post K228 S77 mu (u + 1) v5 v6 v7 v8 v9 v10 v11 r77 (nI n79))
def wpL_law_L629 (cB : Nat) (Post : Prop) (K228 : ivS → Mu → Nat → Int32 → Nat → Nat → Nat → Int32 → Int32 → Prop) : Nat → ivS → Mu → Nat → Nat → Nat → Nat → Int32 → Int32 → Nat → Int32 → Int32 → Int32 → Int32 → Nat → Int32 → Prop
  | 0 => fun _ _ _ _ _ _ _ _ _ _ _ _ _ _ _ => False
  | nn629 + 1 => fun S mu u v5 v6 v7 v8 v9 v10 v11 v12 v19 v20 v21 v22 => (v19 ≤ v22 → ∃ x85, mB mu v6 = some x85 ∧ ∃ q87, u + q87 ≤ cB ∧ wpX7_adds q87 mu v6 v12 v21 (fun mu88 => wpL_law_b666 cB Post K228 S mu88 (u + q87) v5 v6 v7 v8 v9 v10 v11 v12 v19 v20)) ∧ (¬ v19 ≤ v22 → ∃ x89, mP mu v21 = some x89 ∧ ∃ a89, x89.2.2.2 = some a89 ∧ ∃ q91, u + q91 ≤ cB ∧ wpL_with q91 mu a89 v20 (fun r90 mu92 => ∃ x93, mP mu92 v21 = some x93 ∧ ∀ mu94, mu94 = sP mu92 v21 (x93.1, x93.2.1, x93.2.2.1, some r90) → (wpL_law_L629 cB Post K228 nn629) S mu94 (u + q91) v5 v6 v7 v8 v9 v10 v11 v12 v19 v20 v21 (v22 + (1 : Int32))))
def wpL_law_b612 (cB : Nat) (Post : Prop) (K228 : ivS → Mu → Nat → Int32 → Nat → Nat → Nat → Int32 → Int32 → Prop) (S : ivS) (mu : Mu) (u : Nat) (v5 : Nat) (v6 : Nat) (v7 : Nat) (v8 : Int32) (v9 : Int32) (v10 : Nat) (v11 : Int32) (v12 : Int32) (v19 : Int32) (v20 : Int32) : Prop := (v11 = 0 → wpL_law_b666 cB Post K228 S mu u v5 v6 v7 v8 v9 v10 v11 v12 v19 v20) ∧ (¬ v11 = 0 → u + 1 ≤ cB ∧ ∀ a80, frM mu a80 → ∀ mu81, mu81 = sP mu a80 (0, 0, 0, none) → ∃ q83, (u + 1) + q83 ≤ cB ∧ wpX8_init q83 mu81 a80 (fun mu84 => ∃ m_, wpL_law_L629 cB Post K228 m_ S mu84 ((u + 1) + q83) v5 v6 v7 v8 v9 v10 v11 v12 v19 v20 a80 (0 : Int32)))
def wpL_law_b597 (cB : Nat) (Post : Prop) (K228 : ivS → Mu → Nat → Int32 → Nat → Nat → Nat → Int32 → Int32 → Prop) (S : ivS) (mu : Mu) (u : Nat) (v5 : Nat) (v6 : Nat) (v7 : Nat) (v8 : Int32) (v9 : Int32) (v10 : Nat) (v12 : Int32) (v19 : Int32) (v20 : Int32) (s0 : Int32) : Prop := ∃ x75, mB mu v6 = some x75 ∧ ∃ a75, x75.2.2.2.2.2.1 = some a75 ∧ ∃ n76 f76, mQ mu a75 = some (2, n76, f76) ∧ (¬ (nI n76) = (3 : Int32) → wpL_law_b612 cB Post K228 S mu u v5 v6 v7 v8 v9 v10 s0 v12 v19 v20) ∧ ((nI n76) = (3 : Int32) → wpL_law_b612 cB Post K228 S mu u v5 v6 v7 v8 v9 v10 s0 v12 (0 : Int32) v20)
def wpL_law_b596 (cB : Nat) (Post : Prop) (K228 : ivS → Mu → Nat → Int32 → Nat → Nat → Nat → Int32 → Int32 → Prop) (S : ivS) (mu : Mu) (u : Nat) (v5 : Nat) (v6 : Nat) (v7 : Nat) (v8 : Int32) (v9 : Int32) (v10 : Nat) (v12 : Int32) (v19 : Int32) (v20 : Int32) : Prop := wpL_law_b597 cB Post K228 S mu u v5 v6 v7 v8 v9 v10 v12 v19 v20 (0 : Int32)
def wpL_law_b791 (cB : Nat) (Post : Prop) (K228 : ivS → Mu → Nat → Int32 → Nat → Nat → Nat → Int32 → Int32 → Prop) (S : ivS) (mu : Mu) (u : Nat) (v5 : Nat) (v6 : Nat) (v7 : Nat) (v8 : Int32) (v9 : Int32) (v10 : Nat) (v11 : Int32) (s0 : Int32) : Prop := wpL_law_b1176 cB Post K228 S mu u s0 v5 v6 v7 v8 v9 v10 v11
def wpL_law_b767 (cB : Nat) (Post : Prop) (K228 : ivS → Mu → Nat → Int32 → Nat → Nat → Nat → Int32 → Int32 → Prop) (S : ivS) (mu : Mu) (u : Nat) (v5 : Nat) (v6 : Nat) (v7 : Nat) (v8 : Int32) (v9 : Int32) (v10 : Nat) (v11 : Int32) (s0 : Int32) : Prop := wpL_law_b1176 cB Post K228 S mu u s0 v5 v6 v7 v8 v9 v10 v11
def wpL_law_b723 (cB : Nat) (Post : Prop) (K228 : ivS → Mu → Nat → Int32 → Nat → Nat → Nat → Int32 → Int32 → Prop) (S : ivS) (mu : Mu) (u : Nat) (v5 : Nat) (v6 : Nat) (v7 : Nat) (v8 : Int32) (v9 : Int32) (v10 : Nat) (v12 : Int32) (s0 : Int32) : Prop := (s0 = 0 → ∃ x95, mB mu v6 = some x95 ∧ ∃ a95, x95.2.2.2.2.2.1 = some a95 ∧ ∃ n96 f96, mQ mu a95 = some (2, n96, f96) ∧ u + 1 ≤ cB ∧ ∀ S97, S97 = (s_remove S (nI n96)).2.2.2 → ∀ r97, r97 = an1 (s_remove S (nI n96)) (-2000000097) → (¬ r97 = (-2000000097 : Int32) → wpL_law_b791 cB Post K228 S97 mu (u + 1) v5 v6 v7 v8 v9 v10 s0 (0 : Int32)) ∧ (r97 = (-2000000097 : Int32) → wpL_law_b791 cB Post K228 S97 mu (u + 1) v5 v6 v7 v8 v9 v10 s0 (1 : Int32))) ∧ (¬ s0 = 0 → ∃ x98, mB mu v6 = some x98 ∧ ∃ a98, x98.2.2.2.2.2.1 = some a98 ∧ ∃ n99 f99 k99, mQ mu a98 = some (2, n99, f99) ∧ v12 = nI k99 ∧ k99 < n99 ∧ n99 ≤ 1000 ∧ ∃ a99, f99 k99 = some a99 ∧ ∃ x100, mP mu a99 = some x100 ∧ ∃ a100, x100.2.2.2 = some a100 ∧ ∃ n101 f101, mI mu a100 = some (n101, f101) ∧ ∃ x102, mB mu v6 = some x102 ∧ ∃ q104, u + q104 ≤ cB ∧ wpX7_drops q104 mu v6 v12 (fun mu105 => (u + q104) + 1 ≤ cB ∧ ∀ S106, S106 = (s_remove S v12).2.2.2 → ∀ r106, r106 = an1 (s_remove S v12) (-2000000097) → (¬ r106 = (nI n101) → wpL_law_b767 cB Post K228 S106 mu105 ((u + q104) + 1) v5 v6 v7 v8 v9 v10 s0 (0 : Int32)) ∧ (r106 = (nI n101) → wpL_law_b767 cB Post K228 S106 mu105 ((u + q104) + 1) v5 v6 v7 v8 v9 v10 s0 (1 : Int32))))
def wpL_law_b722 (cB : Nat) (Post : Prop) (K228 : ivS → Mu → Nat → Int32 → Nat → Nat → Nat → Int32 → Int32 → Prop) (S : ivS) (mu : Mu) (u : Nat) (v5 : Nat) (v6 : Nat) (v7 : Nat) (v8 : Int32) (v9 : Int32) (v10 : Nat) (v12 : Int32) : Prop := wpL_law_b723 cB Post K228 S mu u v5 v6 v7 v8 v9 v10 v12 (0 : Int32)
def wpL_law_b1077 (cB : Nat) (Post : Prop) (K228 : ivS → Mu → Nat → Int32 → Nat → Nat → Nat → Int32 → Int32 → Prop) (S : ivS) (mu : Mu) (u : Nat) (v5 : Nat) (v6 : Nat) (v7 : Nat) (v8 : Int32) (v9 : Int32) (v10 : Nat) (v11 : Int32) (s0 : Int32) : Prop := wpL_law_b1176 cB Post K228 S mu u s0 v5 v6 v7 v8 v9 v10 v11
def wpL_law_b1069 (cB : Nat) (Post : Prop) (K228 : ivS → Mu → Nat → Int32 → Nat → Nat → Nat → Int32 → Int32 → Prop) (S : ivS) (mu : Mu) (u : Nat) (v5 : Nat) (v6 : Nat) (v7 : Nat) (v8 : Int32) (v9 : Int32) (v10 : Nat) (v11 : Int32) (s0 : Int32) (s1 : Int32) : Prop := (¬ s0 = s1 → wpL_law_b1077 cB Post K228 S mu u v5 v6 v7 v8 v9 v10 v11 (0 : Int32)) ∧ (s0 = s1 → wpL_law_b1077 cB Post K228 S mu u v5 v6 v7 v8 v9 v10 v11 (1 : Int32))
def wpL_law_b1021 (cB : Nat) (Post : Prop) (K228 : ivS → Mu → Nat → Int32 → Nat → Nat → Nat → Int32 → Int32 → Prop) (S : ivS) (mu : Mu) (u : Nat) (v5 : Nat) (v6 : Nat) (v7 : Nat) (v8 : Int32) (v9 : Int32) (v10 : Nat) (v11 : Int32) (v12 : Int32) (v13 : Int32) (v22 : Int32) (v23 : Int32) (v24 : Int32) : Prop := u + 2 ≤ cB ∧ ∀ S116, S116 = (s_retouch S v12 v22 v23).2.2.2 → ∀ r116, r116 = an3 (s_retouch S v12 v22 v23) (-2000000097) (-2000000098) (-2000000099) → (v11 = 0 → (¬ v13 = 0 → (v24 = 0 → wpL_law_b1069 cB Post K228 S116 mu (u + 2) v5 v6 v7 v8 v9 v10 v11 r116 (-2000000098 : Int32)) ∧ (¬ v24 = 0 → wpL_law_b1069 cB Post K228 S116 mu (u + 2) v5 v6 v7 v8 v9 v10 v11 r116 (-2000000099 : Int32))) ∧ (v13 = 0 → wpL_law_b1069 cB Post K228 S116 mu (u + 2) v5 v6 v7 v8 v9 v10 v11 r116 (-2000000097 : Int32))) ∧ (¬ v11 = 0 → ∃ x117, mB mu v6 = some x117 ∧ (u + 2) ≤ cB ∧ wpX7_many mu v6 v12 (0 : Int32) (fun r118 => wpL_law_b1069 cB Post K228 S116 mu (u + 2) v5 v6 v7 v8 v9 v10 v11 r116 r118))
def wpL_law_b1008 (cB : Nat) (Post : Prop) (K228 : ivS → Mu → Nat → Int32 → Nat → Nat → Nat → Int32 → Int32 → Prop) (S : ivS) (mu : Mu) (u : Nat) (v5 : Nat) (v6 : Nat) (v7 : Nat) (v8 : Int32) (v9 : Int32) (v10 : Nat) (v11 : Int32) (v12 : Int32) (v13 : Int32) (v22 : Int32) (v23 : Int32) (v24 : Int32) (v25 : Nat) : Prop := ∃ x126, mB mu v6 = some x126 ∧ ∃ a126, x126.2.2.2.2.2.1 = some a126 ∧ ∃ n127 f127 k127, mQ mu a126 = some (2, n127, f127) ∧ v12 = nI k127 ∧ k127 < n127 ∧ n127 ≤ 1000 ∧ ∃ a127, f127 k127 = some a127 ∧ ∃ x128, mP mu a127 = some x128 ∧ ∀ mu129, mu129 = sP mu a127 (x128.1, x128.2.1, x128.2.2.1, some v25) → wpL_law_b1021 cB Post K228 S mu129 u v5 v6 v7 v8 v9 v10 v11 v12 v13 v22 v23 v24
def wpL_law_b937 (cB : Nat) (Post : Prop) (K228 : ivS → Mu → Nat → Int32 → Nat → Nat → Nat → Int32 → Int32 → Prop) (S : ivS) (mu : Mu) (u : Nat) (v5 : Nat) (v6 : Nat) (v7 : Nat) (v8 : Int32) (v9 : Int32) (v10 : Nat) (v11 : Int32) (v12 : Int32) (v13 : Int32) (v21 : Int32) (v22 : Int32) (v23 : Int32) (v24 : Int32) : Prop := (v11 = 0 → wpL_law_b1021 cB Post K228 S mu u v5 v6 v7 v8 v9 v10 v11 v12 v13 v22 v23 v24) ∧ (¬ v11 = 0 → ∃ x119, mB mu v6 = some x119 ∧ ∃ a119, x119.2.2.2.2.2.1 = some a119 ∧ ∃ n120 f120 k120, mQ mu a119 = some (2, n120, f120) ∧ v12 = nI k120 ∧ k120 < n120 ∧ n120 ≤ 1000 ∧ ∃ a120, f120 k120 = some a120 ∧ ∃ x121, mP mu a120 = some x121 ∧ ∃ a121, x121.2.2.2 = some a121 ∧ (¬ v23 = 0 → (¬ v22 = v21 → ∃ n122 f122, mI mu a121 = some (n122, f122) ∧ n122 ≤ 1000 ∧ u + (1 + n122 / 16) ≤ cB ∧ ∀ a122, frM mu a122 → ∀ mu123, mu123 = sI mu a122 (n122, f122) → ∃ n124 f124 k124, mI mu123 a122 = some (n124, f124) ∧ v22 = nI k124 ∧ k124 < n124 ∧ n124 ≤ 1000 ∧ ∀ mu125, mu125 = sI mu123 a122 (n124, upd f124 k124 v23) → wpL_law_b1008 cB Post K228 S mu125 (u + (1 + n122 / 16)) v5 v6 v7 v8 v9 v10 v11 v12 v13 v22 v23 v24 a122) ∧ (v22 = v21 → ∃ q131, u + q131 ≤ cB ∧ wpL_with q131 mu a121 v23 (fun r130 mu132 => wpL_law_b1008 cB Post K228 S mu132 (u + q131) v5 v6 v7 v8 v9 v10 v11 v12 v13 v22 v23 v24 r130))) ∧ (v23 = 0 → ∃ q134, u + q134 ≤ cB ∧ wpL_without q134 mu a121 v22 (fun r133 mu135 => wpL_law_b1008 cB Post K228 S mu135 (u + q134) v5 v6 v7 v8 v9 v10 v11 v12 v13 v22 v23 v24 r133)))
def wpL_law_b908 (cB : Nat) (Post : Prop) (K228 : ivS → Mu → Nat → Int32 → Nat → Nat → Nat → Int32 → Int32 → Prop) (S : ivS) (mu : Mu) (u : Nat) (v1 : Int32) (v5 : Nat) (v6 : Nat) (v7 : Nat) (v8 : Int32) (v9 : Int32) (v10 : Nat) (v12 : Int32) (v13 : Int32) (v21 : Int32) (v22 : Int32) (v23 : Int32) (v24 : Int32) (s0 : Int32) : Prop := (v13 = 0 → wpL_law_b937 cB Post K228 S mu u v5 v6 v7 v8 v9 v10 s0 v12 v13 v21 v22 v23 v24) ∧ (¬ v13 = 0 → (v24 = 0 → wpL_law_b937 cB Post K228 S mu u v5 v6 v7 v8 v9 v10 s0 v12 v13 v21 v22 v23 v24) ∧ (¬ v24 = 0 → (v23 ≤ 0 → wpL_law_b937 cB Post K228 S mu u v5 v6 v7 v8 v9 v10 s0 v12 v13 v21 v22 v23 v24) ∧ (¬ v23 ≤ 0 → (v22 < (5 : Int32) → wpL_law_b937 cB Post K228 S mu u v5 v6 v7 v8 v9 v10 s0 v12 v13 v21 v22 v23 v24) ∧ (¬ v22 < (5 : Int32) → wpL_law_b1176 cB Post K228 S mu u v1 v5 v6 v7 v8 v9 v10 (0 : Int32)))))
def wpL_law_b907 (cB : Nat) (Post : Prop) (K228 : ivS → Mu → Nat → Int32 → Nat → Nat → Nat → Int32 → Int32 → Prop) (S : ivS) (mu : Mu) (u : Nat) (v1 : Int32) (v5 : Nat) (v6 : Nat) (v7 : Nat) (v8 : Int32) (v9 : Int32) (v10 : Nat) (v12 : Int32) (v13 : Int32) (v21 : Int32) (v22 : Int32) (v23 : Int32) (v24 : Int32) : Prop := wpL_law_b908 cB Post K228 S mu u v1 v5 v6 v7 v8 v9 v10 v12 v13 v21 v22 v23 v24 (0 : Int32)
def wpL_law_b903 (cB : Nat) (Post : Prop) (K228 : ivS → Mu → Nat → Int32 → Nat → Nat → Nat → Int32 → Int32 → Prop) (S : ivS) (mu : Mu) (u : Nat) (v1 : Int32) (v5 : Nat) (v6 : Nat) (v7 : Nat) (v8 : Int32) (v9 : Int32) (v10 : Nat) (v12 : Int32) (v13 : Int32) (v21 : Int32) (v22 : Int32) (v23 : Int32) (v24 : Int32) : Prop := wpL_law_b908 cB Post K228 S mu u v1 v5 v6 v7 v8 v9 v10 v12 v13 v21 v22 v23 v24 (1 : Int32)
def wpL_law_b871 (cB : Nat) (Post : Prop) (K228 : ivS → Mu → Nat → Int32 → Nat → Nat → Nat → Int32 → Int32 → Prop) (S : ivS) (mu : Mu) (u : Nat) (v1 : Int32) (v5 : Nat) (v6 : Nat) (v7 : Nat) (v8 : Int32) (v9 : Int32) (v10 : Nat) (v12 : Int32) (v13 : Int32) (v21 : Int32) (v22 : Int32) (v23 : Int32) (s0 : Int32) : Prop := (v13 = 0 → wpL_law_b907 cB Post K228 S mu u v1 v5 v6 v7 v8 v9 v10 v12 v13 v21 v22 v23 s0) ∧ (¬ v13 = 0 → (s0 = 0 → wpL_law_b907 cB Post K228 S mu u v1 v5 v6 v7 v8 v9 v10 v12 v13 v21 v22 v23 s0) ∧ (¬ s0 = 0 → (v23 ≤ 0 → (v21 ≤ (1 : Int32) → wpL_law_b907 cB Post K228 S mu u v1 v5 v6 v7 v8 v9 v10 v12 v13 v21 v22 v23 s0) ∧ (¬ v21 ≤ (1 : Int32) → wpL_law_b903 cB Post K228 S mu u v1 v5 v6 v7 v8 v9 v10 v12 v13 v21 v22 v23 s0)) ∧ (¬ v23 ≤ 0 → ((5 : Int32) ≤ v22 → wpL_law_b907 cB Post K228 S mu u v1 v5 v6 v7 v8 v9 v10 v12 v13 v21 v22 v23 s0) ∧ (¬ (5 : Int32) ≤ v22 → wpL_law_b903 cB Post K228 S mu u v1 v5 v6 v7 v8 v9 v10 v12 v13 v21 v22 v23 s0))))
def wpL_law_b870 (cB : Nat) (Post : Prop) (K228 : ivS → Mu → Nat → Int32 → Nat → Nat → Nat → Int32 → Int32 → Prop) (S : ivS) (mu : Mu) (u : Nat) (v1 : Int32) (v5 : Nat) (v6 : Nat) (v7 : Nat) (v8 : Int32) (v9 : Int32) (v10 : Nat) (v12 : Int32) (v13 : Int32) (v21 : Int32) (v22 : Int32) (v23 : Int32) : Prop := wpL_law_b871 cB Post K228 S mu u v1 v5 v6 v7 v8 v9 v10 v12 v13 v21 v22 v23 (0 : Int32)
def wpL_law_b866 (cB : Nat) (Post : Prop) (K228 : ivS → Mu → Nat → Int32 → Nat → Nat → Nat → Int32 → Int32 → Prop) (S : ivS) (mu : Mu) (u : Nat) (v1 : Int32) (v5 : Nat) (v6 : Nat) (v7 : Nat) (v8 : Int32) (v9 : Int32) (v10 : Nat) (v12 : Int32) (v13 : Int32) (v21 : Int32) (v22 : Int32) (v23 : Int32) : Prop := wpL_law_b871 cB Post K228 S mu u v1 v5 v6 v7 v8 v9 v10 v12 v13 v21 v22 v23 (1 : Int32)
def wpL_law_b816 (cB : Nat) (Post : Prop) (K228 : ivS → Mu → Nat → Int32 → Nat → Nat → Nat → Int32 → Int32 → Prop) (S : ivS) (mu : Mu) (u : Nat) (v1 : Int32) (v5 : Nat) (v6 : Nat) (v7 : Nat) (v8 : Int32) (v9 : Int32) (v10 : Nat) (v12 : Int32) (v13 : Int32) (v14 : Int32) (s0 : Int32) : Prop := ∃ x110, mR mu v5 = some x110 ∧ u ≤ cB ∧ wpX10_below mu v5 (s0 + (2 : Int32)) (fun r111 mu112 => ∃ x113, mR mu112 v5 = some x113 ∧ u ≤ cB ∧ wpX10_below mu112 v5 (v14 + (2 : Int32)) (fun r114 mu115 => (s0 < r111 → wpL_law_b870 cB Post K228 S mu115 u v1 v5 v6 v7 v8 v9 v10 v12 v13 s0 r111 r114) ∧ (¬ s0 < r111 → (v14 < r114 → wpL_law_b870 cB Post K228 S mu115 u v1 v5 v6 v7 v8 v9 v10 v12 v13 s0 r111 r114) ∧ (¬ v14 < r114 → (r111 < s0 → wpL_law_b866 cB Post K228 S mu115 u v1 v5 v6 v7 v8 v9 v10 v12 v13 s0 r111 r114) ∧ (¬ r111 < s0 → (r114 ≤ 0 → wpL_law_b870 cB Post K228 S mu115 u v1 v5 v6 v7 v8 v9 v10 v12 v13 s0 r111 r114) ∧ (¬ r114 ≤ 0 → wpL_law_b866 cB Post K228 S mu115 u v1 v5 v6 v7 v8 v9 v10 v12 v13 s0 r111 r114))))))
def wpL_law_b1175 (cB : Nat) (Post : Prop) (K228 : ivS → Mu → Nat → Int32 → Nat → Nat → Nat → Int32 → Int32 → Prop) (S : ivS) (mu : Mu) (u : Nat) (v5 : Nat) (v6 : Nat) (v7 : Nat) (v8 : Int32) (v9 : Int32) (v10 : Nat) (v11 : Int32) (s0 : Int32) : Prop := wpL_law_b1176 cB Post K228 S mu u s0 v5 v6 v7 v8 v9 v10 v11
def wpL_law_b1167 (cB : Nat) (Post : Prop) (K228 : ivS → Mu → Nat → Int32 → Nat → Nat → Nat → Int32 → Int32 → Prop) (S : ivS) (mu : Mu) (u : Nat) (v5 : Nat) (v6 : Nat) (v7 : Nat) (v8 : Int32) (v9 : Int32) (v10 : Nat) (v11 : Int32) (s0 : Int32) (s1 : Int32) : Prop := (¬ s0 = s1 → wpL_law_b1175 cB Post K228 S mu u v5 v6 v7 v8 v9 v10 v11 (0 : Int32)) ∧ (s0 = s1 → wpL_law_b1175 cB Post K228 S mu u v5 v6 v7 v8 v9 v10 v11 (1 : Int32))
def wpL_law_b1147 (cB : Nat) (Post : Prop) (K228 : ivS → Mu → Nat → Int32 → Nat → Nat → Nat → Int32 → Int32 → Prop) (S : ivS) (mu : Mu) (u : Nat) (v5 : Nat) (v6 : Nat) (v7 : Nat) (v8 : Int32) (v9 : Int32) (v10 : Nat) (v11 : Int32) (v25 : Int32) (v26 : Int32) (v27 : Int32) : Prop := u + 1 ≤ cB ∧ ∀ S150, S150 = (s_setCost S v25 v26).2.2.2 → ∀ r150, r150 = an1 (s_setCost S v25 v26) (-2000000098) → (v11 = 0 → wpL_law_b1167 cB Post K228 S150 mu (u + 1) v5 v6 v7 v8 v9 v10 v11 r150 (-2000000098 : Int32)) ∧ (¬ v11 = 0 → wpL_law_b1167 cB Post K228 S150 mu (u + 1) v5 v6 v7 v8 v9 v10 v11 r150 v27)
def wpL_law_b1130 (cB : Nat) (Post : Prop) (K228 : ivS → Mu → Nat → Int32 → Nat → Nat → Nat → Int32 → Int32 → Prop) (S : ivS) (mu : Mu) (u : Nat) (v5 : Nat) (v6 : Nat) (v7 : Nat) (v8 : Int32) (v9 : Int32) (v10 : Nat) (v11 : Int32) (v25 : Int32) (v26 : Int32) (s0 : Int32) : Prop := (v11 = 0 → wpL_law_b1147 cB Post K228 S mu u v5 v6 v7 v8 v9 v10 v11 v25 v26 s0) ∧ (¬ v11 = 0 → ∃ x151, mB mu v6 = some x151 ∧ ∃ a151, x151.2.2.2.2.1 = some a151 ∧ ∃ n152 f152 k152, mI mu a151 = some (n152, f152) ∧ v25 = nI k152 ∧ k152 < n152 ∧ n152 ≤ 1000 ∧ ∀ mu153, mu153 = sI mu a151 (n152, upd f152 k152 v26) → wpL_law_b1147 cB Post K228 S mu153 u v5 v6 v7 v8 v9 v10 v11 v25 v26 s0)
def wpL_law_b1111 (cB : Nat) (Post : Prop) (K228 : ivS → Mu → Nat → Int32 → Nat → Nat → Nat → Int32 → Int32 → Prop) (S : ivS) (mu : Mu) (u : Nat) (v5 : Nat) (v6 : Nat) (v7 : Nat) (v8 : Int32) (v9 : Int32) (v10 : Nat) (v25 : Int32) (v26 : Int32) (s0 : Int32) : Prop := (s0 = 0 → wpL_law_b1130 cB Post K228 S mu u v5 v6 v7 v8 v9 v10 s0 v25 v26 (0 : Int32)) ∧ (¬ s0 = 0 → ∃ x154, mB mu v6 = some x154 ∧ ∃ a154, x154.2.2.2.2.1 = some a154 ∧ ∃ n155 f155 k155, mI mu a154 = some (n155, f155) ∧ v25 = nI k155 ∧ k155 < n155 ∧ n155 ≤ 1000 ∧ wpL_law_b1130 cB Post K228 S mu u v5 v6 v7 v8 v9 v10 s0 v25 v26 (f155 k155))
def wpL_law_b280 (cB : Nat) (Post : Prop) (K228 : ivS → Mu → Nat → Int32 → Nat → Nat → Nat → Int32 → Int32 → Prop) (S : ivS) (mu : Mu) (u : Nat) (v1 : Int32) (v5 : Nat) (v6 : Nat) (v7 : Nat) (v8 : Int32) (v9 : Int32) (v10 : Nat) (v12 : Int32) (s0 : Int32) : Prop := ∃ x31, mB mu v6 = some x31 ∧ ∃ x32, mB mu v6 = some x32 ∧ ∃ x33, mR mu v5 = some x33 ∧ u ≤ cB ∧ wpX10_below mu v5 (7 : Int32) (fun r34 mu35 => (r34 = (0 : Int32) → ∃ x36, mR mu35 v5 = some x36 ∧ u ≤ cB ∧ wpX10_below mu35 v5 (5 : Int32) (fun r37 mu38 => (s0 = 0 → wpL_law_b365 cB Post K228 S mu38 u v5 v6 v7 v8 v9 v10 v12 s0 (r37 - (1 : Int32))) ∧ (¬ s0 = 0 → ((3 : Int32) ≤ (r37 - (1 : Int32)) → wpL_law_b365 cB Post K228 S mu38 u v5 v6 v7 v8 v9 v10 v12 s0 (r37 - (1 : Int32))) ∧ (¬ (3 : Int32) ≤ (r37 - (1 : Int32)) → wpL_law_b366 cB Post K228 S mu38 u v5 v6 v7 v8 v9 v10 v12 s0 (r37 - (1 : Int32)) (1 : Int32))))) ∧ (r34 = (1 : Int32) → ∃ x55, mR mu35 v5 = some x55 ∧ u ≤ cB ∧ wpX10_below mu35 v5 (2 : Int32) (fun r56 mu57 => (¬ r56 = 0 → wpL_law_b464 cB Post K228 S mu57 u v5 v6 v7 v8 v9 v10 v12 s0 (0 : Int32)) ∧ (r56 = 0 → wpL_law_b464 cB Post K228 S mu57 u v5 v6 v7 v8 v9 v10 v12 s0 (1 : Int32)))) ∧ (r34 = (2 : Int32) → ∃ x67, mR mu35 v5 = some x67 ∧ u ≤ cB ∧ wpX10_below mu35 v5 (5 : Int32) (fun r68 mu69 => ∃ x70, mR mu69 v5 = some x70 ∧ u ≤ cB ∧ wpX10_below mu69 v5 ((x31.1 - x32.2.2.1) + (2 : Int32)) (fun r71 mu72 => ∃ x73, mB mu72 v6 = some x73 ∧ ∃ a73, x73.2.2.2.2.2.1 = some a73 ∧ ∃ n74 f74, mQ mu72 a73 = some (2, n74, f74) ∧ ((3 : Int32) ≤ (nI n74) → wpL_law_b596 cB Post K228 S mu72 u v5 v6 v7 v8 v9 v10 v12 r68 r71) ∧ (¬ (3 : Int32) ≤ (nI n74) → (r68 ≤ 0 → wpL_law_b596 cB Post K228 S mu72 u v5 v6 v7 v8 v9 v10 v12 r68 r71) ∧ (¬ r68 ≤ 0 → (r71 ≤ 0 → wpL_law_b596 cB Post K228 S mu72 u v5 v6 v7 v8 v9 v10 v12 r68 r71) ∧ (¬ r71 ≤ 0 → ((x31.1 - x32.2.2.1) < r71 → wpL_law_b596 cB Post K228 S mu72 u v5 v6 v7 v8 v9 v10 v12 r68 r71) ∧ (¬ (x31.1 - x32.2.2.1) < r71 → wpL_law_b597 cB Post K228 S mu72 u v5 v6 v7 v8 v9 v10 v12 r68 r71 (1 : Int32)))))))) ∧ (r34 = (3 : Int32) → (s0 = 0 → wpL_law_b722 cB Post K228 S mu35 u v5 v6 v7 v8 v9 v10 v12) ∧ (¬ s0 = 0 → ∃ x107, mR mu35 v5 = some x107 ∧ u ≤ cB ∧ wpX10_below mu35 v5 (3 : Int32) (fun r108 mu109 => (¬ r108 = 0 → wpL_law_b722 cB Post K228 S mu109 u v5 v6 v7 v8 v9 v10 v12) ∧ (r108 = 0 → wpL_law_b723 cB Post K228 S mu109 u v5 v6 v7 v8 v9 v10 v12 (1 : Int32))))) ∧ (r34 = (4 : Int32) → (s0 = 0 → wpL_law_b816 cB Post K228 S mu35 u v1 v5 v6 v7 v8 v9 v10 v12 s0 (x31.1 - x32.2.2.1) (0 : Int32)) ∧ (¬ s0 = 0 → ∃ x136, mB mu35 v6 = some x136 ∧ ∃ a136, x136.2.2.2.2.2.1 = some a136 ∧ ∃ n137 f137 k137, mQ mu35 a136 = some (2, n137, f137) ∧ v12 = nI k137 ∧ k137 < n137 ∧ n137 ≤ 1000 ∧ ∃ a137, f137 k137 = some a137 ∧ ∃ x138, mP mu35 a137 = some x138 ∧ ∃ a138, x138.2.2.2 = some a138 ∧ ∃ n139 f139, mI mu35 a138 = some (n139, f139) ∧ wpL_law_b816 cB Post K228 S mu35 u v1 v5 v6 v7 v8 v9 v10 v12 s0 (x31.1 - x32.2.2.1) (nI n139))) ∧ (r34 = (5 : Int32) → (s0 = 0 → wpL_law_b816 cB Post K228 S mu35 u v1 v5 v6 v7 v8 v9 v10 v12 s0 (x31.1 - x32.2.2.1) (0 : Int32)) ∧ (¬ s0 = 0 → ∃ x140, mB mu35 v6 = some x140 ∧ ∃ a140, x140.2.2.2.2.2.1 = some a140 ∧ ∃ n141 f141 k141, mQ mu35 a140 = some (2, n141, f141) ∧ v12 = nI k141 ∧ k141 < n141 ∧ n141 ≤ 1000 ∧ ∃ a141, f141 k141 = some a141 ∧ ∃ x142, mP mu35 a141 = some x142 ∧ ∃ a142, x142.2.2.2 = some a142 ∧ ∃ n143 f143, mI mu35 a142 = some (n143, f143) ∧ wpL_law_b816 cB Post K228 S mu35 u v1 v5 v6 v7 v8 v9 v10 v12 s0 (x31.1 - x32.2.2.1) (nI n143))) ∧ (¬ r34 = (0 : Int32) ∧ ¬ r34 = (1 : Int32) ∧ ¬ r34 = (2 : Int32) ∧ ¬ r34 = (3 : Int32) ∧ ¬ r34 = (4 : Int32) ∧ ¬ r34 = (5 : Int32) → ∃ x144, mR mu35 v5 = some x144 ∧ u ≤ cB ∧ wpX10_below mu35 v5 (7 : Int32) (fun r145 mu146 => ∃ x147, mR mu146 v5 = some x147 ∧ u ≤ cB ∧ wpX10_below mu146 v5 (40 : Int32) (fun r148 mu149 => ((6 : Int32) ≤ r145 → wpL_law_b1111 cB Post K228 S mu149 u v5 v6 v7 v8 v9 v10 r145 r148 (0 : Int32)) ∧ (¬ (6 : Int32) ≤ r145 → wpL_law_b1111 cB Post K228 S mu149 u v5 v6 v7 v8 v9 v10 r145 r148 (1 : Int32))))))
def wpL_law_L228 (cB : Nat) (Post : Prop)  : Nat → ivS → Mu → Nat → Int32 → Nat → Nat → Nat → Int32 → Int32 → Prop
  | 0 => fun _ _ _ _ _ _ _ _ _ => False
  | nn228 + 1 => fun S mu u v1 v5 v6 v7 v8 v9 => ((14 : Int32) ≤ v9 → wpL_law_b1242 cB Post  S mu u v1 v7 v8) ∧ (¬ (14 : Int32) ≤ v9 → (v1 = 0 → wpL_law_b1242 cB Post  S mu u v1 v7 v8) ∧ (¬ v1 = 0 → ∃ x20, mB mu v6 = some x20 ∧ ∃ q22, u + q22 ≤ cB ∧ wpX7_copy q22 mu v6 (fun r21 mu23 => ∃ x24, mB mu23 v6 = some x24 ∧ ∃ a24, x24.2.2.2.2.2.1 = some a24 ∧ ∃ n25 f25, mQ mu23 a24 = some (2, n25, f25) ∧ ∃ x26, mR mu23 v5 = some x26 ∧ (u + q22) ≤ cB ∧ wpX10_below mu23 v5 ((nI n25) + (1 : Int32)) (fun r27 mu28 => ∃ x29, mB mu28 v6 = some x29 ∧ ∃ a29, x29.2.2.2.2.2.1 = some a29 ∧ ∃ n30 f30, mQ mu28 a29 = some (2, n30, f30) ∧ ((nI n30) ≤ r27 → wpL_law_b280 cB Post (wpL_law_L228 cB Post  nn228) S mu28 (u + q22) v1 v5 v6 v7 v8 v9 r21 r27 (0 : Int32)) ∧ (¬ (nI n30) ≤ r27 → wpL_law_b280 cB Post (wpL_law_L228 cB Post  nn228) S mu28 (u + q22) v1 v5 v6 v7 v8 v9 r21 r27 (1 : Int32))))))
def wpL_law_b214 (cB : Nat) (Post : Prop)  (S : ivS) (mu : Mu) (u : Nat) (v5 : Nat) (v6 : Nat) (s0 : Int32) : Prop := ∃ n8, (9 : Int32) = nI n8 ∧ n8 ≤ 1000 ∧ u + (1 + n8 / 16) ≤ cB ∧ ∀ a8, frM mu a8 → ∀ mu9, mu9 = sQ mu a8 (3, n8, fun _ => none) → ∃ m_, wpL_law_L228 cB Post  m_ S mu9 (u + (1 + n8 / 16)) s0 v5 v6 a8 (0 : Int32) (0 : Int32)
def wpL_law_b213 (cB : Nat) (Post : Prop)  (S : ivS) (mu : Mu) (u : Nat) (v5 : Nat) (v6 : Nat) : Prop := wpL_law_b214 cB Post  S mu u v5 v6 (0 : Int32)
def wpL_law_b178 (cB : Nat) (Post : Prop)  (S : ivS) (mu : Mu) (u : Nat) (v4 : Nat) (v5 : Nat) (s0 : Int32) : Prop := ∃ q7, u + q7 ≤ cB ∧ wpL_randomBook q7 S mu v4 v5 (fun r7 S7 mu7 => (s0 = 0 → wpL_law_b213 cB Post  S7 mu7 (u + q7) v5 r7) ∧ (¬ s0 = 0 → ∃ q156, (u + q7) + q156 ≤ cB ∧ wpL_agrees q156 S7 mu7 r7 (fun r156 S156 mu156 => (r156 = 0 → wpL_law_b213 cB Post  S156 mu156 ((u + q7) + q156) v5 r7) ∧ (¬ r156 = 0 → wpL_law_b214 cB Post  S156 mu156 ((u + q7) + q156) v5 r7 (1 : Int32)))))
def wpL_law_b177 (cB : Nat) (Post : Prop)  (S : ivS) (mu : Mu) (u : Nat) (v4 : Nat) (v5 : Nat) : Prop := wpL_law_b178 cB Post  S mu u v4 v5 (0 : Int32)
def wpL_law (cB : Nat) (Post : Prop) (S : ivS) (mu : Mu) (u0 : Nat) (v1 : Int32) (v4 v5 : Nat) : Prop := u0 + 1 ≤ cB ∧ ∀ a1, frM mu a1 → ∀ mu2, mu2 = sB mu a1 (0, 0, 0, 0, none, none, none, none, none, 0) → ∃ q4, (u0 + 1) + q4 ≤ cB ∧ wpX7_init q4 mu2 a1 (fun mu5 => ∃ q6, ((u0 + 1) + q4) + q6 ≤ cB ∧ wpL_agrees q6 S mu5 a1 (fun r6 S6 mu6 => (r6 = 0 → wpL_law_b177 cB Post  S6 mu6 (((u0 + 1) + q4) + q6) v4 v5) ∧ (¬ r6 = 0 → (((u0 + 1) + q4) + q6) ≤ cB ∧ ∀ S157, S157 = (rOk S6 S6.2.2.2.2.2).2.2.2 → ∀ r157, r157 = (rOk S6 S6.2.2.2.2.2).2.1 → (¬ r157 = (-1 : Int32) → wpL_law_b177 cB Post  S157 mu6 (((u0 + 1) + q4) + q6) v4 v5) ∧ (r157 = (-1 : Int32) → (((u0 + 1) + q4) + q6) ≤ cB ∧ ∀ S158, S158 = (s_undo S157).2.2.2 → ∀ r158, r158 = (s_undo S157).2.1 → (¬ r158 = (-1 : Int32) → wpL_law_b177 cB Post  S158 mu6 (((u0 + 1) + q4) + q6) v4 v5) ∧ (r158 = (-1 : Int32) → (((u0 + 1) + q4) + q6) + 2 ≤ cB ∧ ∀ S159, S159 = (s_fix S158 (0 : Int32) (0 : Int32)).2.2.2 → ∀ r159, r159 = an2 (s_fix S158 (0 : Int32) (0 : Int32)) (-2000000097) (-2000000098) → (¬ r159 = (-2000000097 : Int32) → wpL_law_b177 cB Post  S159 mu6 ((((u0 + 1) + q4) + q6) + 2) v4 v5) ∧ (r159 = (-2000000097 : Int32) → ((((u0 + 1) + q4) + q6) + 2) + 1 ≤ cB ∧ ∀ S160, S160 = (s_insert S159 (1 : Int32) (1 : Int32) (1 : Int32)).2.2.2 → ∀ r160, r160 = an2 (s_insert S159 (1 : Int32) (1 : Int32) (1 : Int32)) (-2000000098) (-2000000099) → (¬ r160 = (-2000000098 : Int32) → wpL_law_b177 cB Post  S160 mu6 (((((u0 + 1) + q4) + q6) + 2) + 1) v4 v5) ∧ (r160 = (-2000000098 : Int32) → (((((u0 + 1) + q4) + q6) + 2) + 1) + 1 ≤ cB ∧ ∀ S161, S161 = (s_insert S160 (0 : Int32) (1 : Int32) (37 : Int32)).2.2.2 → ∀ r161, r161 = an2 (s_insert S160 (0 : Int32) (1 : Int32) (37 : Int32)) (-2000000098) (-2000000099) → (¬ r161 = (-2000000098 : Int32) → wpL_law_b177 cB Post  S161 mu6 ((((((u0 + 1) + q4) + q6) + 2) + 1) + 1) v4 v5) ∧ (r161 = (-2000000098 : Int32) → ((((((u0 + 1) + q4) + q6) + 2) + 1) + 1) + 1 ≤ cB ∧ ∀ S162, S162 = (s_remove S161 (0 : Int32)).2.2.2 → ∀ r162, r162 = an1 (s_remove S161 (0 : Int32)) (-2000000097) → (¬ r162 = (-2000000097 : Int32) → wpL_law_b177 cB Post  S162 mu6 (((((((u0 + 1) + q4) + q6) + 2) + 1) + 1) + 1) v4 v5) ∧ (r162 = (-2000000097 : Int32) → (((((((u0 + 1) + q4) + q6) + 2) + 1) + 1) + 1) + 1 ≤ cB ∧ ∀ S163, S163 = (s_setCost S162 (6 : Int32) (0 : Int32)).2.2.2 → ∀ r163, r163 = an1 (s_setCost S162 (6 : Int32) (0 : Int32)) (-2000000098) → (¬ r163 = (-2000000098 : Int32) → wpL_law_b177 cB Post  S163 mu6 ((((((((u0 + 1) + q4) + q6) + 2) + 1) + 1) + 1) + 1) v4 v5) ∧ (r163 = (-2000000098 : Int32) → ((((((((u0 + 1) + q4) + q6) + 2) + 1) + 1) + 1) + 1) + 1 ≤ cB ∧ ∀ S164, S164 = (s_help S163 (0 : Int32)).2.2.2 → ∀ r164, r164 = an1 (s_help S163 (0 : Int32)) (-2000000097) → (¬ r164 = (-2000000097 : Int32) → wpL_law_b177 cB Post  S164 mu6 (((((((((u0 + 1) + q4) + q6) + 2) + 1) + 1) + 1) + 1) + 1) v4 v5) ∧ (r164 = (-2000000097 : Int32) → (((((((((u0 + 1) + q4) + q6) + 2) + 1) + 1) + 1) + 1) + 1) + 1 ≤ cB ∧ ∀ S165, S165 = (s_insert S164 (0 : Int32) (2 : Int32) (18 : Int32)).2.2.2 → ∀ r165, r165 = an2 (s_insert S164 (0 : Int32) (2 : Int32) (18 : Int32)) (-2000000098) (-2000000099) → (¬ r165 = (1 : Int32) → wpL_law_b177 cB Post  S165 mu6 ((((((((((u0 + 1) + q4) + q6) + 2) + 1) + 1) + 1) + 1) + 1) + 1) v4 v5) ∧ (r165 = (1 : Int32) → ((((((((((u0 + 1) + q4) + q6) + 2) + 1) + 1) + 1) + 1) + 1) + 1) + 1 ≤ cB ∧ ∀ S166, S166 = (s_plan S165 true (6 : Int32)).2.2.2 → ∀ r166, r166 = an1 (s_plan S165 true (6 : Int32)) (-2000000098) → (¬ r166 = (1 : Int32) → wpL_law_b177 cB Post  S166 mu6 (((((((((((u0 + 1) + q4) + q6) + 2) + 1) + 1) + 1) + 1) + 1) + 1) + 1) v4 v5) ∧ (r166 = (1 : Int32) → (((((((((((u0 + 1) + q4) + q6) + 2) + 1) + 1) + 1) + 1) + 1) + 1) + 1) ≤ cB ∧ ∀ S167, S167 = (s_undo S166).2.2.2 → ∀ r167, r167 = (s_undo S166).2.1 → (¬ r167 = 0 → wpL_law_b177 cB Post  S167 mu6 (((((((((((u0 + 1) + q4) + q6) + 2) + 1) + 1) + 1) + 1) + 1) + 1) + 1) v4 v5) ∧ (r167 = 0 → wpL_law_b178 cB Post  S167 mu6 (((((((((((u0 + 1) + q4) + q6) + 2) + 1) + 1) + 1) + 1) + 1) + 1) + 1) v4 v5 (1 : Int32)))))))))))))))
set_option maxHeartbeats 40000000 in
set_option maxRecDepth 100000 in
theorem conL_law {p : Program} {l : Launch} {e : Env} {s : State} {m : MethodId} {below : List Frame} {meth : Method} {c : Code} {D : va_G} {cA : Nat → ClassId} {b : Nat} {Q : State → Prop} (C : Cx p s m meth c code 28 #[Value.ref b] lw_tbl "WidowWatchLaw" D cA (fun q => s.heap.size ≤ q)) (hE : EvY D cA (fun q => s.heap.size ≤ q) s s.heap) (hF : FN s) (hst : l.stackTraces = false) (h ab ac ar : Nat → Nat) (cB : Nat) (hRm : cB ≤ room_1.cells ∧ 16 * cB ≤ room_1.slots) (hEnd : ∀ (u : Nat) (ws : va_W) (v : Int32), u ≤ cB → v = 1 → Kf p l e room_1 s m #[Value.ref b] below meth c D (fun q => s.heap.size ≤ q) 28 u (16 * u) Q ws 1386 [(0, .ref b), (1, .int v), (2, .int (0 : Int32))] []) (S : ivS) (mu : Mu) (u0 : Nat) (v1 : Int32) (v4 v5 : Nat) (H : wpL_law cB True S mu u0 v1 v4 v5) {w0 ws0 : va_W} (hI : ivI cA h ab ac ar S false w0) (hR : LR cA w0 ws0 mu) : Kf p l e room_1 s m #[Value.ref b] below meth c D (fun q => s.heap.size ≤ q) 28 u0 (16 * u0) Q ws0 45 [(5, .ref v5), (4, .ref v4), (3, .ref (h 0)), (2, .int (0 : Int32)), (1, .int v1), (0, .ref b)] [] := by
  obtain ⟨Post, hPost⟩ : ∃ P : Prop, P = True := ⟨_, rfl⟩
  rw [← hPost] at H
  have B1385 : ∀  (ws w : va_W) (S : ivS) (mu : Mu) (u : Nat) (s0 : Int32), ivI cA h ab ac ar S false w → LR cA w ws mu → wpL_law_b1385 cB Post  S mu u s0 → Kf p l e room_1 s m #[Value.ref b] below meth c D (fun q => s.heap.size ≤ q) 28 u (16 * u) Q ws 1385 [(0, .ref b), (2, .int (0 : Int32))] [.int s0] := by
    intro  ws w S mu u s0 hI hR H
    have H : s0 = 1 ∧ u ≤ cB := H
    refine k_istore_n C (pc := 1385) dL_law_1385 rfl (Nat.lt_of_lt_of_le (Nat.lt_succ_self _) (Nat.le_of_ble_eq_true rfl)) (lv' := [(1, .int s0), (0, .ref b), (2, .int (0 : Int32))]) rfl ?_
    refine k_lv (pc := 1386) [1, 0, 2] (lv' := [(0, .ref b), (1, .int s0), (2, .int (0 : Int32))]) rfl ?_
    exact hEnd _ _ _ H.2 H.1
  have B1384 : ∀  (ws w : va_W) (S : ivS) (mu : Mu) (u : Nat), ivI cA h ab ac ar S false w → LR cA w ws mu → wpL_law_b1384 cB Post  S mu u → Kf p l e room_1 s m #[Value.ref b] below meth c D (fun q => s.heap.size ≤ q) 28 u (16 * u) Q ws 1384 [(0, .ref b), (2, .int (0 : Int32))] [] := by
    intro  ws w S mu u hI hR H
    have H : wpL_law_b1385 cB Post  S mu u (0 : Int32) := H
    refine k_iconst C (pc := 1384) (v := (0 : Int32)) dL_law_1384 rfl ?_
    refine k_lv (pc := 1385) [0, 1] (lv' := [(0, .ref b), (2, .int (0 : Int32))]) rfl ?_
    exact B1385  _ _ S mu u (0 : Int32) hI hR H
  have B1294 : ∀  (ws w : va_W) (S : ivS) (mu : Mu) (u : Nat) (v1 : Int32), ivI cA h ab ac ar S false w → LR cA w ws mu → wpL_law_b1294 cB Post  S mu u v1 → Kf p l e room_1 s m #[Value.ref b] below meth c D (fun q => s.heap.size ≤ q) 28 u (16 * u) Q ws 1294 [(0, .ref b), (1, .int v1), (2, .int (0 : Int32)), (3, .ref (h 0))] [] := by
    intro  ws w S mu u v1 hI hR H
    have H : (v1 = 0 → wpL_law_b1384 cB Post  S mu u) ∧ (¬ v1 = 0 → u + 1 ≤ cB ∧ ∀ S10, S10 = (s_load S (1 : Int32)).2.2.2 → ∀ r10, r10 = an1 (s_load S (1 : Int32)) (-2000000098) → (¬ r10 = (-2000000098 : Int32) → wpL_law_b1384 cB Post  S10 mu (u + 1)) ∧ (r10 = (-2000000098 : Int32) → (u + 1) + 2 ≤ cB ∧ ∀ S11, S11 = (s_word S10 (-1 : Int32) (0 : Int32)).2.2.2 → ∀ r11, r11 = an2 (s_word S10 (-1 : Int32) (0 : Int32)) (-2000000097) (-2000000100) → (¬ r11 = (-2000000097 : Int32) → wpL_law_b1384 cB Post  S11 mu ((u + 1) + 2)) ∧ (r11 = (-2000000097 : Int32) → ((u + 1) + 2) + 2 ≤ cB ∧ ∀ S12, S12 = (s_lineLength S11 (16 : Int32) (0 : Int32) (0 : Int32)).2.2.2 → ∀ r12, r12 = an3 (s_lineLength S11 (16 : Int32) (0 : Int32) (0 : Int32)) (-2000000097) (-2000000098) (-2000000100) → (¬ r12 = (-2000000097 : Int32) → wpL_law_b1384 cB Post  S12 mu (((u + 1) + 2) + 2)) ∧ (r12 = (-2000000097 : Int32) → (((u + 1) + 2) + 2) + 2 ≤ cB ∧ ∀ S13, S13 = (s_page S12 true (-1 : Int32) (0 : Int32)).2.2.2 → ∀ r13, r13 = an2 (s_page S12 true (-1 : Int32) (0 : Int32)) (-2000000097) (-2000000098) → (¬ r13 = (-2000000097 : Int32) → wpL_law_b1384 cB Post  S13 mu ((((u + 1) + 2) + 2) + 2)) ∧ (r13 = (-2000000097 : Int32) → ((((u + 1) + 2) + 2) + 2) + 2 ≤ cB ∧ ∀ S14, S14 = (s_pageOf S13 true (-1 : Int32) (0 : Int32)).2.2.2 → ∀ r14, r14 = an2 (s_pageOf S13 true (-1 : Int32) (0 : Int32)) (-2000000097) (-2000000100) → (¬ r14 = (-2000000097 : Int32) → wpL_law_b1384 cB Post  S14 mu (((((u + 1) + 2) + 2) + 2) + 2)) ∧ (r14 = (-2000000097 : Int32) → (((((u + 1) + 2) + 2) + 2) + 2) + 1 ≤ cB ∧ ∀ S15, S15 = (s_setCost S14 (0 : Int32) (1000 : Int32)).2.2.2 → ∀ r15, r15 = an1 (s_setCost S14 (0 : Int32) (1000 : Int32)) (-2000000098) → (¬ r15 = (-2000000098 : Int32) → wpL_law_b1384 cB Post  S15 mu ((((((u + 1) + 2) + 2) + 2) + 2) + 1)) ∧ (r15 = (-2000000098 : Int32) → ((((((u + 1) + 2) + 2) + 2) + 2) + 1) + 1 ≤ cB ∧ ∀ S16, S16 = (s_begin S15 (-1 : Int32) true).2.2.2 → ∀ r16, r16 = an1 (s_begin S15 (-1 : Int32) true) (-2000000097) → (¬ r16 = (-2000000097 : Int32) → wpL_law_b1384 cB Post  S16 mu (((((((u + 1) + 2) + 2) + 2) + 2) + 1) + 1)) ∧ (r16 = (-2000000097 : Int32) → wpL_law_b1385 cB Post  S16 mu (((((((u + 1) + 2) + 2) + 2) + 2) + 1) + 1) (1 : Int32))))))))) := H
    refine k_iload_n C 1 (pc := 1294) dL_law_1294 rfl rfl ?_
    refine k_if_eq C (pc := 1295) (tgt := 1384) dL_law_1295 (by decide) (fun c_1295 => ?_) (fun c_1295 => ?_)
    · have H := H.1 c_1295
      refine k_lv (pc := 1384) [0, 2] (lv' := [(0, .ref b), (2, .int (0 : Int32))]) rfl ?_
      exact B1384  _ _ S mu u hI hR H
    · have H := H.2 c_1295
      refine k_aload_n C 3 (pc := 1298) dL_law_1298 rfl rfl ?_
      refine k_iconst C (pc := 1299) (v := (1 : Int32)) dL_law_1299 rfl ?_
      obtain ⟨hc_, H⟩ := H
      refine ky_callA C (pc := 1300) (ky_runS C hE (As := [.ref (h 0), .int (1 : Int32)]) (rest := []) (wl_load l D cA h ab ac ar hst (1 : Int32) hI hR) (ky_cw C tYL_load tW_2_172 tW_1_0 tW_2_173 okL_load rfl rfl ⟨Nat.le_of_ble_eq_true rfl, Nat.le_of_ble_eq_true rfl⟩) rfl rfl (Nat.le_of_ble_eq_true rfl) dL_law_1300 (kw_rm hc_ (by decide) hRm)) (fun v_ w1 hv_ => ?_)
      obtain ⟨r10, rfl, w_, hI, hR, hr1_⟩ := hv_
      have hI := hI.weak
      obtain ⟨S10, hS1_⟩ : ∃ m_, m_ = (s_load S (1 : Int32)).2.2.2 := ⟨_, rfl⟩
      rw [← hS1_] at hI
      have H := H S10 hS1_ r10 hr1_
      refine k_eq (pc := 1303) (st' := .int r10 :: []) rfl rfl rfl ?_
      refine k_widen (k := u + 1) (n := 16 * (u + 1)) (Nat.le_refl _) (by omega) ?_
      refine k_ldc C (pc := 1303) (v := (-2000000098 : Int32)) tW_3_155 dL_law_1303 ?_
      refine k_icmp_ne C (pc := 1305) (tgt := 1384) dL_law_1305 (by decide) (fun c_1305 => ?_) (fun c_1305 => ?_)
      · have H := H.1 c_1305
        refine k_lv (pc := 1384) [0, 2] (lv' := [(0, .ref b), (2, .int (0 : Int32))]) rfl ?_
        exact B1384  _ _ S10 mu (u + 1) hI hR H
      · have H := H.2 c_1305
        refine k_aload_n C 3 (pc := 1308) dL_law_1308 rfl rfl ?_
        refine k_iconst C (pc := 1309) (v := (-1 : Int32)) dL_law_1309 rfl ?_
        refine k_iconst C (pc := 1310) (v := (0 : Int32)) dL_law_1310 rfl ?_
        obtain ⟨hc_, H⟩ := H
        refine ky_callA C (pc := 1311) (ky_runS C hE (As := [.ref (h 0), .int (-1 : Int32), .int (0 : Int32)]) (rest := []) (wl_word l D cA h ab ac ar hst (-1 : Int32) (0 : Int32) hI hR) (ky_cw C tYL_word tW_3_156 tW_1_0 tW_3_157 okL_word rfl rfl ⟨Nat.le_of_ble_eq_true rfl, Nat.le_of_ble_eq_true rfl⟩) rfl rfl (Nat.le_of_ble_eq_true rfl) dL_law_1311 (kw_rm hc_ (by decide) hRm)) (fun v_ w1 hv_ => ?_)
        obtain ⟨r11, rfl, w_, hI, hR, hr1_⟩ := hv_
        have hI := hI.weak
        obtain ⟨S11, hS1_⟩ : ∃ m_, m_ = (s_word S10 (-1 : Int32) (0 : Int32)).2.2.2 := ⟨_, rfl⟩
        rw [← hS1_] at hI
        have H := H S11 hS1_ r11 hr1_
        refine k_eq (pc := 1314) (st' := .int r11 :: []) rfl rfl rfl ?_
        refine k_widen (k := (u + 1) + 2) (n := 16 * ((u + 1) + 2)) (Nat.le_refl _) (by omega) ?_
        refine k_ldc C (pc := 1314) (v := (-2000000097 : Int32)) tW_3_203 dL_law_1314 ?_
        refine k_icmp_ne C (pc := 1316) (tgt := 1384) dL_law_1316 (by decide) (fun c_1316 => ?_) (fun c_1316 => ?_)
        · have H := H.1 c_1316
          refine k_lv (pc := 1384) [0, 2] (lv' := [(0, .ref b), (2, .int (0 : Int32))]) rfl ?_
          exact B1384  _ _ S11 mu ((u + 1) + 2) hI hR H
        · have H := H.2 c_1316
          refine k_aload_n C 3 (pc := 1319) dL_law_1319 rfl rfl ?_
          refine k_bipush C (pc := 1320) (v := (16 : Int32)) dL_law_1320 (by decide) ?_
          refine k_iconst C (pc := 1322) (v := (0 : Int32)) dL_law_1322 rfl ?_
          refine k_iconst C (pc := 1323) (v := (0 : Int32)) dL_law_1323 rfl ?_
          obtain ⟨hc_, H⟩ := H
          refine ky_callA C (pc := 1324) (ky_runS C hE (As := [.ref (h 0), .int (16 : Int32), .int (0 : Int32), .int (0 : Int32)]) (rest := []) (wl_lineLength l D cA h ab ac ar hst (16 : Int32) (0 : Int32) (0 : Int32) hI hR) (ky_cw C tYL_lineLength tW_3_205 tW_1_0 tW_3_206 okL_lineLength rfl rfl ⟨Nat.le_of_ble_eq_true rfl, Nat.le_of_ble_eq_true rfl⟩) rfl rfl (Nat.le_of_ble_eq_true rfl) dL_law_1324 (kw_rm hc_ (by decide) hRm)) (fun v_ w1 hv_ => ?_)
          obtain ⟨r12, rfl, w_, hI, hR, hr1_⟩ := hv_
          have hI := hI.weak
          obtain ⟨S12, hS1_⟩ : ∃ m_, m_ = (s_lineLength S11 (16 : Int32) (0 : Int32) (0 : Int32)).2.2.2 := ⟨_, rfl⟩
          rw [← hS1_] at hI
          have H := H S12 hS1_ r12 hr1_
          refine k_eq (pc := 1327) (st' := .int r12 :: []) rfl rfl rfl ?_
          refine k_widen (k := ((u + 1) + 2) + 2) (n := 16 * (((u + 1) + 2) + 2)) (Nat.le_refl _) (by omega) ?_
          refine k_ldc C (pc := 1327) (v := (-2000000097 : Int32)) tW_3_203 dL_law_1327 ?_
          refine k_icmp_ne C (pc := 1329) (tgt := 1384) dL_law_1329 (by decide) (fun c_1329 => ?_) (fun c_1329 => ?_)
          · have H := H.1 c_1329
            refine k_lv (pc := 1384) [0, 2] (lv' := [(0, .ref b), (2, .int (0 : Int32))]) rfl ?_
            exact B1384  _ _ S12 mu (((u + 1) + 2) + 2) hI hR H
          · have H := H.2 c_1329
            refine k_aload_n C 3 (pc := 1332) dL_law_1332 rfl rfl ?_
            refine k_iconst C (pc := 1333) (v := (1 : Int32)) dL_law_1333 rfl ?_
            refine k_iconst C (pc := 1334) (v := (-1 : Int32)) dL_law_1334 rfl ?_
            refine k_iconst C (pc := 1335) (v := (0 : Int32)) dL_law_1335 rfl ?_
            obtain ⟨hc_, H⟩ := H
            refine ky_callA C (pc := 1336) (ky_runS C hE (As := [.ref (h 0), .int (bI true), .int (-1 : Int32), .int (0 : Int32)]) (rest := []) (wl_page l D cA h ab ac ar hst true (-1 : Int32) (0 : Int32) hI hR) (ky_cw C tYL_page tW_4_139 tW_1_0 tW_4_140 okL_page rfl rfl ⟨Nat.le_of_ble_eq_true rfl, Nat.le_of_ble_eq_true rfl⟩) rfl rfl (Nat.le_of_ble_eq_true rfl) dL_law_1336 (kw_rm hc_ (by decide) hRm)) (fun v_ w1 hv_ => ?_)
            obtain ⟨r13, rfl, w_, hI, hR, hr1_⟩ := hv_
            have hI := hI.weak
            obtain ⟨S13, hS1_⟩ : ∃ m_, m_ = (s_page S12 true (-1 : Int32) (0 : Int32)).2.2.2 := ⟨_, rfl⟩
            rw [← hS1_] at hI
            have H := H S13 hS1_ r13 hr1_
            refine k_eq (pc := 1339) (st' := .int r13 :: []) rfl rfl rfl ?_
            refine k_widen (k := (((u + 1) + 2) + 2) + 2) (n := 16 * ((((u + 1) + 2) + 2) + 2)) (Nat.le_refl _) (by omega) ?_
            refine k_ldc C (pc := 1339) (v := (-2000000097 : Int32)) tW_3_203 dL_law_1339 ?_
            refine k_icmp_ne C (pc := 1341) (tgt := 1384) dL_law_1341 (by decide) (fun c_1341 => ?_) (fun c_1341 => ?_)
            · have H := H.1 c_1341
              refine k_lv (pc := 1384) [0, 2] (lv' := [(0, .ref b), (2, .int (0 : Int32))]) rfl ?_
              exact B1384  _ _ S13 mu ((((u + 1) + 2) + 2) + 2) hI hR H
            · have H := H.2 c_1341
              refine k_aload_n C 3 (pc := 1344) dL_law_1344 rfl rfl ?_
              refine k_iconst C (pc := 1345) (v := (1 : Int32)) dL_law_1345 rfl ?_
              refine k_iconst C (pc := 1346) (v := (-1 : Int32)) dL_law_1346 rfl ?_
              refine k_iconst C (pc := 1347) (v := (0 : Int32)) dL_law_1347 rfl ?_
              obtain ⟨hc_, H⟩ := H
              refine ky_callA C (pc := 1348) (ky_runS C hE (As := [.ref (h 0), .int (bI true), .int (-1 : Int32), .int (0 : Int32)]) (rest := []) (wl_pageOf l D cA h ab ac ar hst true (-1 : Int32) (0 : Int32) hI hR) (ky_cw C tYL_pageOf tW_4_154 tW_1_0 tW_4_155 okL_pageOf rfl rfl ⟨Nat.le_of_ble_eq_true rfl, Nat.le_of_ble_eq_true rfl⟩) rfl rfl (Nat.le_of_ble_eq_true rfl) dL_law_1348 (kw_rm hc_ (by decide) hRm)) (fun v_ w1 hv_ => ?_)
              obtain ⟨r14, rfl, w_, hI, hR, hr1_⟩ := hv_
              have hI := hI.weak
              obtain ⟨S14, hS1_⟩ : ∃ m_, m_ = (s_pageOf S13 true (-1 : Int32) (0 : Int32)).2.2.2 := ⟨_, rfl⟩
              rw [← hS1_] at hI
              have H := H S14 hS1_ r14 hr1_
              refine k_eq (pc := 1351) (st' := .int r14 :: []) rfl rfl rfl ?_
              refine k_widen (k := ((((u + 1) + 2) + 2) + 2) + 2) (n := 16 * (((((u + 1) + 2) + 2) + 2) + 2)) (Nat.le_refl _) (by omega) ?_
              refine k_ldc C (pc := 1351) (v := (-2000000097 : Int32)) tW_3_203 dL_law_1351 ?_
              refine k_icmp_ne C (pc := 1353) (tgt := 1384) dL_law_1353 (by decide) (fun c_1353 => ?_) (fun c_1353 => ?_)
              · have H := H.1 c_1353
                refine k_lv (pc := 1384) [0, 2] (lv' := [(0, .ref b), (2, .int (0 : Int32))]) rfl ?_
                exact B1384  _ _ S14 mu (((((u + 1) + 2) + 2) + 2) + 2) hI hR H
              · have H := H.2 c_1353
                refine k_aload_n C 3 (pc := 1356) dL_law_1356 rfl rfl ?_
                refine k_iconst C (pc := 1357) (v := (0 : Int32)) dL_law_1357 rfl ?_
                refine k_sipush C (pc := 1358) (v := (1000 : Int32)) dL_law_1358 (by decide) ?_
                obtain ⟨hc_, H⟩ := H
                refine ky_callA C (pc := 1361) (ky_runS C hE (As := [.ref (h 0), .int (0 : Int32), .int (1000 : Int32)]) (rest := []) (wl_setCost l D cA h ab ac ar hst (0 : Int32) (1000 : Int32) hI hR) (ky_cw C tYL_setCost tW_5_10 tW_1_0 tW_5_11 okL_setCost rfl rfl ⟨Nat.le_of_ble_eq_true rfl, Nat.le_of_ble_eq_true rfl⟩) rfl rfl (Nat.le_of_ble_eq_true rfl) dL_law_1361 (kw_rm hc_ (by decide) hRm)) (fun v_ w1 hv_ => ?_)
                obtain ⟨r15, rfl, w_, hI, hR, hr1_⟩ := hv_
                have hI := hI.weak
                obtain ⟨S15, hS1_⟩ : ∃ m_, m_ = (s_setCost S14 (0 : Int32) (1000 : Int32)).2.2.2 := ⟨_, rfl⟩
                rw [← hS1_] at hI
                have H := H S15 hS1_ r15 hr1_
                refine k_eq (pc := 1364) (st' := .int r15 :: []) rfl rfl rfl ?_
                refine k_widen (k := (((((u + 1) + 2) + 2) + 2) + 2) + 1) (n := 16 * ((((((u + 1) + 2) + 2) + 2) + 2) + 1)) (Nat.le_refl _) (by omega) ?_
                refine k_ldc C (pc := 1364) (v := (-2000000098 : Int32)) tW_3_155 dL_law_1364 ?_
                refine k_icmp_ne C (pc := 1366) (tgt := 1384) dL_law_1366 (by decide) (fun c_1366 => ?_) (fun c_1366 => ?_)
                · have H := H.1 c_1366
                  refine k_lv (pc := 1384) [0, 2] (lv' := [(0, .ref b), (2, .int (0 : Int32))]) rfl ?_
                  exact B1384  _ _ S15 mu ((((((u + 1) + 2) + 2) + 2) + 2) + 1) hI hR H
                · have H := H.2 c_1366
                  refine k_aload_n C 3 (pc := 1369) dL_law_1369 rfl rfl ?_
                  refine k_iconst C (pc := 1370) (v := (-1 : Int32)) dL_law_1370 rfl ?_
                  refine k_iconst C (pc := 1371) (v := (1 : Int32)) dL_law_1371 rfl ?_
                  obtain ⟨hc_, H⟩ := H
                  refine ky_callA C (pc := 1372) (ky_runS C hE (As := [.ref (h 0), .int (-1 : Int32), .int (bI true)]) (rest := []) (wl_begin l D cA h ab ac ar hst (-1 : Int32) true hI hR) (ky_cw C tYL_begin tW_4_188 tW_1_0 tW_4_189 okL_begin rfl rfl ⟨Nat.le_of_ble_eq_true rfl, Nat.le_of_ble_eq_true rfl⟩) rfl rfl (Nat.le_of_ble_eq_true rfl) dL_law_1372 (kw_rm hc_ (by decide) hRm)) (fun v_ w1 hv_ => ?_)
                  obtain ⟨r16, rfl, w_, hI, hR, hr1_⟩ := hv_
                  have hI := hI.weak
                  obtain ⟨S16, hS1_⟩ : ∃ m_, m_ = (s_begin S15 (-1 : Int32) true).2.2.2 := ⟨_, rfl⟩
                  rw [← hS1_] at hI
                  have H := H S16 hS1_ r16 hr1_
                  refine k_eq (pc := 1375) (st' := .int r16 :: []) rfl rfl rfl ?_
                  refine k_widen (k := ((((((u + 1) + 2) + 2) + 2) + 2) + 1) + 1) (n := 16 * (((((((u + 1) + 2) + 2) + 2) + 2) + 1) + 1)) (Nat.le_refl _) (by omega) ?_
                  refine k_ldc C (pc := 1375) (v := (-2000000097 : Int32)) tW_3_203 dL_law_1375 ?_
                  refine k_icmp_ne C (pc := 1377) (tgt := 1384) dL_law_1377 (by decide) (fun c_1377 => ?_) (fun c_1377 => ?_)
                  · have H := H.1 c_1377
                    refine k_lv (pc := 1384) [0, 2] (lv' := [(0, .ref b), (2, .int (0 : Int32))]) rfl ?_
                    exact B1384  _ _ S16 mu (((((((u + 1) + 2) + 2) + 2) + 2) + 1) + 1) hI hR H
                  · have H := H.2 c_1377
                    refine k_iconst C (pc := 1380) (v := (1 : Int32)) dL_law_1380 rfl ?_
                    refine k_goto C (pc := 1381) (tgt := 1385) dL_law_1381 (by decide) ?_
                    refine k_lv (pc := 1385) [0, 2] (lv' := [(0, .ref b), (2, .int (0 : Int32))]) rfl ?_
                    exact B1385  _ _ S16 mu (((((((u + 1) + 2) + 2) + 2) + 2) + 1) + 1) (1 : Int32) hI hR H
  have B1287 : ∀ (K1245 : ivS → Mu → Nat → Int32 → Nat → Int32 → Int32 → Prop) (hK1245 : ∀ (ws w : va_W) (S : ivS) (mu : Mu) (u : Nat) (v1 : Int32) (v7 : Nat) (v8 : Int32) (v9 : Int32), ivI cA h ab ac ar S false w → LR cA w ws mu → K1245 S mu u v1 v7 v8 v9 → Kf p l e room_1 s m #[Value.ref b] below meth c D (fun q => s.heap.size ≤ q) 28 u (16 * u) Q ws 1245 [(0, .ref b), (1, .int v1), (2, .int (0 : Int32)), (3, .ref (h 0)), (7, .ref v7), (8, .int v8), (9, .int v9)] []) (ws w : va_W) (S : ivS) (mu : Mu) (u : Nat) (v7 : Nat) (v8 : Int32) (v9 : Int32) (s0 : Int32), ivI cA h ab ac ar S false w → LR cA w ws mu → wpL_law_b1287 cB Post K1245 S mu u v7 v8 v9 s0 → Kf p l e room_1 s m #[Value.ref b] below meth c D (fun q => s.heap.size ≤ q) 28 u (16 * u) Q ws 1287 [(0, .ref b), (2, .int (0 : Int32)), (3, .ref (h 0)), (7, .ref v7), (8, .int v8), (9, .int v9)] [.int s0] := by
    intro K1245 hK1245 ws w S mu u v7 v8 v9 s0 hI hR H
    have H : K1245 S mu u s0 v7 v8 (v9 + (1 : Int32)) := H
    refine k_istore_n C (pc := 1287) dL_law_1287 rfl (Nat.lt_of_lt_of_le (Nat.lt_succ_self _) (Nat.le_of_ble_eq_true rfl)) (lv' := [(1, .int s0), (0, .ref b), (2, .int (0 : Int32)), (3, .ref (h 0)), (7, .ref v7), (8, .int v8), (9, .int v9)]) rfl ?_
    refine k_iinc C (pc := 1288) (k := 6) (v := v9 + (1 : Int32)) dL_law_1288 rfl rfl (Nat.lt_of_lt_of_le (Nat.lt_succ_self _) (Nat.le_of_ble_eq_true rfl)) (lv' := [(9, .int (v9 + (1 : Int32))), (1, .int s0), (0, .ref b), (2, .int (0 : Int32)), (3, .ref (h 0)), (7, .ref v7), (8, .int v8)]) rfl ?_
    refine k_goto C (pc := 1291) (tgt := 1245) dL_law_1291 (by decide) ?_
    refine k_lv (pc := 1245) [2, 1, 3, 4, 5, 6, 0] (lv' := [(0, .ref b), (1, .int s0), (2, .int (0 : Int32)), (3, .ref (h 0)), (7, .ref v7), (8, .int v8), (9, .int (v9 + (1 : Int32)))]) rfl ?_
    exact hK1245 _ _ S mu u s0 v7 v8 (v9 + (1 : Int32)) hI hR H
  have B1286 : ∀ (K1245 : ivS → Mu → Nat → Int32 → Nat → Int32 → Int32 → Prop) (hK1245 : ∀ (ws w : va_W) (S : ivS) (mu : Mu) (u : Nat) (v1 : Int32) (v7 : Nat) (v8 : Int32) (v9 : Int32), ivI cA h ab ac ar S false w → LR cA w ws mu → K1245 S mu u v1 v7 v8 v9 → Kf p l e room_1 s m #[Value.ref b] below meth c D (fun q => s.heap.size ≤ q) 28 u (16 * u) Q ws 1245 [(0, .ref b), (1, .int v1), (2, .int (0 : Int32)), (3, .ref (h 0)), (7, .ref v7), (8, .int v8), (9, .int v9)] []) (ws w : va_W) (S : ivS) (mu : Mu) (u : Nat) (v7 : Nat) (v8 : Int32) (v9 : Int32), ivI cA h ab ac ar S false w → LR cA w ws mu → wpL_law_b1286 cB Post K1245 S mu u v7 v8 v9 → Kf p l e room_1 s m #[Value.ref b] below meth c D (fun q => s.heap.size ≤ q) 28 u (16 * u) Q ws 1286 [(0, .ref b), (2, .int (0 : Int32)), (3, .ref (h 0)), (7, .ref v7), (8, .int v8), (9, .int v9)] [] := by
    intro K1245 hK1245 ws w S mu u v7 v8 v9 hI hR H
    have H : wpL_law_b1287 cB Post K1245 S mu u v7 v8 v9 (0 : Int32) := H
    refine k_iconst C (pc := 1286) (v := (0 : Int32)) dL_law_1286 rfl ?_
    refine k_lv (pc := 1287) [0, 1, 2, 3, 4, 5] (lv' := [(0, .ref b), (2, .int (0 : Int32)), (3, .ref (h 0)), (7, .ref v7), (8, .int v8), (9, .int v9)]) rfl ?_
    exact B1287 K1245 hK1245 _ _ S mu u v7 v8 v9 (0 : Int32) hI hR H
  have B1245 : ∀  (n : Nat) (ws w : va_W) (S : ivS) (mu : Mu) (u : Nat) (v1 : Int32) (v7 : Nat) (v8 : Int32) (v9 : Int32), ivI cA h ab ac ar S false w → LR cA w ws mu → wpL_law_L1245 cB Post  n S mu u v1 v7 v8 v9 → Kf p l e room_1 s m #[Value.ref b] below meth c D (fun q => s.heap.size ≤ q) 28 u (16 * u) Q ws 1245 [(0, .ref b), (1, .int v1), (2, .int (0 : Int32)), (3, .ref (h 0)), (7, .ref v7), (8, .int v8), (9, .int v9)] [] := by
    intro  n
    induction n with
    | zero =>
      intro ws w S mu u v1 v7 v8 v9 hI hR H
      exact H.elim
    | succ nn1245 ih1245 =>
      intro ws w S mu u v1 v7 v8 v9 hI hR H
      have H : ((8 : Int32) ≤ v9 → wpL_law_b1294 cB Post  S mu u v1) ∧ (¬ (8 : Int32) ≤ v9 → (v8 ≤ v9 → wpL_law_b1294 cB Post  S mu u v1) ∧ (¬ v8 ≤ v9 → (v1 = 0 → wpL_law_b1294 cB Post  S mu u v1) ∧ (¬ v1 = 0 → u ≤ cB ∧ ∀ S17, S17 = (s_undo S).2.2.2 → ∀ r17, r17 = (s_undo S).2.1 → (r17 < 0 → wpL_law_b1286 cB Post (wpL_law_L1245 cB Post  nn1245) S17 mu u v7 v8 v9) ∧ (¬ r17 < 0 → ∃ n18 f18 k18, mQ mu v7 = some (3, n18, f18) ∧ v9 = nI k18 ∧ k18 < n18 ∧ n18 ≤ 1000 ∧ ∃ a18, f18 k18 = some a18 ∧ ∃ q19, u + q19 ≤ cB ∧ wpL_agrees q19 S17 mu a18 (fun r19 S19 mu19 => (r19 = 0 → wpL_law_b1286 cB Post (wpL_law_L1245 cB Post  nn1245) S19 mu19 (u + q19) v7 v8 v9) ∧ (¬ r19 = 0 → wpL_law_b1287 cB Post (wpL_law_L1245 cB Post  nn1245) S19 mu19 (u + q19) v7 v8 v9 (1 : Int32))))))) := H
      refine k_iload C 6 (pc := 1245) dL_law_1245 rfl ?_
      refine k_bipush C (pc := 1247) (v := (8 : Int32)) dL_law_1247 (by decide) ?_
      refine k_icmp_ge C (pc := 1249) (tgt := 1294) dL_law_1249 (by decide) (fun c_1249 => ?_) (fun c_1249 => ?_)
      · have H := H.1 c_1249
        refine k_lv (pc := 1294) [0, 1, 2, 3] (lv' := [(0, .ref b), (1, .int v1), (2, .int (0 : Int32)), (3, .ref (h 0))]) rfl ?_
        exact B1294  _ _ S mu u v1 hI hR H
      · have H := H.2 c_1249
        refine k_iload C 6 (pc := 1252) dL_law_1252 rfl ?_
        refine k_iload C 5 (pc := 1254) dL_law_1254 rfl ?_
        refine k_icmp_ge C (pc := 1256) (tgt := 1294) dL_law_1256 (by decide) (fun c_1256 => ?_) (fun c_1256 => ?_)
        · have H := H.1 c_1256
          refine k_lv (pc := 1294) [0, 1, 2, 3] (lv' := [(0, .ref b), (1, .int v1), (2, .int (0 : Int32)), (3, .ref (h 0))]) rfl ?_
          exact B1294  _ _ S mu u v1 hI hR H
        · have H := H.2 c_1256
          refine k_iload_n C 1 (pc := 1259) dL_law_1259 rfl rfl ?_
          refine k_if_eq C (pc := 1260) (tgt := 1294) dL_law_1260 (by decide) (fun c_1260 => ?_) (fun c_1260 => ?_)
          · have H := H.1 c_1260
            refine k_lv (pc := 1294) [0, 1, 2, 3] (lv' := [(0, .ref b), (1, .int v1), (2, .int (0 : Int32)), (3, .ref (h 0))]) rfl ?_
            exact B1294  _ _ S mu u v1 hI hR H
          · have H := H.2 c_1260
            refine k_aload_n C 3 (pc := 1263) dL_law_1263 rfl rfl ?_
            obtain ⟨hc_, H⟩ := H
            obtain ⟨l0_, e0_, hl_⟩ := hR
            obtain ⟨fs_, t_, hw_⟩ := hI.hd
            refine k_eq (pc := 1264) e0_ rfl rfl ?_
            refine k_onL C (pc := 1264) (k_runV C (As := []) (rest := []) (ci := 6) (q0 := 0) (xi_undo l D cA h ab ac ar hI) ⟨k_cwB C tW_2_11 tW_2_8 tW_1_1 okX6_undo rfl rfl ⟨Nat.le_of_ble_eq_true rfl, Nat.le_of_ble_eq_true rfl⟩, C.w tW_2_9, C.w tW_2_10⟩ (by rw [hw_]; rfl) rfl rfl rfl rfl (Nat.le_of_ble_eq_true rfl) dL_law_1264 (kw_rm (k := 0) hc_ (by decide) hRm)) (fun v_ w1 hv_ => ?_)
            obtain ⟨r17, rfl, -, hr1_, hI⟩ := hv_
            have hI := hI.weak
            obtain ⟨S17, hS1_⟩ : ∃ m_, m_ = (s_undo S).2.2.2 := ⟨_, rfl⟩
            rw [← hS1_] at hI
            have H := H S17 hS1_ r17 hr1_
            have hR : LR cA w1 (w1 ++ l0_) mu := ⟨l0_, rfl, hl_⟩
            refine k_eq (pc := 1267) (st' := [.int r17]) rfl rfl rfl ?_
            refine k_widen (k := u) (n := 16 * u) (Nat.le_refl _) (Nat.le_refl _) ?_
            refine k_if_lt C (pc := 1267) (tgt := 1286) dL_law_1267 (by decide) (fun c_1267 => ?_) (fun c_1267 => ?_)
            · have H := H.1 c_1267
              refine k_lv (pc := 1286) [0, 2, 3, 4, 5, 6] (lv' := [(0, .ref b), (2, .int (0 : Int32)), (3, .ref (h 0)), (7, .ref v7), (8, .int v8), (9, .int v9)]) rfl ?_
              exact B1286 (wpL_law_L1245 cB Post  nn1245) ih1245 _ _ S17 mu u v7 v8 v9 hI hR H
            · have H := H.2 c_1267
              refine k_aload_n C 3 (pc := 1270) dL_law_1270 rfl rfl ?_
              refine k_aload C 4 (pc := 1271) dL_law_1271 rfl ?_
              refine k_iload C 6 (pc := 1273) dL_law_1273 rfl ?_
              obtain ⟨n18, f18, k18, hx_, hk_, hl_, hn_, H⟩ := H
              refine k_eq (pc := 1275) (st' := [.int (nI k18), .ref v7, .ref (h 0)]) rfl rfl (by rw [hk_]) ?_
              obtain ⟨a18, ha18, H⟩ := H
              refine l_aald C hR (pc := 1275) (Or.inr rfl) hx_ hl_ hn_ dL_law_1275 ?_
              refine k_eq (pc := 1276) (st' := [.ref a18, .ref (h 0)]) rfl rfl (by rw [ha18]; rfl) ?_
              obtain ⟨q19, hc_, H⟩ := H
              refine k_callAi C (pc := 1276) (kw_runS C hE hF (As := [.ref (h 0), .ref a18]) (rest := []) (conL_agrees l D cA h ab ac ar hst q19 S17 mu a18 _  H hI hR) ⟨k_cwB C tW_6_44 tW_6_42 tW_1_0 okL_agrees rfl rfl ⟨Nat.le_of_ble_eq_true rfl, Nat.le_of_ble_eq_true rfl⟩, C.w tW_6_43⟩ rfl rfl (Nat.le_of_ble_eq_true rfl) dL_law_1276 (kw_rm hc_ (Nat.le_refl _) hRm)) (fun r19 w1 hw_ => ?_)
              obtain ⟨w_, S19, mu19, hI, hR, H⟩ := hw_
              refine k_sl ?_
              refine k_if_eq C (pc := 1279) (tgt := 1286) dL_law_1279 (by decide) (fun c_1279 => ?_) (fun c_1279 => ?_)
              · have H := H.1 c_1279
                refine k_lv (pc := 1286) [0, 2, 3, 4, 5, 6] (lv' := [(0, .ref b), (2, .int (0 : Int32)), (3, .ref (h 0)), (7, .ref v7), (8, .int v8), (9, .int v9)]) rfl ?_
                exact B1286 (wpL_law_L1245 cB Post  nn1245) ih1245 _ _ S19 mu19 (u + q19) v7 v8 v9 hI hR H
              · have H := H.2 c_1279
                refine k_iconst C (pc := 1282) (v := (1 : Int32)) dL_law_1282 rfl ?_
                refine k_goto C (pc := 1283) (tgt := 1287) dL_law_1283 (by decide) ?_
                refine k_lv (pc := 1287) [0, 2, 3, 4, 5, 6] (lv' := [(0, .ref b), (2, .int (0 : Int32)), (3, .ref (h 0)), (7, .ref v7), (8, .int v8), (9, .int v9)]) rfl ?_
                exact B1287 (wpL_law_L1245 cB Post  nn1245) ih1245 _ _ S19 mu19 (u + q19) v7 v8 v9 (1 : Int32) hI hR H
  have B1242 : ∀  (ws w : va_W) (S : ivS) (mu : Mu) (u : Nat) (v1 : Int32) (v7 : Nat) (v8 : Int32), ivI cA h ab ac ar S false w → LR cA w ws mu → wpL_law_b1242 cB Post  S mu u v1 v7 v8 → Kf p l e room_1 s m #[Value.ref b] below meth c D (fun q => s.heap.size ≤ q) 28 u (16 * u) Q ws 1242 [(0, .ref b), (1, .int v1), (2, .int (0 : Int32)), (3, .ref (h 0)), (7, .ref v7), (8, .int v8)] [] := by
    intro  ws w S mu u v1 v7 v8 hI hR H
    have H : ∃ m_, wpL_law_L1245 cB Post  m_ S mu u v1 v7 v8 (0 : Int32) := H
    refine k_iconst C (pc := 1242) (v := (0 : Int32)) dL_law_1242 rfl ?_
    refine k_istore C (pc := 1243) dL_law_1243 (Nat.lt_of_lt_of_le (Nat.lt_succ_self _) (Nat.le_of_ble_eq_true rfl)) (lv' := [(9, .int (0 : Int32)), (0, .ref b), (1, .int v1), (2, .int (0 : Int32)), (3, .ref (h 0)), (7, .ref v7), (8, .int v8)]) rfl ?_
    obtain ⟨n_, H⟩ := H
    refine k_lv (pc := 1245) [1, 2, 3, 4, 5, 6, 0] (lv' := [(0, .ref b), (1, .int v1), (2, .int (0 : Int32)), (3, .ref (h 0)), (7, .ref v7), (8, .int v8), (9, .int (0 : Int32))]) rfl ?_
    exact B1245  n_ _ _ S mu u v1 v7 v8 (0 : Int32) hI hR H
  have B1235 : ∀ (K228 : ivS → Mu → Nat → Int32 → Nat → Nat → Nat → Int32 → Int32 → Prop) (hK228 : ∀ (ws w : va_W) (S : ivS) (mu : Mu) (u : Nat) (v1 : Int32) (v5 : Nat) (v6 : Nat) (v7 : Nat) (v8 : Int32) (v9 : Int32), ivI cA h ab ac ar S false w → LR cA w ws mu → K228 S mu u v1 v5 v6 v7 v8 v9 → Kf p l e room_1 s m #[Value.ref b] below meth c D (fun q => s.heap.size ≤ q) 28 u (16 * u) Q ws 228 [(0, .ref b), (1, .int v1), (2, .int (0 : Int32)), (3, .ref (h 0)), (5, .ref v5), (6, .ref v6), (7, .ref v7), (8, .int v8), (9, .int v9)] []) (ws w : va_W) (S : ivS) (mu : Mu) (u : Nat) (v5 : Nat) (v6 : Nat) (v7 : Nat) (v8 : Int32) (v9 : Int32) (s0 : Int32), ivI cA h ab ac ar S false w → LR cA w ws mu → wpL_law_b1235 cB Post K228 S mu u v5 v6 v7 v8 v9 s0 → Kf p l e room_1 s m #[Value.ref b] below meth c D (fun q => s.heap.size ≤ q) 28 u (16 * u) Q ws 1235 [(0, .ref b), (2, .int (0 : Int32)), (3, .ref (h 0)), (5, .ref v5), (6, .ref v6), (7, .ref v7), (8, .int v8), (9, .int v9)] [.int s0] := by
    intro K228 hK228 ws w S mu u v5 v6 v7 v8 v9 s0 hI hR H
    have H : K228 S mu u s0 v5 v6 v7 v8 (v9 + (1 : Int32)) := H
    refine k_istore_n C (pc := 1235) dL_law_1235 rfl (Nat.lt_of_lt_of_le (Nat.lt_succ_self _) (Nat.le_of_ble_eq_true rfl)) (lv' := [(1, .int s0), (0, .ref b), (2, .int (0 : Int32)), (3, .ref (h 0)), (5, .ref v5), (6, .ref v6), (7, .ref v7), (8, .int v8), (9, .int v9)]) rfl ?_
    refine k_iinc C (pc := 1236) (k := 8) (v := v9 + (1 : Int32)) dL_law_1236 rfl rfl (Nat.lt_of_lt_of_le (Nat.lt_succ_self _) (Nat.le_of_ble_eq_true rfl)) (lv' := [(9, .int (v9 + (1 : Int32))), (1, .int s0), (0, .ref b), (2, .int (0 : Int32)), (3, .ref (h 0)), (5, .ref v5), (6, .ref v6), (7, .ref v7), (8, .int v8)]) rfl ?_
    refine k_goto C (pc := 1239) (tgt := 228) dL_law_1239 (by decide) ?_
    refine k_lv (pc := 228) [2, 1, 3, 4, 5, 6, 7, 8, 0] (lv' := [(0, .ref b), (1, .int s0), (2, .int (0 : Int32)), (3, .ref (h 0)), (5, .ref v5), (6, .ref v6), (7, .ref v7), (8, .int v8), (9, .int (v9 + (1 : Int32)))]) rfl ?_
    exact hK228 _ _ S mu u s0 v5 v6 v7 v8 (v9 + (1 : Int32)) hI hR H
  have B1234 : ∀ (K228 : ivS → Mu → Nat → Int32 → Nat → Nat → Nat → Int32 → Int32 → Prop) (hK228 : ∀ (ws w : va_W) (S : ivS) (mu : Mu) (u : Nat) (v1 : Int32) (v5 : Nat) (v6 : Nat) (v7 : Nat) (v8 : Int32) (v9 : Int32), ivI cA h ab ac ar S false w → LR cA w ws mu → K228 S mu u v1 v5 v6 v7 v8 v9 → Kf p l e room_1 s m #[Value.ref b] below meth c D (fun q => s.heap.size ≤ q) 28 u (16 * u) Q ws 228 [(0, .ref b), (1, .int v1), (2, .int (0 : Int32)), (3, .ref (h 0)), (5, .ref v5), (6, .ref v6), (7, .ref v7), (8, .int v8), (9, .int v9)] []) (ws w : va_W) (S : ivS) (mu : Mu) (u : Nat) (v5 : Nat) (v6 : Nat) (v7 : Nat) (v8 : Int32) (v9 : Int32), ivI cA h ab ac ar S false w → LR cA w ws mu → wpL_law_b1234 cB Post K228 S mu u v5 v6 v7 v8 v9 → Kf p l e room_1 s m #[Value.ref b] below meth c D (fun q => s.heap.size ≤ q) 28 u (16 * u) Q ws 1234 [(0, .ref b), (2, .int (0 : Int32)), (3, .ref (h 0)), (5, .ref v5), (6, .ref v6), (7, .ref v7), (8, .int v8), (9, .int v9)] [] := by
    intro K228 hK228 ws w S mu u v5 v6 v7 v8 v9 hI hR H
    have H : wpL_law_b1235 cB Post K228 S mu u v5 v6 v7 v8 v9 (0 : Int32) := H
    refine k_iconst C (pc := 1234) (v := (0 : Int32)) dL_law_1234 rfl ?_
    refine k_lv (pc := 1235) [0, 1, 2, 3, 4, 5, 6, 7] (lv' := [(0, .ref b), (2, .int (0 : Int32)), (3, .ref (h 0)), (5, .ref v5), (6, .ref v6), (7, .ref v7), (8, .int v8), (9, .int v9)]) rfl ?_
    exact B1235 K228 hK228 _ _ S mu u v5 v6 v7 v8 v9 (0 : Int32) hI hR H
  have B1217 : ∀ (K228 : ivS → Mu → Nat → Int32 → Nat → Nat → Nat → Int32 → Int32 → Prop) (hK228 : ∀ (ws w : va_W) (S : ivS) (mu : Mu) (u : Nat) (v1 : Int32) (v5 : Nat) (v6 : Nat) (v7 : Nat) (v8 : Int32) (v9 : Int32), ivI cA h ab ac ar S false w → LR cA w ws mu → K228 S mu u v1 v5 v6 v7 v8 v9 → Kf p l e room_1 s m #[Value.ref b] below meth c D (fun q => s.heap.size ≤ q) 28 u (16 * u) Q ws 228 [(0, .ref b), (1, .int v1), (2, .int (0 : Int32)), (3, .ref (h 0)), (5, .ref v5), (6, .ref v6), (7, .ref v7), (8, .int v8), (9, .int v9)] []) (ws w : va_W) (S : ivS) (mu : Mu) (u : Nat) (v1 : Int32) (v5 : Nat) (v6 : Nat) (v7 : Nat) (v8 : Int32) (v9 : Int32), ivI cA h ab ac ar S false w → LR cA w ws mu → wpL_law_b1217 cB Post K228 S mu u v1 v5 v6 v7 v8 v9 → Kf p l e room_1 s m #[Value.ref b] below meth c D (fun q => s.heap.size ≤ q) 28 u (16 * u) Q ws 1217 [(0, .ref b), (1, .int v1), (2, .int (0 : Int32)), (3, .ref (h 0)), (5, .ref v5), (6, .ref v6), (7, .ref v7), (8, .int v8), (9, .int v9)] [] := by
    intro K228 hK228 ws w S mu u v1 v5 v6 v7 v8 v9 hI hR H
    have H : (v1 = 0 → wpL_law_b1234 cB Post K228 S mu u v5 v6 v7 v8 v9) ∧ (¬ v1 = 0 → ∃ q40, u + q40 ≤ cB ∧ wpL_agrees q40 S mu v6 (fun r40 S40 mu40 => (r40 = 0 → wpL_law_b1234 cB Post K228 S40 mu40 (u + q40) v5 v6 v7 v8 v9) ∧ (¬ r40 = 0 → wpL_law_b1235 cB Post K228 S40 mu40 (u + q40) v5 v6 v7 v8 v9 (1 : Int32)))) := H
    refine k_iload_n C 1 (pc := 1217) dL_law_1217 rfl rfl ?_
    refine k_if_eq C (pc := 1218) (tgt := 1234) dL_law_1218 (by decide) (fun c_1218 => ?_) (fun c_1218 => ?_)
    · have H := H.1 c_1218
      refine k_lv (pc := 1234) [0, 2, 3, 4, 5, 6, 7, 8] (lv' := [(0, .ref b), (2, .int (0 : Int32)), (3, .ref (h 0)), (5, .ref v5), (6, .ref v6), (7, .ref v7), (8, .int v8), (9, .int v9)]) rfl ?_
      exact B1234 K228 hK228 _ _ S mu u v5 v6 v7 v8 v9 hI hR H
    · have H := H.2 c_1218
      refine k_aload_n C 3 (pc := 1221) dL_law_1221 rfl rfl ?_
      refine k_aload C 5 (pc := 1222) dL_law_1222 rfl ?_
      obtain ⟨q40, hc_, H⟩ := H
      refine k_callAi C (pc := 1224) (kw_runS C hE hF (As := [.ref (h 0), .ref v6]) (rest := []) (conL_agrees l D cA h ab ac ar hst q40 S mu v6 _  H hI hR) ⟨k_cwB C tW_6_44 tW_6_42 tW_1_0 okL_agrees rfl rfl ⟨Nat.le_of_ble_eq_true rfl, Nat.le_of_ble_eq_true rfl⟩, C.w tW_6_43⟩ rfl rfl (Nat.le_of_ble_eq_true rfl) dL_law_1224 (kw_rm hc_ (Nat.le_refl _) hRm)) (fun r40 w1 hw_ => ?_)
      obtain ⟨w_, S40, mu40, hI, hR, H⟩ := hw_
      refine k_sl ?_
      refine k_if_eq C (pc := 1227) (tgt := 1234) dL_law_1227 (by decide) (fun c_1227 => ?_) (fun c_1227 => ?_)
      · have H := H.1 c_1227
        refine k_lv (pc := 1234) [0, 2, 3, 4, 5, 6, 7, 8] (lv' := [(0, .ref b), (2, .int (0 : Int32)), (3, .ref (h 0)), (5, .ref v5), (6, .ref v6), (7, .ref v7), (8, .int v8), (9, .int v9)]) rfl ?_
        exact B1234 K228 hK228 _ _ S40 mu40 (u + q40) v5 v6 v7 v8 v9 hI hR H
      · have H := H.2 c_1227
        refine k_iconst C (pc := 1230) (v := (1 : Int32)) dL_law_1230 rfl ?_
        refine k_goto C (pc := 1231) (tgt := 1235) dL_law_1231 (by decide) ?_
        refine k_lv (pc := 1235) [0, 2, 3, 4, 5, 6, 7, 8] (lv' := [(0, .ref b), (2, .int (0 : Int32)), (3, .ref (h 0)), (5, .ref v5), (6, .ref v6), (7, .ref v7), (8, .int v8), (9, .int v9)]) rfl ?_
        exact B1235 K228 hK228 _ _ S40 mu40 (u + q40) v5 v6 v7 v8 v9 (1 : Int32) hI hR H
  have B1185 : ∀ (K228 : ivS → Mu → Nat → Int32 → Nat → Nat → Nat → Int32 → Int32 → Prop) (hK228 : ∀ (ws w : va_W) (S : ivS) (mu : Mu) (u : Nat) (v1 : Int32) (v5 : Nat) (v6 : Nat) (v7 : Nat) (v8 : Int32) (v9 : Int32), ivI cA h ab ac ar S false w → LR cA w ws mu → K228 S mu u v1 v5 v6 v7 v8 v9 → Kf p l e room_1 s m #[Value.ref b] below meth c D (fun q => s.heap.size ≤ q) 28 u (16 * u) Q ws 228 [(0, .ref b), (1, .int v1), (2, .int (0 : Int32)), (3, .ref (h 0)), (5, .ref v5), (6, .ref v6), (7, .ref v7), (8, .int v8), (9, .int v9)] []) (n : Nat) (ws w : va_W) (S : ivS) (mu : Mu) (u : Nat) (v1 : Int32) (v5 : Nat) (v6 : Nat) (v7 : Nat) (v8 : Int32) (v9 : Int32) (v10 : Nat) (v15 : Int32), ivI cA h ab ac ar S false w → LR cA w ws mu → wpL_law_L1185 cB Post K228 n S mu u v1 v5 v6 v7 v8 v9 v10 v15 → Kf p l e room_1 s m #[Value.ref b] below meth c D (fun q => s.heap.size ≤ q) 28 u (16 * u) Q ws 1185 [(0, .ref b), (1, .int v1), (2, .int (0 : Int32)), (3, .ref (h 0)), (5, .ref v5), (6, .ref v6), (7, .ref v7), (8, .int v8), (9, .int v9), (10, .ref v10), (15, .int v15)] [] := by
    intro K228 hK228 n
    induction n with
    | zero =>
      intro ws w S mu u v1 v5 v6 v7 v8 v9 v10 v15 hI hR H
      exact H.elim
    | succ nn1185 ih1185 =>
      intro ws w S mu u v1 v5 v6 v7 v8 v9 v10 v15 hI hR H
      have H : (v15 ≤ 0 → ∃ n41 f41 k41, mQ mu v7 = some (3, n41, f41) ∧ (0 : Int32) = nI k41 ∧ k41 < n41 ∧ n41 ≤ 1000 ∧ ∃ x41, mB mu v10 = some x41 ∧ ∀ mu42, mu42 = sQ mu v7 (3, n41, va_up f41 k41 (some v10)) → wpL_law_b1217 cB Post K228 S mu42 u v1 v5 v6 v7 (v8 + (1 : Int32)) v9) ∧ (¬ v15 ≤ 0 → ∃ n43 f43 k43, mQ mu v7 = some (3, n43, f43) ∧ v15 - (1 : Int32) = nI k43 ∧ k43 < n43 ∧ n43 ≤ 1000 ∧ (f43 k43 = none → ∃ n44 f44 k44, mQ mu v7 = some (3, n44, f44) ∧ v15 = nI k44 ∧ k44 < n44 ∧ n44 ≤ 1000 ∧ ∀ mu45, mu45 = sQ mu v7 (3, n44, va_up f44 k44 none) → (wpL_law_L1185 cB Post K228 nn1185) S mu45 u v1 v5 v6 v7 v8 v9 v10 (v15 + (-1 : Int32))) ∧ (∀ a43, f43 k43 = some a43 → ∃ n46 f46 k46, mQ mu v7 = some (3, n46, f46) ∧ v15 = nI k46 ∧ k46 < n46 ∧ n46 ≤ 1000 ∧ ∃ x46, mB mu a43 = some x46 ∧ ∀ mu47, mu47 = sQ mu v7 (3, n46, va_up f46 k46 (some a43)) → (wpL_law_L1185 cB Post K228 nn1185) S mu47 u v1 v5 v6 v7 v8 v9 v10 (v15 + (-1 : Int32)))) := H
      refine k_iload C 10 (pc := 1185) dL_law_1185 rfl ?_
      refine k_if_le C (pc := 1187) (tgt := 1208) dL_law_1187 (by decide) (fun c_1187 => ?_) (fun c_1187 => ?_)
      · have H := H.1 c_1187
        refine k_aload C 6 (pc := 1208) dL_law_1208 rfl ?_
        refine k_iconst C (pc := 1210) (v := (0 : Int32)) dL_law_1210 rfl ?_
        refine k_aload C 9 (pc := 1211) dL_law_1211 rfl ?_
        obtain ⟨n41, f41, k41, hx_, hk_, hl_, hn_, H⟩ := H
        refine k_eq (pc := 1213) (st' := [.ref v10, .int (nI k41), .ref v7]) rfl rfl (by rw [hk_]) ?_
        obtain ⟨x41, hy_, H⟩ := H
        refine l_aastB C hR (pc := 1213) hx_ hy_ hl_ hn_ dL_law_1213 (fun w1 hR => ?_)
        obtain ⟨mu42, hm42⟩ : ∃ m_, m_ = sQ mu v7 (3, n41, va_up f41 k41 (some v10)) := ⟨_, rfl⟩
        rw [← hm42] at hR
        have H := H mu42 hm42
        refine k_iinc C (pc := 1214) (k := 7) (v := v8 + (1 : Int32)) dL_law_1214 rfl rfl (Nat.lt_of_lt_of_le (Nat.lt_succ_self _) (Nat.le_of_ble_eq_true rfl)) (lv' := [(8, .int (v8 + (1 : Int32))), (0, .ref b), (1, .int v1), (2, .int (0 : Int32)), (3, .ref (h 0)), (5, .ref v5), (6, .ref v6), (7, .ref v7), (9, .int v9), (10, .ref v10), (15, .int v15)]) rfl ?_
        refine k_lv (pc := 1217) [1, 2, 3, 4, 5, 6, 7, 0, 8] (lv' := [(0, .ref b), (1, .int v1), (2, .int (0 : Int32)), (3, .ref (h 0)), (5, .ref v5), (6, .ref v6), (7, .ref v7), (8, .int (v8 + (1 : Int32))), (9, .int v9)]) rfl ?_
        exact B1217 K228 hK228 _ _ S mu42 u v1 v5 v6 v7 (v8 + (1 : Int32)) v9 hI hR H
      · have H := H.2 c_1187
        refine k_aload C 6 (pc := 1190) dL_law_1190 rfl ?_
        refine k_iload C 10 (pc := 1192) dL_law_1192 rfl ?_
        refine k_aload C 6 (pc := 1194) dL_law_1194 rfl ?_
        refine k_iload C 10 (pc := 1196) dL_law_1196 rfl ?_
        refine k_iconst C (pc := 1198) (v := (1 : Int32)) dL_law_1198 rfl ?_
        refine k_isub C (pc := 1199) dL_law_1199 ?_
        obtain ⟨n43, f43, k43, hx_, hk_, hl_, hn_, H⟩ := H
        refine k_eq (pc := 1200) (st' := [.int (nI k43), .ref v7, .int v15, .ref v7]) rfl rfl (by rw [hk_]) ?_
        refine l_aald C hR (pc := 1200) (Or.inr rfl) hx_ hl_ hn_ dL_law_1200 ?_
        by_cases hz_1200 : f43 k43 = none
        · have H := H.1 hz_1200
          refine k_eq (pc := 1201) (st' := [.null, .int v15, .ref v7]) rfl rfl (by rw [hz_1200]; rfl) ?_
          obtain ⟨n44, f44, k44, hx_, hk_, hl_, hn_, H⟩ := H
          refine k_eq (pc := 1201) (st' := [.null, .int (nI k44), .ref v7]) rfl rfl (by rw [hk_]) ?_
          refine l_aastN C hR (pc := 1201) hx_ hl_ hn_ dL_law_1201 (fun w1 hR => ?_)
          obtain ⟨mu45, hm45⟩ : ∃ m_, m_ = sQ mu v7 (3, n44, va_up f44 k44 none) := ⟨_, rfl⟩
          rw [← hm45] at hR
          have H := H mu45 hm45
          refine k_iinc C (pc := 1202) (k := 10) (v := v15 + (-1 : Int32)) dL_law_1202 rfl rfl (Nat.lt_of_lt_of_le (Nat.lt_succ_self _) (Nat.le_of_ble_eq_true rfl)) (lv' := [(15, .int (v15 + (-1 : Int32))), (0, .ref b), (1, .int v1), (2, .int (0 : Int32)), (3, .ref (h 0)), (5, .ref v5), (6, .ref v6), (7, .ref v7), (8, .int v8), (9, .int v9), (10, .ref v10)]) rfl ?_
          refine k_goto C (pc := 1205) (tgt := 1185) dL_law_1205 (by decide) ?_
          refine k_lv (pc := 1185) [1, 2, 3, 4, 5, 6, 7, 8, 9, 10, 0] (lv' := [(0, .ref b), (1, .int v1), (2, .int (0 : Int32)), (3, .ref (h 0)), (5, .ref v5), (6, .ref v6), (7, .ref v7), (8, .int v8), (9, .int v9), (10, .ref v10), (15, .int (v15 + (-1 : Int32)))]) rfl ?_
          exact ih1185 _ _ S mu45 u v1 v5 v6 v7 v8 v9 v10 (v15 + (-1 : Int32)) hI hR H
        · obtain ⟨a43, ha43⟩ := Option.ne_none_iff_exists'.mp hz_1200
          have H := H.2 a43 ha43
          refine k_eq (pc := 1201) (st' := [.ref a43, .int v15, .ref v7]) rfl rfl (by rw [ha43]; rfl) ?_
          obtain ⟨n46, f46, k46, hx_, hk_, hl_, hn_, H⟩ := H
          refine k_eq (pc := 1201) (st' := [.ref a43, .int (nI k46), .ref v7]) rfl rfl (by rw [hk_]) ?_
          obtain ⟨x46, hy_, H⟩ := H
          refine l_aastB C hR (pc := 1201) hx_ hy_ hl_ hn_ dL_law_1201 (fun w1 hR => ?_)
          obtain ⟨mu47, hm47⟩ : ∃ m_, m_ = sQ mu v7 (3, n46, va_up f46 k46 (some a43)) := ⟨_, rfl⟩
          rw [← hm47] at hR
          have H := H mu47 hm47
          refine k_iinc C (pc := 1202) (k := 10) (v := v15 + (-1 : Int32)) dL_law_1202 rfl rfl (Nat.lt_of_lt_of_le (Nat.lt_succ_self _) (Nat.le_of_ble_eq_true rfl)) (lv' := [(15, .int (v15 + (-1 : Int32))), (0, .ref b), (1, .int v1), (2, .int (0 : Int32)), (3, .ref (h 0)), (5, .ref v5), (6, .ref v6), (7, .ref v7), (8, .int v8), (9, .int v9), (10, .ref v10)]) rfl ?_
          refine k_goto C (pc := 1205) (tgt := 1185) dL_law_1205 (by decide) ?_
          refine k_lv (pc := 1185) [1, 2, 3, 4, 5, 6, 7, 8, 9, 10, 0] (lv' := [(0, .ref b), (1, .int v1), (2, .int (0 : Int32)), (3, .ref (h 0)), (5, .ref v5), (6, .ref v6), (7, .ref v7), (8, .int v8), (9, .int v9), (10, .ref v10), (15, .int (v15 + (-1 : Int32)))]) rfl ?_
          exact ih1185 _ _ S mu47 u v1 v5 v6 v7 v8 v9 v10 (v15 + (-1 : Int32)) hI hR H
  have B1176 : ∀ (K228 : ivS → Mu → Nat → Int32 → Nat → Nat → Nat → Int32 → Int32 → Prop) (hK228 : ∀ (ws w : va_W) (S : ivS) (mu : Mu) (u : Nat) (v1 : Int32) (v5 : Nat) (v6 : Nat) (v7 : Nat) (v8 : Int32) (v9 : Int32), ivI cA h ab ac ar S false w → LR cA w ws mu → K228 S mu u v1 v5 v6 v7 v8 v9 → Kf p l e room_1 s m #[Value.ref b] below meth c D (fun q => s.heap.size ≤ q) 28 u (16 * u) Q ws 228 [(0, .ref b), (1, .int v1), (2, .int (0 : Int32)), (3, .ref (h 0)), (5, .ref v5), (6, .ref v6), (7, .ref v7), (8, .int v8), (9, .int v9)] []) (ws w : va_W) (S : ivS) (mu : Mu) (u : Nat) (v1 : Int32) (v5 : Nat) (v6 : Nat) (v7 : Nat) (v8 : Int32) (v9 : Int32) (v10 : Nat) (v11 : Int32), ivI cA h ab ac ar S false w → LR cA w ws mu → wpL_law_b1176 cB Post K228 S mu u v1 v5 v6 v7 v8 v9 v10 v11 → Kf p l e room_1 s m #[Value.ref b] below meth c D (fun q => s.heap.size ≤ q) 28 u (16 * u) Q ws 1176 [(0, .ref b), (1, .int v1), (2, .int (0 : Int32)), (3, .ref (h 0)), (5, .ref v5), (6, .ref v6), (7, .ref v7), (8, .int v8), (9, .int v9), (10, .ref v10), (11, .int v11)] [] := by
    intro K228 hK228 ws w S mu u v1 v5 v6 v7 v8 v9 v10 v11 hI hR H
    have H : (v11 = 0 → wpL_law_b1217 cB Post K228 S mu u v1 v5 v6 v7 v8 v9) ∧ (¬ v11 = 0 → ∃ m_, wpL_law_L1185 cB Post K228 m_ S mu u v1 v5 v6 v7 v8 v9 v10 (8 : Int32)) := H
    refine k_iload C 10 (pc := 1176) dL_law_1176 rfl ?_
    refine k_if_eq C (pc := 1178) (tgt := 1217) dL_law_1178 (by decide) (fun c_1178 => ?_) (fun c_1178 => ?_)
    · have H := H.1 c_1178
      refine k_lv (pc := 1217) [0, 1, 2, 3, 4, 5, 6, 7, 8] (lv' := [(0, .ref b), (1, .int v1), (2, .int (0 : Int32)), (3, .ref (h 0)), (5, .ref v5), (6, .ref v6), (7, .ref v7), (8, .int v8), (9, .int v9)]) rfl ?_
      exact B1217 K228 hK228 _ _ S mu u v1 v5 v6 v7 v8 v9 hI hR H
    · have H := H.2 c_1178
      refine k_bipush C (pc := 1181) (v := (8 : Int32)) dL_law_1181 (by decide) ?_
      refine k_istore C (pc := 1183) dL_law_1183 (Nat.lt_of_lt_of_le (Nat.lt_succ_self _) (Nat.le_of_ble_eq_true rfl)) (lv' := [(15, .int (8 : Int32)), (0, .ref b), (1, .int v1), (2, .int (0 : Int32)), (3, .ref (h 0)), (5, .ref v5), (6, .ref v6), (7, .ref v7), (8, .int v8), (9, .int v9), (10, .ref v10), (11, .int v11)]) rfl ?_
      obtain ⟨n_, H⟩ := H
      refine k_lv (pc := 1185) [1, 2, 3, 4, 5, 6, 7, 8, 9, 10, 0] (lv' := [(0, .ref b), (1, .int v1), (2, .int (0 : Int32)), (3, .ref (h 0)), (5, .ref v5), (6, .ref v6), (7, .ref v7), (8, .int v8), (9, .int v9), (10, .ref v10), (15, .int (8 : Int32))]) rfl ?_
      exact B1185 K228 hK228 n_ _ _ S mu u v1 v5 v6 v7 v8 v9 v10 (8 : Int32) hI hR H
  have B446 : ∀ (K228 : ivS → Mu → Nat → Int32 → Nat → Nat → Nat → Int32 → Int32 → Prop) (hK228 : ∀ (ws w : va_W) (S : ivS) (mu : Mu) (u : Nat) (v1 : Int32) (v5 : Nat) (v6 : Nat) (v7 : Nat) (v8 : Int32) (v9 : Int32), ivI cA h ab ac ar S false w → LR cA w ws mu → K228 S mu u v1 v5 v6 v7 v8 v9 → Kf p l e room_1 s m #[Value.ref b] below meth c D (fun q => s.heap.size ≤ q) 28 u (16 * u) Q ws 228 [(0, .ref b), (1, .int v1), (2, .int (0 : Int32)), (3, .ref (h 0)), (5, .ref v5), (6, .ref v6), (7, .ref v7), (8, .int v8), (9, .int v9)] []) (ws w : va_W) (S : ivS) (mu : Mu) (u : Nat) (v5 : Nat) (v6 : Nat) (v7 : Nat) (v8 : Int32) (v9 : Int32) (v10 : Nat) (v11 : Int32) (s0 : Int32), ivI cA h ab ac ar S false w → LR cA w ws mu → wpL_law_b446 cB Post K228 S mu u v5 v6 v7 v8 v9 v10 v11 s0 → Kf p l e room_1 s m #[Value.ref b] below meth c D (fun q => s.heap.size ≤ q) 28 u (16 * u) Q ws 446 [(0, .ref b), (2, .int (0 : Int32)), (3, .ref (h 0)), (5, .ref v5), (6, .ref v6), (7, .ref v7), (8, .int v8), (9, .int v9), (10, .ref v10), (11, .int v11)] [.int s0] := by
    intro K228 hK228 ws w S mu u v5 v6 v7 v8 v9 v10 v11 s0 hI hR H
    have H : wpL_law_b1176 cB Post K228 S mu u s0 v5 v6 v7 v8 v9 v10 v11 := H
    refine k_istore_n C (pc := 446) dL_law_446 rfl (Nat.lt_of_lt_of_le (Nat.lt_succ_self _) (Nat.le_of_ble_eq_true rfl)) (lv' := [(1, .int s0), (0, .ref b), (2, .int (0 : Int32)), (3, .ref (h 0)), (5, .ref v5), (6, .ref v6), (7, .ref v7), (8, .int v8), (9, .int v9), (10, .ref v10), (11, .int v11)]) rfl ?_
    refine k_goto C (pc := 447) (tgt := 1176) dL_law_447 (by decide) ?_
    refine k_lv (pc := 1176) [1, 0, 2, 3, 4, 5, 6, 7, 8, 9, 10] (lv' := [(0, .ref b), (1, .int s0), (2, .int (0 : Int32)), (3, .ref (h 0)), (5, .ref v5), (6, .ref v6), (7, .ref v7), (8, .int v8), (9, .int v9), (10, .ref v10), (11, .int v11)]) rfl ?_
    exact B1176 K228 hK228 _ _ S mu u s0 v5 v6 v7 v8 v9 v10 v11 hI hR H
  have B438 : ∀ (K228 : ivS → Mu → Nat → Int32 → Nat → Nat → Nat → Int32 → Int32 → Prop) (hK228 : ∀ (ws w : va_W) (S : ivS) (mu : Mu) (u : Nat) (v1 : Int32) (v5 : Nat) (v6 : Nat) (v7 : Nat) (v8 : Int32) (v9 : Int32), ivI cA h ab ac ar S false w → LR cA w ws mu → K228 S mu u v1 v5 v6 v7 v8 v9 → Kf p l e room_1 s m #[Value.ref b] below meth c D (fun q => s.heap.size ≤ q) 28 u (16 * u) Q ws 228 [(0, .ref b), (1, .int v1), (2, .int (0 : Int32)), (3, .ref (h 0)), (5, .ref v5), (6, .ref v6), (7, .ref v7), (8, .int v8), (9, .int v9)] []) (ws w : va_W) (S : ivS) (mu : Mu) (u : Nat) (v5 : Nat) (v6 : Nat) (v7 : Nat) (v8 : Int32) (v9 : Int32) (v10 : Nat) (v11 : Int32) (s0 : Int32) (s1 : Int32), ivI cA h ab ac ar S false w → LR cA w ws mu → wpL_law_b438 cB Post K228 S mu u v5 v6 v7 v8 v9 v10 v11 s0 s1 → Kf p l e room_1 s m #[Value.ref b] below meth c D (fun q => s.heap.size ≤ q) 28 u (16 * u) Q ws 438 [(0, .ref b), (2, .int (0 : Int32)), (3, .ref (h 0)), (5, .ref v5), (6, .ref v6), (7, .ref v7), (8, .int v8), (9, .int v9), (10, .ref v10), (11, .int v11)] [.int s1, .int s0] := by
    intro K228 hK228 ws w S mu u v5 v6 v7 v8 v9 v10 v11 s0 s1 hI hR H
    have H : (¬ s0 = s1 → wpL_law_b446 cB Post K228 S mu u v5 v6 v7 v8 v9 v10 v11 (0 : Int32)) ∧ (s0 = s1 → wpL_law_b446 cB Post K228 S mu u v5 v6 v7 v8 v9 v10 v11 (1 : Int32)) := H
    refine k_icmp_ne C (pc := 438) (tgt := 445) dL_law_438 (by decide) (fun c_438 => ?_) (fun c_438 => ?_)
    · have H := H.1 c_438
      refine k_iconst C (pc := 445) (v := (0 : Int32)) dL_law_445 rfl ?_
      refine k_lv (pc := 446) [0, 1, 2, 3, 4, 5, 6, 7, 8, 9] (lv' := [(0, .ref b), (2, .int (0 : Int32)), (3, .ref (h 0)), (5, .ref v5), (6, .ref v6), (7, .ref v7), (8, .int v8), (9, .int v9), (10, .ref v10), (11, .int v11)]) rfl ?_
      exact B446 K228 hK228 _ _ S mu u v5 v6 v7 v8 v9 v10 v11 (0 : Int32) hI hR H
    · have H := H.2 c_438
      refine k_iconst C (pc := 441) (v := (1 : Int32)) dL_law_441 rfl ?_
      refine k_goto C (pc := 442) (tgt := 446) dL_law_442 (by decide) ?_
      refine k_lv (pc := 446) [0, 1, 2, 3, 4, 5, 6, 7, 8, 9] (lv' := [(0, .ref b), (2, .int (0 : Int32)), (3, .ref (h 0)), (5, .ref v5), (6, .ref v6), (7, .ref v7), (8, .int v8), (9, .int v9), (10, .ref v10), (11, .int v11)]) rfl ?_
      exact B446 K228 hK228 _ _ S mu u v5 v6 v7 v8 v9 v10 v11 (1 : Int32) hI hR H
  have B408 : ∀ (K228 : ivS → Mu → Nat → Int32 → Nat → Nat → Nat → Int32 → Int32 → Prop) (hK228 : ∀ (ws w : va_W) (S : ivS) (mu : Mu) (u : Nat) (v1 : Int32) (v5 : Nat) (v6 : Nat) (v7 : Nat) (v8 : Int32) (v9 : Int32), ivI cA h ab ac ar S false w → LR cA w ws mu → K228 S mu u v1 v5 v6 v7 v8 v9 → Kf p l e room_1 s m #[Value.ref b] below meth c D (fun q => s.heap.size ≤ q) 28 u (16 * u) Q ws 228 [(0, .ref b), (1, .int v1), (2, .int (0 : Int32)), (3, .ref (h 0)), (5, .ref v5), (6, .ref v6), (7, .ref v7), (8, .int v8), (9, .int v9)] []) (ws w : va_W) (S : ivS) (mu : Mu) (u : Nat) (v5 : Nat) (v6 : Nat) (v7 : Nat) (v8 : Int32) (v9 : Int32) (v10 : Nat) (v11 : Int32) (v12 : Int32) (v13 : Int32) (v15 : Int32) (v16 : Int32), ivI cA h ab ac ar S false w → LR cA w ws mu → wpL_law_b408 cB Post K228 S mu u v5 v6 v7 v8 v9 v10 v11 v12 v13 v15 v16 → Kf p l e room_1 s m #[Value.ref b] below meth c D (fun q => s.heap.size ≤ q) 28 u (16 * u) Q ws 408 [(0, .ref b), (2, .int (0 : Int32)), (3, .ref (h 0)), (5, .ref v5), (6, .ref v6), (7, .ref v7), (8, .int v8), (9, .int v9), (10, .ref v10), (11, .int v11), (12, .int v12), (13, .int v13), (15, .int v15), (16, .int v16)] [] := by
    intro K228 hK228 ws w S mu u v5 v6 v7 v8 v9 v10 v11 v12 v13 v15 v16 hI hR H
    have H : u + 2 ≤ cB ∧ ∀ S39, S39 = (s_fix S v12 v15).2.2.2 → ∀ r39, r39 = an2 (s_fix S v12 v15) (-2000000097) (-2000000098) → (v11 = 0 → (v13 = 0 → wpL_law_b438 cB Post K228 S39 mu (u + 2) v5 v6 v7 v8 v9 v10 v11 r39 (-2000000097 : Int32)) ∧ (¬ v13 = 0 → wpL_law_b438 cB Post K228 S39 mu (u + 2) v5 v6 v7 v8 v9 v10 v11 r39 (-2000000098 : Int32))) ∧ (¬ v11 = 0 → wpL_law_b438 cB Post K228 S39 mu (u + 2) v5 v6 v7 v8 v9 v10 v11 r39 v16) := H
    refine k_aload_n C 2 (pc := 408) dL_law_408 rfl rfl ?_
    refine k_iload C 10 (pc := 409) dL_law_409 rfl ?_
    refine k_iload C 12 (pc := 411) dL_law_411 rfl ?_
    obtain ⟨hc_, H⟩ := H
    refine ky_callA C (pc := 413) (ky_runS C hE (As := [.ref (h 0), .int v12, .int v15]) (rest := []) (wl_fix l D cA h ab ac ar hst v12 v15 hI hR) (ky_cw C tYL_fix tW_4_179 tW_1_0 tW_4_180 okL_fix rfl rfl ⟨Nat.le_of_ble_eq_true rfl, Nat.le_of_ble_eq_true rfl⟩) rfl rfl (Nat.le_of_ble_eq_true rfl) dL_law_413 (kw_rm hc_ (by decide) hRm)) (fun v_ w1 hv_ => ?_)
    obtain ⟨r39, rfl, w_, hI, hR, hr1_⟩ := hv_
    have hI := hI.weak
    obtain ⟨S39, hS1_⟩ : ∃ m_, m_ = (s_fix S v12 v15).2.2.2 := ⟨_, rfl⟩
    rw [← hS1_] at hI
    have H := H S39 hS1_ r39 hr1_
    refine k_eq (pc := 416) (st' := .int r39 :: []) rfl rfl rfl ?_
    refine k_widen (k := u + 2) (n := 16 * (u + 2)) (Nat.le_refl _) (by omega) ?_
    refine k_iload C 9 (pc := 416) dL_law_416 rfl ?_
    refine k_if_eq C (pc := 418) (tgt := 426) dL_law_418 (by decide) (fun c_418 => ?_) (fun c_418 => ?_)
    · have H := H.1 c_418
      refine k_iload C 11 (pc := 426) dL_law_426 rfl ?_
      refine k_if_eq C (pc := 428) (tgt := 436) dL_law_428 (by decide) (fun c_428 => ?_) (fun c_428 => ?_)
      · have H := H.1 c_428
        refine k_ldc C (pc := 436) (v := (-2000000097 : Int32)) tW_3_203 dL_law_436 ?_
        refine k_lv (pc := 438) [0, 1, 2, 3, 4, 5, 6, 7, 8, 9] (lv' := [(0, .ref b), (2, .int (0 : Int32)), (3, .ref (h 0)), (5, .ref v5), (6, .ref v6), (7, .ref v7), (8, .int v8), (9, .int v9), (10, .ref v10), (11, .int v11)]) rfl ?_
        exact B438 K228 hK228 _ _ S39 mu (u + 2) v5 v6 v7 v8 v9 v10 v11 r39 (-2000000097 : Int32) hI hR H
      · have H := H.2 c_428
        refine k_ldc C (pc := 431) (v := (-2000000098 : Int32)) tW_3_155 dL_law_431 ?_
        refine k_goto C (pc := 433) (tgt := 438) dL_law_433 (by decide) ?_
        refine k_lv (pc := 438) [0, 1, 2, 3, 4, 5, 6, 7, 8, 9] (lv' := [(0, .ref b), (2, .int (0 : Int32)), (3, .ref (h 0)), (5, .ref v5), (6, .ref v6), (7, .ref v7), (8, .int v8), (9, .int v9), (10, .ref v10), (11, .int v11)]) rfl ?_
        exact B438 K228 hK228 _ _ S39 mu (u + 2) v5 v6 v7 v8 v9 v10 v11 r39 (-2000000098 : Int32) hI hR H
    · have H := H.2 c_418
      refine k_iload C 13 (pc := 421) dL_law_421 rfl ?_
      refine k_goto C (pc := 423) (tgt := 438) dL_law_423 (by decide) ?_
      refine k_lv (pc := 438) [0, 1, 2, 3, 4, 5, 6, 7, 8, 9] (lv' := [(0, .ref b), (2, .int (0 : Int32)), (3, .ref (h 0)), (5, .ref v5), (6, .ref v6), (7, .ref v7), (8, .int v8), (9, .int v9), (10, .ref v10), (11, .int v11)]) rfl ?_
      exact B438 K228 hK228 _ _ S39 mu (u + 2) v5 v6 v7 v8 v9 v10 v11 r39 v16 hI hR H
  have B388 : ∀ (K228 : ivS → Mu → Nat → Int32 → Nat → Nat → Nat → Int32 → Int32 → Prop) (hK228 : ∀ (ws w : va_W) (S : ivS) (mu : Mu) (u : Nat) (v1 : Int32) (v5 : Nat) (v6 : Nat) (v7 : Nat) (v8 : Int32) (v9 : Int32), ivI cA h ab ac ar S false w → LR cA w ws mu → K228 S mu u v1 v5 v6 v7 v8 v9 → Kf p l e room_1 s m #[Value.ref b] below meth c D (fun q => s.heap.size ≤ q) 28 u (16 * u) Q ws 228 [(0, .ref b), (1, .int v1), (2, .int (0 : Int32)), (3, .ref (h 0)), (5, .ref v5), (6, .ref v6), (7, .ref v7), (8, .int v8), (9, .int v9)] []) (ws w : va_W) (S : ivS) (mu : Mu) (u : Nat) (v5 : Nat) (v6 : Nat) (v7 : Nat) (v8 : Int32) (v9 : Int32) (v10 : Nat) (v11 : Int32) (v12 : Int32) (v13 : Int32) (v15 : Int32) (s0 : Int32), ivI cA h ab ac ar S false w → LR cA w ws mu → wpL_law_b388 cB Post K228 S mu u v5 v6 v7 v8 v9 v10 v11 v12 v13 v15 s0 → Kf p l e room_1 s m #[Value.ref b] below meth c D (fun q => s.heap.size ≤ q) 28 u (16 * u) Q ws 388 [(0, .ref b), (2, .int (0 : Int32)), (3, .ref (h 0)), (5, .ref v5), (6, .ref v6), (7, .ref v7), (8, .int v8), (9, .int v9), (10, .ref v10), (11, .int v11), (12, .int v12), (13, .int v13), (15, .int v15)] [.int s0] := by
    intro K228 hK228 ws w S mu u v5 v6 v7 v8 v9 v10 v11 v12 v13 v15 s0 hI hR H
    have H : (v11 = 0 → wpL_law_b408 cB Post K228 S mu u v5 v6 v7 v8 v9 v10 v11 v12 v13 v15 s0) ∧ (¬ v11 = 0 → ∃ x48, mB mu v6 = some x48 ∧ ∃ a48, x48.2.2.2.2.2.1 = some a48 ∧ ∃ n49 f49 k49, mQ mu a48 = some (2, n49, f49) ∧ v12 = nI k49 ∧ k49 < n49 ∧ n49 ≤ 1000 ∧ ∃ a49, f49 k49 = some a49 ∧ ∃ x50, mP mu a49 = some x50 ∧ ∀ mu51, mu51 = sP mu a49 (x50.1, x50.2.1, v15, x50.2.2.2) → wpL_law_b408 cB Post K228 S mu51 u v5 v6 v7 v8 v9 v10 v11 v12 v13 v15 s0) := H
    refine k_istore C (pc := 388) dL_law_388 (Nat.lt_of_lt_of_le (Nat.lt_succ_self _) (Nat.le_of_ble_eq_true rfl)) (lv' := [(16, .int s0), (0, .ref b), (2, .int (0 : Int32)), (3, .ref (h 0)), (5, .ref v5), (6, .ref v6), (7, .ref v7), (8, .int v8), (9, .int v9), (10, .ref v10), (11, .int v11), (12, .int v12), (13, .int v13), (15, .int v15)]) rfl ?_
    refine k_iload C 10 (pc := 390) dL_law_390 rfl ?_
    refine k_if_eq C (pc := 392) (tgt := 408) dL_law_392 (by decide) (fun c_392 => ?_) (fun c_392 => ?_)
    · have H := H.1 c_392
      refine k_lv (pc := 408) [1, 2, 3, 4, 5, 6, 7, 8, 9, 10, 11, 12, 13, 0] (lv' := [(0, .ref b), (2, .int (0 : Int32)), (3, .ref (h 0)), (5, .ref v5), (6, .ref v6), (7, .ref v7), (8, .int v8), (9, .int v9), (10, .ref v10), (11, .int v11), (12, .int v12), (13, .int v13), (15, .int v15), (16, .int s0)]) rfl ?_
      exact B408 K228 hK228 _ _ S mu u v5 v6 v7 v8 v9 v10 v11 v12 v13 v15 s0 hI hR H
    · have H := H.2 c_392
      refine k_aload C 5 (pc := 395) dL_law_395 rfl ?_
      obtain ⟨x48, hx48, H⟩ := H
      obtain ⟨a48, ha48, H⟩ := H
      refine l_getB C hR (pc := 397) hx48 5 (Nat.lt_of_lt_of_le (Nat.lt_succ_self _) (Nat.le_of_ble_eq_true rfl)) (ref := "WidowWatchLaw$Book") tW_2_73 rfl (v := .ref a48) (by show some (va_rf x48.2.2.2.2.2.1) = _; rw [ha48]; rfl) dL_law_397 ?_
      refine k_iload C 11 (pc := 400) dL_law_400 rfl ?_
      obtain ⟨n49, f49, k49, hx_, hk_, hl_, hn_, H⟩ := H
      refine k_eq (pc := 402) (st' := [.int (nI k49), .ref a48]) rfl rfl (by rw [hk_]) ?_
      obtain ⟨a49, ha49, H⟩ := H
      refine l_aald C hR (pc := 402) (Or.inl rfl) hx_ hl_ hn_ dL_law_402 ?_
      refine k_eq (pc := 403) (st' := [.ref a49]) rfl rfl (by rw [ha49]; rfl) ?_
      refine k_iload C 13 (pc := 403) dL_law_403 rfl ?_
      obtain ⟨x50, hx50, H⟩ := H
      refine l_putP C hR (pc := 405) hx50 2 (Nat.lt_of_lt_of_le (Nat.lt_succ_self _) (Nat.le_of_ble_eq_true rfl)) (ref := "WidowWatchLaw$Para") tW_2_130 rfl rfl  (ty := .int) rfl rfl rfl (x1 := ((x50.1, x50.2.1, v15, x50.2.2.2))) rfl dL_law_405 (fun w1 hR => ?_)
      obtain ⟨mu51, hm51⟩ : ∃ m_, m_ = sP mu a49 (x50.1, x50.2.1, v15, x50.2.2.2) := ⟨_, rfl⟩
      rw [← hm51] at hR
      have H := H mu51 hm51
      refine k_lv (pc := 408) [1, 2, 3, 4, 5, 6, 7, 8, 9, 10, 11, 12, 13, 0] (lv' := [(0, .ref b), (2, .int (0 : Int32)), (3, .ref (h 0)), (5, .ref v5), (6, .ref v6), (7, .ref v7), (8, .int v8), (9, .int v9), (10, .ref v10), (11, .int v11), (12, .int v12), (13, .int v13), (15, .int v15), (16, .int s0)]) rfl ?_
      exact B408 K228 hK228 _ _ S mu51 u v5 v6 v7 v8 v9 v10 v11 v12 v13 v15 s0 hI hR H
  have B366 : ∀ (K228 : ivS → Mu → Nat → Int32 → Nat → Nat → Nat → Int32 → Int32 → Prop) (hK228 : ∀ (ws w : va_W) (S : ivS) (mu : Mu) (u : Nat) (v1 : Int32) (v5 : Nat) (v6 : Nat) (v7 : Nat) (v8 : Int32) (v9 : Int32), ivI cA h ab ac ar S false w → LR cA w ws mu → K228 S mu u v1 v5 v6 v7 v8 v9 → Kf p l e room_1 s m #[Value.ref b] below meth c D (fun q => s.heap.size ≤ q) 28 u (16 * u) Q ws 228 [(0, .ref b), (1, .int v1), (2, .int (0 : Int32)), (3, .ref (h 0)), (5, .ref v5), (6, .ref v6), (7, .ref v7), (8, .int v8), (9, .int v9)] []) (ws w : va_W) (S : ivS) (mu : Mu) (u : Nat) (v5 : Nat) (v6 : Nat) (v7 : Nat) (v8 : Int32) (v9 : Int32) (v10 : Nat) (v12 : Int32) (v13 : Int32) (v15 : Int32) (s0 : Int32), ivI cA h ab ac ar S false w → LR cA w ws mu → wpL_law_b366 cB Post K228 S mu u v5 v6 v7 v8 v9 v10 v12 v13 v15 s0 → Kf p l e room_1 s m #[Value.ref b] below meth c D (fun q => s.heap.size ≤ q) 28 u (16 * u) Q ws 366 [(0, .ref b), (2, .int (0 : Int32)), (3, .ref (h 0)), (5, .ref v5), (6, .ref v6), (7, .ref v7), (8, .int v8), (9, .int v9), (10, .ref v10), (12, .int v12), (13, .int v13), (15, .int v15)] [.int s0] := by
    intro K228 hK228 ws w S mu u v5 v6 v7 v8 v9 v10 v12 v13 v15 s0 hI hR H
    have H : (v13 = 0 → wpL_law_b388 cB Post K228 S mu u v5 v6 v7 v8 v9 v10 s0 v12 v13 v15 (0 : Int32)) ∧ (¬ v13 = 0 → ∃ x52, mB mu v6 = some x52 ∧ ∃ a52, x52.2.2.2.2.2.1 = some a52 ∧ ∃ n53 f53 k53, mQ mu a52 = some (2, n53, f53) ∧ v12 = nI k53 ∧ k53 < n53 ∧ n53 ≤ 1000 ∧ ∃ a53, f53 k53 = some a53 ∧ ∃ x54, mP mu a53 = some x54 ∧ wpL_law_b388 cB Post K228 S mu u v5 v6 v7 v8 v9 v10 s0 v12 v13 v15 x54.2.2.1) := H
    refine k_istore C (pc := 366) dL_law_366 (Nat.lt_of_lt_of_le (Nat.lt_succ_self _) (Nat.le_of_ble_eq_true rfl)) (lv' := [(11, .int s0), (0, .ref b), (2, .int (0 : Int32)), (3, .ref (h 0)), (5, .ref v5), (6, .ref v6), (7, .ref v7), (8, .int v8), (9, .int v9), (10, .ref v10), (12, .int v12), (13, .int v13), (15, .int v15)]) rfl ?_
    refine k_iload C 11 (pc := 368) dL_law_368 rfl ?_
    refine k_if_eq C (pc := 370) (tgt := 387) dL_law_370 (by decide) (fun c_370 => ?_) (fun c_370 => ?_)
    · have H := H.1 c_370
      refine k_iconst C (pc := 387) (v := (0 : Int32)) dL_law_387 rfl ?_
      refine k_lv (pc := 388) [1, 2, 3, 4, 5, 6, 7, 8, 9, 0, 10, 11, 12] (lv' := [(0, .ref b), (2, .int (0 : Int32)), (3, .ref (h 0)), (5, .ref v5), (6, .ref v6), (7, .ref v7), (8, .int v8), (9, .int v9), (10, .ref v10), (11, .int s0), (12, .int v12), (13, .int v13), (15, .int v15)]) rfl ?_
      exact B388 K228 hK228 _ _ S mu u v5 v6 v7 v8 v9 v10 s0 v12 v13 v15 (0 : Int32) hI hR H
    · have H := H.2 c_370
      refine k_aload C 5 (pc := 373) dL_law_373 rfl ?_
      obtain ⟨x52, hx52, H⟩ := H
      obtain ⟨a52, ha52, H⟩ := H
      refine l_getB C hR (pc := 375) hx52 5 (Nat.lt_of_lt_of_le (Nat.lt_succ_self _) (Nat.le_of_ble_eq_true rfl)) (ref := "WidowWatchLaw$Book") tW_2_73 rfl (v := .ref a52) (by show some (va_rf x52.2.2.2.2.2.1) = _; rw [ha52]; rfl) dL_law_375 ?_
      refine k_iload C 10 (pc := 378) dL_law_378 rfl ?_
      obtain ⟨n53, f53, k53, hx_, hk_, hl_, hn_, H⟩ := H
      refine k_eq (pc := 380) (st' := [.int (nI k53), .ref a52]) rfl rfl (by rw [hk_]) ?_
      obtain ⟨a53, ha53, H⟩ := H
      refine l_aald C hR (pc := 380) (Or.inl rfl) hx_ hl_ hn_ dL_law_380 ?_
      refine k_eq (pc := 381) (st' := [.ref a53]) rfl rfl (by rw [ha53]; rfl) ?_
      obtain ⟨x54, hx54, H⟩ := H
      refine l_getP C hR (pc := 381) hx54 2 (Nat.lt_of_lt_of_le (Nat.lt_succ_self _) (Nat.le_of_ble_eq_true rfl)) (ref := "WidowWatchLaw$Para") tW_2_130 rfl (v := .int x54.2.2.1) rfl dL_law_381 ?_
      refine k_goto C (pc := 384) (tgt := 388) dL_law_384 (by decide) ?_
      refine k_lv (pc := 388) [1, 2, 3, 4, 5, 6, 7, 8, 9, 0, 10, 11, 12] (lv' := [(0, .ref b), (2, .int (0 : Int32)), (3, .ref (h 0)), (5, .ref v5), (6, .ref v6), (7, .ref v7), (8, .int v8), (9, .int v9), (10, .ref v10), (11, .int s0), (12, .int v12), (13, .int v13), (15, .int v15)]) rfl ?_
      exact B388 K228 hK228 _ _ S mu u v5 v6 v7 v8 v9 v10 s0 v12 v13 v15 x54.2.2.1 hI hR H
  have B365 : ∀ (K228 : ivS → Mu → Nat → Int32 → Nat → Nat → Nat → Int32 → Int32 → Prop) (hK228 : ∀ (ws w : va_W) (S : ivS) (mu : Mu) (u : Nat) (v1 : Int32) (v5 : Nat) (v6 : Nat) (v7 : Nat) (v8 : Int32) (v9 : Int32), ivI cA h ab ac ar S false w → LR cA w ws mu → K228 S mu u v1 v5 v6 v7 v8 v9 → Kf p l e room_1 s m #[Value.ref b] below meth c D (fun q => s.heap.size ≤ q) 28 u (16 * u) Q ws 228 [(0, .ref b), (1, .int v1), (2, .int (0 : Int32)), (3, .ref (h 0)), (5, .ref v5), (6, .ref v6), (7, .ref v7), (8, .int v8), (9, .int v9)] []) (ws w : va_W) (S : ivS) (mu : Mu) (u : Nat) (v5 : Nat) (v6 : Nat) (v7 : Nat) (v8 : Int32) (v9 : Int32) (v10 : Nat) (v12 : Int32) (v13 : Int32) (v15 : Int32), ivI cA h ab ac ar S false w → LR cA w ws mu → wpL_law_b365 cB Post K228 S mu u v5 v6 v7 v8 v9 v10 v12 v13 v15 → Kf p l e room_1 s m #[Value.ref b] below meth c D (fun q => s.heap.size ≤ q) 28 u (16 * u) Q ws 365 [(0, .ref b), (2, .int (0 : Int32)), (3, .ref (h 0)), (5, .ref v5), (6, .ref v6), (7, .ref v7), (8, .int v8), (9, .int v9), (10, .ref v10), (12, .int v12), (13, .int v13), (15, .int v15)] [] := by
    intro K228 hK228 ws w S mu u v5 v6 v7 v8 v9 v10 v12 v13 v15 hI hR H
    have H : wpL_law_b366 cB Post K228 S mu u v5 v6 v7 v8 v9 v10 v12 v13 v15 (0 : Int32) := H
    refine k_iconst C (pc := 365) (v := (0 : Int32)) dL_law_365 rfl ?_
    refine k_lv (pc := 366) [0, 1, 2, 3, 4, 5, 6, 7, 8, 9, 10, 11] (lv' := [(0, .ref b), (2, .int (0 : Int32)), (3, .ref (h 0)), (5, .ref v5), (6, .ref v6), (7, .ref v7), (8, .int v8), (9, .int v9), (10, .ref v10), (12, .int v12), (13, .int v13), (15, .int v15)]) rfl ?_
    exact B366 K228 hK228 _ _ S mu u v5 v6 v7 v8 v9 v10 v12 v13 v15 (0 : Int32) hI hR H
  have B542 : ∀ (K228 : ivS → Mu → Nat → Int32 → Nat → Nat → Nat → Int32 → Int32 → Prop) (hK228 : ∀ (ws w : va_W) (S : ivS) (mu : Mu) (u : Nat) (v1 : Int32) (v5 : Nat) (v6 : Nat) (v7 : Nat) (v8 : Int32) (v9 : Int32), ivI cA h ab ac ar S false w → LR cA w ws mu → K228 S mu u v1 v5 v6 v7 v8 v9 → Kf p l e room_1 s m #[Value.ref b] below meth c D (fun q => s.heap.size ≤ q) 28 u (16 * u) Q ws 228 [(0, .ref b), (1, .int v1), (2, .int (0 : Int32)), (3, .ref (h 0)), (5, .ref v5), (6, .ref v6), (7, .ref v7), (8, .int v8), (9, .int v9)] []) (ws w : va_W) (S : ivS) (mu : Mu) (u : Nat) (v5 : Nat) (v6 : Nat) (v7 : Nat) (v8 : Int32) (v9 : Int32) (v10 : Nat) (v11 : Int32) (s0 : Int32), ivI cA h ab ac ar S false w → LR cA w ws mu → wpL_law_b542 cB Post K228 S mu u v5 v6 v7 v8 v9 v10 v11 s0 → Kf p l e room_1 s m #[Value.ref b] below meth c D (fun q => s.heap.size ≤ q) 28 u (16 * u) Q ws 542 [(0, .ref b), (2, .int (0 : Int32)), (3, .ref (h 0)), (5, .ref v5), (6, .ref v6), (7, .ref v7), (8, .int v8), (9, .int v9), (10, .ref v10), (11, .int v11)] [.int s0] := by
    intro K228 hK228 ws w S mu u v5 v6 v7 v8 v9 v10 v11 s0 hI hR H
    have H : wpL_law_b1176 cB Post K228 S mu u s0 v5 v6 v7 v8 v9 v10 v11 := H
    refine k_istore_n C (pc := 542) dL_law_542 rfl (Nat.lt_of_lt_of_le (Nat.lt_succ_self _) (Nat.le_of_ble_eq_true rfl)) (lv' := [(1, .int s0), (0, .ref b), (2, .int (0 : Int32)), (3, .ref (h 0)), (5, .ref v5), (6, .ref v6), (7, .ref v7), (8, .int v8), (9, .int v9), (10, .ref v10), (11, .int v11)]) rfl ?_
    refine k_goto C (pc := 543) (tgt := 1176) dL_law_543 (by decide) ?_
    refine k_lv (pc := 1176) [1, 0, 2, 3, 4, 5, 6, 7, 8, 9, 10] (lv' := [(0, .ref b), (1, .int s0), (2, .int (0 : Int32)), (3, .ref (h 0)), (5, .ref v5), (6, .ref v6), (7, .ref v7), (8, .int v8), (9, .int v9), (10, .ref v10), (11, .int v11)]) rfl ?_
    exact B1176 K228 hK228 _ _ S mu u s0 v5 v6 v7 v8 v9 v10 v11 hI hR H
  have B534 : ∀ (K228 : ivS → Mu → Nat → Int32 → Nat → Nat → Nat → Int32 → Int32 → Prop) (hK228 : ∀ (ws w : va_W) (S : ivS) (mu : Mu) (u : Nat) (v1 : Int32) (v5 : Nat) (v6 : Nat) (v7 : Nat) (v8 : Int32) (v9 : Int32), ivI cA h ab ac ar S false w → LR cA w ws mu → K228 S mu u v1 v5 v6 v7 v8 v9 → Kf p l e room_1 s m #[Value.ref b] below meth c D (fun q => s.heap.size ≤ q) 28 u (16 * u) Q ws 228 [(0, .ref b), (1, .int v1), (2, .int (0 : Int32)), (3, .ref (h 0)), (5, .ref v5), (6, .ref v6), (7, .ref v7), (8, .int v8), (9, .int v9)] []) (ws w : va_W) (S : ivS) (mu : Mu) (u : Nat) (v5 : Nat) (v6 : Nat) (v7 : Nat) (v8 : Int32) (v9 : Int32) (v10 : Nat) (v11 : Int32) (s0 : Int32) (s1 : Int32), ivI cA h ab ac ar S false w → LR cA w ws mu → wpL_law_b534 cB Post K228 S mu u v5 v6 v7 v8 v9 v10 v11 s0 s1 → Kf p l e room_1 s m #[Value.ref b] below meth c D (fun q => s.heap.size ≤ q) 28 u (16 * u) Q ws 534 [(0, .ref b), (2, .int (0 : Int32)), (3, .ref (h 0)), (5, .ref v5), (6, .ref v6), (7, .ref v7), (8, .int v8), (9, .int v9), (10, .ref v10), (11, .int v11)] [.int s1, .int s0] := by
    intro K228 hK228 ws w S mu u v5 v6 v7 v8 v9 v10 v11 s0 s1 hI hR H
    have H : (¬ s0 = s1 → wpL_law_b542 cB Post K228 S mu u v5 v6 v7 v8 v9 v10 v11 (0 : Int32)) ∧ (s0 = s1 → wpL_law_b542 cB Post K228 S mu u v5 v6 v7 v8 v9 v10 v11 (1 : Int32)) := H
    refine k_icmp_ne C (pc := 534) (tgt := 541) dL_law_534 (by decide) (fun c_534 => ?_) (fun c_534 => ?_)
    · have H := H.1 c_534
      refine k_iconst C (pc := 541) (v := (0 : Int32)) dL_law_541 rfl ?_
      refine k_lv (pc := 542) [0, 1, 2, 3, 4, 5, 6, 7, 8, 9] (lv' := [(0, .ref b), (2, .int (0 : Int32)), (3, .ref (h 0)), (5, .ref v5), (6, .ref v6), (7, .ref v7), (8, .int v8), (9, .int v9), (10, .ref v10), (11, .int v11)]) rfl ?_
      exact B542 K228 hK228 _ _ S mu u v5 v6 v7 v8 v9 v10 v11 (0 : Int32) hI hR H
    · have H := H.2 c_534
      refine k_iconst C (pc := 537) (v := (1 : Int32)) dL_law_537 rfl ?_
      refine k_goto C (pc := 538) (tgt := 542) dL_law_538 (by decide) ?_
      refine k_lv (pc := 542) [0, 1, 2, 3, 4, 5, 6, 7, 8, 9] (lv' := [(0, .ref b), (2, .int (0 : Int32)), (3, .ref (h 0)), (5, .ref v5), (6, .ref v6), (7, .ref v7), (8, .int v8), (9, .int v9), (10, .ref v10), (11, .int v11)]) rfl ?_
      exact B542 K228 hK228 _ _ S mu u v5 v6 v7 v8 v9 v10 v11 (1 : Int32) hI hR H
  have B514 : ∀ (K228 : ivS → Mu → Nat → Int32 → Nat → Nat → Nat → Int32 → Int32 → Prop) (hK228 : ∀ (ws w : va_W) (S : ivS) (mu : Mu) (u : Nat) (v1 : Int32) (v5 : Nat) (v6 : Nat) (v7 : Nat) (v8 : Int32) (v9 : Int32), ivI cA h ab ac ar S false w → LR cA w ws mu → K228 S mu u v1 v5 v6 v7 v8 v9 → Kf p l e room_1 s m #[Value.ref b] below meth c D (fun q => s.heap.size ≤ q) 28 u (16 * u) Q ws 228 [(0, .ref b), (1, .int v1), (2, .int (0 : Int32)), (3, .ref (h 0)), (5, .ref v5), (6, .ref v6), (7, .ref v7), (8, .int v8), (9, .int v9)] []) (ws w : va_W) (S : ivS) (mu : Mu) (u : Nat) (v5 : Nat) (v6 : Nat) (v7 : Nat) (v8 : Int32) (v9 : Int32) (v10 : Nat) (v11 : Int32) (v12 : Int32) (v13 : Int32) (v17 : Int32) (v18 : Int32), ivI cA h ab ac ar S false w → LR cA w ws mu → wpL_law_b514 cB Post K228 S mu u v5 v6 v7 v8 v9 v10 v11 v12 v13 v17 v18 → Kf p l e room_1 s m #[Value.ref b] below meth c D (fun q => s.heap.size ≤ q) 28 u (16 * u) Q ws 514 [(0, .ref b), (2, .int (0 : Int32)), (3, .ref (h 0)), (5, .ref v5), (6, .ref v6), (7, .ref v7), (8, .int v8), (9, .int v9), (10, .ref v10), (11, .int v11), (12, .int v12), (13, .int v13), (17, .int v17), (18, .int v18)] [] := by
    intro K228 hK228 ws w S mu u v5 v6 v7 v8 v9 v10 v11 v12 v13 v17 v18 hI hR H
    have H : u + 1 ≤ cB ∧ ∃ b58, v17 = bI b58 ∧ ∀ S59, S59 = (s_begin S v12 b58).2.2.2 → ∀ r59, r59 = an1 (s_begin S v12 b58) (-2000000097) → (v13 = 0 → wpL_law_b534 cB Post K228 S59 mu (u + 1) v5 v6 v7 v8 v9 v10 v11 r59 (-2000000097 : Int32)) ∧ (¬ v13 = 0 → wpL_law_b534 cB Post K228 S59 mu (u + 1) v5 v6 v7 v8 v9 v10 v11 r59 v18) := H
    refine k_aload_n C 2 (pc := 514) dL_law_514 rfl rfl ?_
    refine k_iload C 10 (pc := 515) dL_law_515 rfl ?_
    refine k_iload C 12 (pc := 517) dL_law_517 rfl ?_
    obtain ⟨hc_, H⟩ := H
    obtain ⟨b58, hb_, H⟩ := H
    refine k_eq (pc := 519) (st' := [.int (bI b58), .int v12, .ref (h 0)] ++ []) rfl rfl (by rw [hb_]; rfl) ?_
    refine ky_callA C (pc := 519) (ky_runS C hE (As := [.ref (h 0), .int v12, .int (bI b58)]) (rest := []) (wl_begin l D cA h ab ac ar hst v12 b58 hI hR) (ky_cw C tYL_begin tW_4_188 tW_1_0 tW_4_189 okL_begin rfl rfl ⟨Nat.le_of_ble_eq_true rfl, Nat.le_of_ble_eq_true rfl⟩) rfl rfl (Nat.le_of_ble_eq_true rfl) dL_law_519 (kw_rm hc_ (by decide) hRm)) (fun v_ w1 hv_ => ?_)
    obtain ⟨r59, rfl, w_, hI, hR, hr1_⟩ := hv_
    have hI := hI.weak
    obtain ⟨S59, hS1_⟩ : ∃ m_, m_ = (s_begin S v12 b58).2.2.2 := ⟨_, rfl⟩
    rw [← hS1_] at hI
    have H := H S59 hS1_ r59 hr1_
    refine k_eq (pc := 522) (st' := .int r59 :: []) rfl rfl rfl ?_
    refine k_widen (k := u + 1) (n := 16 * (u + 1)) (Nat.le_refl _) (by omega) ?_
    refine k_iload C 11 (pc := 522) dL_law_522 rfl ?_
    refine k_if_eq C (pc := 524) (tgt := 532) dL_law_524 (by decide) (fun c_524 => ?_) (fun c_524 => ?_)
    · have H := H.1 c_524
      refine k_ldc C (pc := 532) (v := (-2000000097 : Int32)) tW_3_203 dL_law_532 ?_
      refine k_lv (pc := 534) [0, 1, 2, 3, 4, 5, 6, 7, 8, 9] (lv' := [(0, .ref b), (2, .int (0 : Int32)), (3, .ref (h 0)), (5, .ref v5), (6, .ref v6), (7, .ref v7), (8, .int v8), (9, .int v9), (10, .ref v10), (11, .int v11)]) rfl ?_
      exact B534 K228 hK228 _ _ S59 mu (u + 1) v5 v6 v7 v8 v9 v10 v11 r59 (-2000000097 : Int32) hI hR H
    · have H := H.2 c_524
      refine k_iload C 13 (pc := 527) dL_law_527 rfl ?_
      refine k_goto C (pc := 529) (tgt := 534) dL_law_529 (by decide) ?_
      refine k_lv (pc := 534) [0, 1, 2, 3, 4, 5, 6, 7, 8, 9] (lv' := [(0, .ref b), (2, .int (0 : Int32)), (3, .ref (h 0)), (5, .ref v5), (6, .ref v6), (7, .ref v7), (8, .int v8), (9, .int v9), (10, .ref v10), (11, .int v11)]) rfl ?_
      exact B534 K228 hK228 _ _ S59 mu (u + 1) v5 v6 v7 v8 v9 v10 v11 r59 v18 hI hR H
  have B494 : ∀ (K228 : ivS → Mu → Nat → Int32 → Nat → Nat → Nat → Int32 → Int32 → Prop) (hK228 : ∀ (ws w : va_W) (S : ivS) (mu : Mu) (u : Nat) (v1 : Int32) (v5 : Nat) (v6 : Nat) (v7 : Nat) (v8 : Int32) (v9 : Int32), ivI cA h ab ac ar S false w → LR cA w ws mu → K228 S mu u v1 v5 v6 v7 v8 v9 → Kf p l e room_1 s m #[Value.ref b] below meth c D (fun q => s.heap.size ≤ q) 28 u (16 * u) Q ws 228 [(0, .ref b), (1, .int v1), (2, .int (0 : Int32)), (3, .ref (h 0)), (5, .ref v5), (6, .ref v6), (7, .ref v7), (8, .int v8), (9, .int v9)] []) (ws w : va_W) (S : ivS) (mu : Mu) (u : Nat) (v5 : Nat) (v6 : Nat) (v7 : Nat) (v8 : Int32) (v9 : Int32) (v10 : Nat) (v11 : Int32) (v12 : Int32) (v13 : Int32) (v17 : Int32) (s0 : Int32), ivI cA h ab ac ar S false w → LR cA w ws mu → wpL_law_b494 cB Post K228 S mu u v5 v6 v7 v8 v9 v10 v11 v12 v13 v17 s0 → Kf p l e room_1 s m #[Value.ref b] below meth c D (fun q => s.heap.size ≤ q) 28 u (16 * u) Q ws 494 [(0, .ref b), (2, .int (0 : Int32)), (3, .ref (h 0)), (5, .ref v5), (6, .ref v6), (7, .ref v7), (8, .int v8), (9, .int v9), (10, .ref v10), (11, .int v11), (12, .int v12), (13, .int v13), (17, .int v17)] [.int s0] := by
    intro K228 hK228 ws w S mu u v5 v6 v7 v8 v9 v10 v11 v12 v13 v17 s0 hI hR H
    have H : (v13 = 0 → wpL_law_b514 cB Post K228 S mu u v5 v6 v7 v8 v9 v10 v11 v12 v13 v17 s0) ∧ (¬ v13 = 0 → ∃ x60, mB mu v6 = some x60 ∧ ∃ a60, x60.2.2.2.2.2.1 = some a60 ∧ ∃ n61 f61 k61, mQ mu a60 = some (2, n61, f61) ∧ v12 = nI k61 ∧ k61 < n61 ∧ n61 ≤ 1000 ∧ ∃ a61, f61 k61 = some a61 ∧ ∃ x62, mP mu a61 = some x62 ∧ (v17 = 0 ∨ v17 = 1) ∧ ∀ mu63, mu63 = sP mu a61 (x62.1, v17, x62.2.2.1, x62.2.2.2) → wpL_law_b514 cB Post K228 S mu63 u v5 v6 v7 v8 v9 v10 v11 v12 v13 v17 s0) := H
    refine k_istore C (pc := 494) dL_law_494 (Nat.lt_of_lt_of_le (Nat.lt_succ_self _) (Nat.le_of_ble_eq_true rfl)) (lv' := [(18, .int s0), (0, .ref b), (2, .int (0 : Int32)), (3, .ref (h 0)), (5, .ref v5), (6, .ref v6), (7, .ref v7), (8, .int v8), (9, .int v9), (10, .ref v10), (11, .int v11), (12, .int v12), (13, .int v13), (17, .int v17)]) rfl ?_
    refine k_iload C 12 (pc := 496) dL_law_496 rfl ?_
    refine k_if_eq C (pc := 498) (tgt := 514) dL_law_498 (by decide) (fun c_498 => ?_) (fun c_498 => ?_)
    · have H := H.1 c_498
      refine k_lv (pc := 514) [1, 2, 3, 4, 5, 6, 7, 8, 9, 10, 11, 12, 13, 0] (lv' := [(0, .ref b), (2, .int (0 : Int32)), (3, .ref (h 0)), (5, .ref v5), (6, .ref v6), (7, .ref v7), (8, .int v8), (9, .int v9), (10, .ref v10), (11, .int v11), (12, .int v12), (13, .int v13), (17, .int v17), (18, .int s0)]) rfl ?_
      exact B514 K228 hK228 _ _ S mu u v5 v6 v7 v8 v9 v10 v11 v12 v13 v17 s0 hI hR H
    · have H := H.2 c_498
      refine k_aload C 5 (pc := 501) dL_law_501 rfl ?_
      obtain ⟨x60, hx60, H⟩ := H
      obtain ⟨a60, ha60, H⟩ := H
      refine l_getB C hR (pc := 503) hx60 5 (Nat.lt_of_lt_of_le (Nat.lt_succ_self _) (Nat.le_of_ble_eq_true rfl)) (ref := "WidowWatchLaw$Book") tW_2_73 rfl (v := .ref a60) (by show some (va_rf x60.2.2.2.2.2.1) = _; rw [ha60]; rfl) dL_law_503 ?_
      refine k_iload C 11 (pc := 506) dL_law_506 rfl ?_
      obtain ⟨n61, f61, k61, hx_, hk_, hl_, hn_, H⟩ := H
      refine k_eq (pc := 508) (st' := [.int (nI k61), .ref a60]) rfl rfl (by rw [hk_]) ?_
      obtain ⟨a61, ha61, H⟩ := H
      refine l_aald C hR (pc := 508) (Or.inl rfl) hx_ hl_ hn_ dL_law_508 ?_
      refine k_eq (pc := 509) (st' := [.ref a61]) rfl rfl (by rw [ha61]; rfl) ?_
      refine k_iload C 13 (pc := 509) dL_law_509 rfl ?_
      obtain ⟨x62, hx62, H⟩ := H
      obtain ⟨hb_, H⟩ := H
      refine l_putP C hR (pc := 511) hx62 1 (Nat.lt_of_lt_of_le (Nat.lt_succ_self _) (Nat.le_of_ble_eq_true rfl)) (ref := "WidowWatchLaw$Para") tW_2_127 rfl rfl  (ty := .boolean) rfl (k_nar hb_) (k_fit hb_) (x1 := ((x62.1, v17, x62.2.2.1, x62.2.2.2))) rfl dL_law_511 (fun w1 hR => ?_)
      obtain ⟨mu63, hm63⟩ : ∃ m_, m_ = sP mu a61 (x62.1, v17, x62.2.2.1, x62.2.2.2) := ⟨_, rfl⟩
      rw [← hm63] at hR
      have H := H mu63 hm63
      refine k_lv (pc := 514) [1, 2, 3, 4, 5, 6, 7, 8, 9, 10, 11, 12, 13, 0] (lv' := [(0, .ref b), (2, .int (0 : Int32)), (3, .ref (h 0)), (5, .ref v5), (6, .ref v6), (7, .ref v7), (8, .int v8), (9, .int v9), (10, .ref v10), (11, .int v11), (12, .int v12), (13, .int v13), (17, .int v17), (18, .int s0)]) rfl ?_
      exact B514 K228 hK228 _ _ S mu63 u v5 v6 v7 v8 v9 v10 v11 v12 v13 v17 s0 hI hR H
  have B493 : ∀ (K228 : ivS → Mu → Nat → Int32 → Nat → Nat → Nat → Int32 → Int32 → Prop) (hK228 : ∀ (ws w : va_W) (S : ivS) (mu : Mu) (u : Nat) (v1 : Int32) (v5 : Nat) (v6 : Nat) (v7 : Nat) (v8 : Int32) (v9 : Int32), ivI cA h ab ac ar S false w → LR cA w ws mu → K228 S mu u v1 v5 v6 v7 v8 v9 → Kf p l e room_1 s m #[Value.ref b] below meth c D (fun q => s.heap.size ≤ q) 28 u (16 * u) Q ws 228 [(0, .ref b), (1, .int v1), (2, .int (0 : Int32)), (3, .ref (h 0)), (5, .ref v5), (6, .ref v6), (7, .ref v7), (8, .int v8), (9, .int v9)] []) (ws w : va_W) (S : ivS) (mu : Mu) (u : Nat) (v5 : Nat) (v6 : Nat) (v7 : Nat) (v8 : Int32) (v9 : Int32) (v10 : Nat) (v11 : Int32) (v12 : Int32) (v13 : Int32) (v17 : Int32), ivI cA h ab ac ar S false w → LR cA w ws mu → wpL_law_b493 cB Post K228 S mu u v5 v6 v7 v8 v9 v10 v11 v12 v13 v17 → Kf p l e room_1 s m #[Value.ref b] below meth c D (fun q => s.heap.size ≤ q) 28 u (16 * u) Q ws 493 [(0, .ref b), (2, .int (0 : Int32)), (3, .ref (h 0)), (5, .ref v5), (6, .ref v6), (7, .ref v7), (8, .int v8), (9, .int v9), (10, .ref v10), (11, .int v11), (12, .int v12), (13, .int v13), (17, .int v17)] [] := by
    intro K228 hK228 ws w S mu u v5 v6 v7 v8 v9 v10 v11 v12 v13 v17 hI hR H
    have H : wpL_law_b494 cB Post K228 S mu u v5 v6 v7 v8 v9 v10 v11 v12 v13 v17 (0 : Int32) := H
    refine k_iconst C (pc := 493) (v := (0 : Int32)) dL_law_493 rfl ?_
    refine k_lv (pc := 494) [0, 1, 2, 3, 4, 5, 6, 7, 8, 9, 10, 11, 12] (lv' := [(0, .ref b), (2, .int (0 : Int32)), (3, .ref (h 0)), (5, .ref v5), (6, .ref v6), (7, .ref v7), (8, .int v8), (9, .int v9), (10, .ref v10), (11, .int v11), (12, .int v12), (13, .int v13), (17, .int v17)]) rfl ?_
    exact B494 K228 hK228 _ _ S mu u v5 v6 v7 v8 v9 v10 v11 v12 v13 v17 (0 : Int32) hI hR H
  have B464 : ∀ (K228 : ivS → Mu → Nat → Int32 → Nat → Nat → Nat → Int32 → Int32 → Prop) (hK228 : ∀ (ws w : va_W) (S : ivS) (mu : Mu) (u : Nat) (v1 : Int32) (v5 : Nat) (v6 : Nat) (v7 : Nat) (v8 : Int32) (v9 : Int32), ivI cA h ab ac ar S false w → LR cA w ws mu → K228 S mu u v1 v5 v6 v7 v8 v9 → Kf p l e room_1 s m #[Value.ref b] below meth c D (fun q => s.heap.size ≤ q) 28 u (16 * u) Q ws 228 [(0, .ref b), (1, .int v1), (2, .int (0 : Int32)), (3, .ref (h 0)), (5, .ref v5), (6, .ref v6), (7, .ref v7), (8, .int v8), (9, .int v9)] []) (ws w : va_W) (S : ivS) (mu : Mu) (u : Nat) (v5 : Nat) (v6 : Nat) (v7 : Nat) (v8 : Int32) (v9 : Int32) (v10 : Nat) (v12 : Int32) (v13 : Int32) (s0 : Int32), ivI cA h ab ac ar S false w → LR cA w ws mu → wpL_law_b464 cB Post K228 S mu u v5 v6 v7 v8 v9 v10 v12 v13 s0 → Kf p l e room_1 s m #[Value.ref b] below meth c D (fun q => s.heap.size ≤ q) 28 u (16 * u) Q ws 464 [(0, .ref b), (2, .int (0 : Int32)), (3, .ref (h 0)), (5, .ref v5), (6, .ref v6), (7, .ref v7), (8, .int v8), (9, .int v9), (10, .ref v10), (12, .int v12), (13, .int v13)] [.int s0] := by
    intro K228 hK228 ws w S mu u v5 v6 v7 v8 v9 v10 v12 v13 s0 hI hR H
    have H : (v13 = 0 → wpL_law_b493 cB Post K228 S mu u v5 v6 v7 v8 v9 v10 v13 v12 v13 s0) ∧ (¬ v13 = 0 → ∃ x64, mB mu v6 = some x64 ∧ ∃ a64, x64.2.2.2.2.2.1 = some a64 ∧ ∃ n65 f65 k65, mQ mu a64 = some (2, n65, f65) ∧ v12 = nI k65 ∧ k65 < n65 ∧ n65 ≤ 1000 ∧ ∃ a65, f65 k65 = some a65 ∧ ∃ x66, mP mu a65 = some x66 ∧ (x66.2.1 = 0 → wpL_law_b493 cB Post K228 S mu u v5 v6 v7 v8 v9 v10 v13 v12 v13 s0) ∧ (¬ x66.2.1 = 0 → wpL_law_b494 cB Post K228 S mu u v5 v6 v7 v8 v9 v10 v13 v12 v13 s0 (1 : Int32))) := H
    refine k_istore C (pc := 464) dL_law_464 (Nat.lt_of_lt_of_le (Nat.lt_succ_self _) (Nat.le_of_ble_eq_true rfl)) (lv' := [(17, .int s0), (0, .ref b), (2, .int (0 : Int32)), (3, .ref (h 0)), (5, .ref v5), (6, .ref v6), (7, .ref v7), (8, .int v8), (9, .int v9), (10, .ref v10), (12, .int v12), (13, .int v13)]) rfl ?_
    refine k_iload C 11 (pc := 466) dL_law_466 rfl ?_
    refine k_istore C (pc := 468) dL_law_468 (Nat.lt_of_lt_of_le (Nat.lt_succ_self _) (Nat.le_of_ble_eq_true rfl)) (lv' := [(11, .int v13), (17, .int s0), (0, .ref b), (2, .int (0 : Int32)), (3, .ref (h 0)), (5, .ref v5), (6, .ref v6), (7, .ref v7), (8, .int v8), (9, .int v9), (10, .ref v10), (12, .int v12), (13, .int v13)]) rfl ?_
    refine k_iload C 12 (pc := 470) dL_law_470 rfl ?_
    refine k_if_eq C (pc := 472) (tgt := 493) dL_law_472 (by decide) (fun c_472 => ?_) (fun c_472 => ?_)
    · have H := H.1 c_472
      refine k_lv (pc := 493) [2, 3, 4, 5, 6, 7, 8, 9, 10, 0, 11, 12, 1] (lv' := [(0, .ref b), (2, .int (0 : Int32)), (3, .ref (h 0)), (5, .ref v5), (6, .ref v6), (7, .ref v7), (8, .int v8), (9, .int v9), (10, .ref v10), (11, .int v13), (12, .int v12), (13, .int v13), (17, .int s0)]) rfl ?_
      exact B493 K228 hK228 _ _ S mu u v5 v6 v7 v8 v9 v10 v13 v12 v13 s0 hI hR H
    · have H := H.2 c_472
      refine k_aload C 6 (pc := 475) dL_law_475 rfl ?_
      obtain ⟨x64, hx64, H⟩ := H
      obtain ⟨a64, ha64, H⟩ := H
      refine l_getB C hR (pc := 477) hx64 5 (Nat.lt_of_lt_of_le (Nat.lt_succ_self _) (Nat.le_of_ble_eq_true rfl)) (ref := "WidowWatchLaw$Book") tW_2_73 rfl (v := .ref a64) (by show some (va_rf x64.2.2.2.2.2.1) = _; rw [ha64]; rfl) dL_law_477 ?_
      refine k_iload C 11 (pc := 480) dL_law_480 rfl ?_
      obtain ⟨n65, f65, k65, hx_, hk_, hl_, hn_, H⟩ := H
      refine k_eq (pc := 482) (st' := [.int (nI k65), .ref a64]) rfl rfl (by rw [hk_]) ?_
      obtain ⟨a65, ha65, H⟩ := H
      refine l_aald C hR (pc := 482) (Or.inl rfl) hx_ hl_ hn_ dL_law_482 ?_
      refine k_eq (pc := 483) (st' := [.ref a65]) rfl rfl (by rw [ha65]; rfl) ?_
      obtain ⟨x66, hx66, H⟩ := H
      refine l_getP C hR (pc := 483) hx66 1 (Nat.lt_of_lt_of_le (Nat.lt_succ_self _) (Nat.le_of_ble_eq_true rfl)) (ref := "WidowWatchLaw$Para") tW_2_127 rfl (v := .int x66.2.1) rfl dL_law_483 ?_
      refine k_if_eq C (pc := 486) (tgt := 493) dL_law_486 (by decide) (fun c_486 => ?_) (fun c_486 => ?_)
      · have H := H.1 c_486
        refine k_lv (pc := 493) [2, 3, 4, 5, 6, 7, 8, 9, 10, 0, 11, 12, 1] (lv' := [(0, .ref b), (2, .int (0 : Int32)), (3, .ref (h 0)), (5, .ref v5), (6, .ref v6), (7, .ref v7), (8, .int v8), (9, .int v9), (10, .ref v10), (11, .int v13), (12, .int v12), (13, .int v13), (17, .int s0)]) rfl ?_
        exact B493 K228 hK228 _ _ S mu u v5 v6 v7 v8 v9 v10 v13 v12 v13 s0 hI hR H
      · have H := H.2 c_486
        refine k_iconst C (pc := 489) (v := (1 : Int32)) dL_law_489 rfl ?_
        refine k_goto C (pc := 490) (tgt := 494) dL_law_490 (by decide) ?_
        refine k_lv (pc := 494) [2, 3, 4, 5, 6, 7, 8, 9, 10, 0, 11, 12, 1] (lv' := [(0, .ref b), (2, .int (0 : Int32)), (3, .ref (h 0)), (5, .ref v5), (6, .ref v6), (7, .ref v7), (8, .int v8), (9, .int v9), (10, .ref v10), (11, .int v13), (12, .int v12), (13, .int v13), (17, .int s0)]) rfl ?_
        exact B494 K228 hK228 _ _ S mu u v5 v6 v7 v8 v9 v10 v13 v12 v13 s0 (1 : Int32) hI hR H
  have B700 : ∀ (K228 : ivS → Mu → Nat → Int32 → Nat → Nat → Nat → Int32 → Int32 → Prop) (hK228 : ∀ (ws w : va_W) (S : ivS) (mu : Mu) (u : Nat) (v1 : Int32) (v5 : Nat) (v6 : Nat) (v7 : Nat) (v8 : Int32) (v9 : Int32), ivI cA h ab ac ar S false w → LR cA w ws mu → K228 S mu u v1 v5 v6 v7 v8 v9 → Kf p l e room_1 s m #[Value.ref b] below meth c D (fun q => s.heap.size ≤ q) 28 u (16 * u) Q ws 228 [(0, .ref b), (1, .int v1), (2, .int (0 : Int32)), (3, .ref (h 0)), (5, .ref v5), (6, .ref v6), (7, .ref v7), (8, .int v8), (9, .int v9)] []) (ws w : va_W) (S : ivS) (mu : Mu) (u : Nat) (v5 : Nat) (v6 : Nat) (v7 : Nat) (v8 : Int32) (v9 : Int32) (v10 : Nat) (v11 : Int32) (s0 : Int32), ivI cA h ab ac ar S false w → LR cA w ws mu → wpL_law_b700 cB Post K228 S mu u v5 v6 v7 v8 v9 v10 v11 s0 → Kf p l e room_1 s m #[Value.ref b] below meth c D (fun q => s.heap.size ≤ q) 28 u (16 * u) Q ws 700 [(0, .ref b), (2, .int (0 : Int32)), (3, .ref (h 0)), (5, .ref v5), (6, .ref v6), (7, .ref v7), (8, .int v8), (9, .int v9), (10, .ref v10), (11, .int v11)] [.int s0] := by
    intro K228 hK228 ws w S mu u v5 v6 v7 v8 v9 v10 v11 s0 hI hR H
    have H : wpL_law_b1176 cB Post K228 S mu u s0 v5 v6 v7 v8 v9 v10 v11 := H
    refine k_istore_n C (pc := 700) dL_law_700 rfl (Nat.lt_of_lt_of_le (Nat.lt_succ_self _) (Nat.le_of_ble_eq_true rfl)) (lv' := [(1, .int s0), (0, .ref b), (2, .int (0 : Int32)), (3, .ref (h 0)), (5, .ref v5), (6, .ref v6), (7, .ref v7), (8, .int v8), (9, .int v9), (10, .ref v10), (11, .int v11)]) rfl ?_
    refine k_goto C (pc := 701) (tgt := 1176) dL_law_701 (by decide) ?_
    refine k_lv (pc := 1176) [1, 0, 2, 3, 4, 5, 6, 7, 8, 9, 10] (lv' := [(0, .ref b), (1, .int s0), (2, .int (0 : Int32)), (3, .ref (h 0)), (5, .ref v5), (6, .ref v6), (7, .ref v7), (8, .int v8), (9, .int v9), (10, .ref v10), (11, .int v11)]) rfl ?_
    exact B1176 K228 hK228 _ _ S mu u s0 v5 v6 v7 v8 v9 v10 v11 hI hR H
  have B692 : ∀ (K228 : ivS → Mu → Nat → Int32 → Nat → Nat → Nat → Int32 → Int32 → Prop) (hK228 : ∀ (ws w : va_W) (S : ivS) (mu : Mu) (u : Nat) (v1 : Int32) (v5 : Nat) (v6 : Nat) (v7 : Nat) (v8 : Int32) (v9 : Int32), ivI cA h ab ac ar S false w → LR cA w ws mu → K228 S mu u v1 v5 v6 v7 v8 v9 → Kf p l e room_1 s m #[Value.ref b] below meth c D (fun q => s.heap.size ≤ q) 28 u (16 * u) Q ws 228 [(0, .ref b), (1, .int v1), (2, .int (0 : Int32)), (3, .ref (h 0)), (5, .ref v5), (6, .ref v6), (7, .ref v7), (8, .int v8), (9, .int v9)] []) (ws w : va_W) (S : ivS) (mu : Mu) (u : Nat) (v5 : Nat) (v6 : Nat) (v7 : Nat) (v8 : Int32) (v9 : Int32) (v10 : Nat) (v11 : Int32) (s0 : Int32) (s1 : Int32), ivI cA h ab ac ar S false w → LR cA w ws mu → wpL_law_b692 cB Post K228 S mu u v5 v6 v7 v8 v9 v10 v11 s0 s1 → Kf p l e room_1 s m #[Value.ref b] below meth c D (fun q => s.heap.size ≤ q) 28 u (16 * u) Q ws 692 [(0, .ref b), (2, .int (0 : Int32)), (3, .ref (h 0)), (5, .ref v5), (6, .ref v6), (7, .ref v7), (8, .int v8), (9, .int v9), (10, .ref v10), (11, .int v11)] [.int s1, .int s0] := by
    intro K228 hK228 ws w S mu u v5 v6 v7 v8 v9 v10 v11 s0 s1 hI hR H
    have H : (¬ s0 = s1 → wpL_law_b700 cB Post K228 S mu u v5 v6 v7 v8 v9 v10 v11 (0 : Int32)) ∧ (s0 = s1 → wpL_law_b700 cB Post K228 S mu u v5 v6 v7 v8 v9 v10 v11 (1 : Int32)) := H
    refine k_icmp_ne C (pc := 692) (tgt := 699) dL_law_692 (by decide) (fun c_692 => ?_) (fun c_692 => ?_)
    · have H := H.1 c_692
      refine k_iconst C (pc := 699) (v := (0 : Int32)) dL_law_699 rfl ?_
      refine k_lv (pc := 700) [0, 1, 2, 3, 4, 5, 6, 7, 8, 9] (lv' := [(0, .ref b), (2, .int (0 : Int32)), (3, .ref (h 0)), (5, .ref v5), (6, .ref v6), (7, .ref v7), (8, .int v8), (9, .int v9), (10, .ref v10), (11, .int v11)]) rfl ?_
      exact B700 K228 hK228 _ _ S mu u v5 v6 v7 v8 v9 v10 v11 (0 : Int32) hI hR H
    · have H := H.2 c_692
      refine k_iconst C (pc := 695) (v := (1 : Int32)) dL_law_695 rfl ?_
      refine k_goto C (pc := 696) (tgt := 700) dL_law_696 (by decide) ?_
      refine k_lv (pc := 700) [0, 1, 2, 3, 4, 5, 6, 7, 8, 9] (lv' := [(0, .ref b), (2, .int (0 : Int32)), (3, .ref (h 0)), (5, .ref v5), (6, .ref v6), (7, .ref v7), (8, .int v8), (9, .int v9), (10, .ref v10), (11, .int v11)]) rfl ?_
      exact B700 K228 hK228 _ _ S mu u v5 v6 v7 v8 v9 v10 v11 (1 : Int32) hI hR H
  have B666 : ∀ (K228 : ivS → Mu → Nat → Int32 → Nat → Nat → Nat → Int32 → Int32 → Prop) (hK228 : ∀ (ws w : va_W) (S : ivS) (mu : Mu) (u : Nat) (v1 : Int32) (v5 : Nat) (v6 : Nat) (v7 : Nat) (v8 : Int32) (v9 : Int32), ivI cA h ab ac ar S false w → LR cA w ws mu → K228 S mu u v1 v5 v6 v7 v8 v9 → Kf p l e room_1 s m #[Value.ref b] below meth c D (fun q => s.heap.size ≤ q) 28 u (16 * u) Q ws 228 [(0, .ref b), (1, .int v1), (2, .int (0 : Int32)), (3, .ref (h 0)), (5, .ref v5), (6, .ref v6), (7, .ref v7), (8, .int v8), (9, .int v9)] []) (ws w : va_W) (S : ivS) (mu : Mu) (u : Nat) (v5 : Nat) (v6 : Nat) (v7 : Nat) (v8 : Int32) (v9 : Int32) (v10 : Nat) (v11 : Int32) (v12 : Int32) (v19 : Int32) (v20 : Int32), ivI cA h ab ac ar S false w → LR cA w ws mu → wpL_law_b666 cB Post K228 S mu u v5 v6 v7 v8 v9 v10 v11 v12 v19 v20 → Kf p l e room_1 s m #[Value.ref b] below meth c D (fun q => s.heap.size ≤ q) 28 u (16 * u) Q ws 666 [(0, .ref b), (2, .int (0 : Int32)), (3, .ref (h 0)), (5, .ref v5), (6, .ref v6), (7, .ref v7), (8, .int v8), (9, .int v9), (10, .ref v10), (11, .int v11), (12, .int v12), (19, .int v19), (20, .int v20)] [] := by
    intro K228 hK228 ws w S mu u v5 v6 v7 v8 v9 v10 v11 v12 v19 v20 hI hR H
    have H : u + 1 ≤ cB ∧ ∀ S77, S77 = (s_insert S v12 v19 v20).2.2.2 → ∀ r77, r77 = an2 (s_insert S v12 v19 v20) (-2000000098) (-2000000099) → (v11 = 0 → wpL_law_b692 cB Post K228 S77 mu (u + 1) v5 v6 v7 v8 v9 v10 v11 r77 (-2000000098 : Int32)) ∧ (¬ v11 = 0 → ∃ x78, mB mu v6 = some x78 ∧ ∃ a78, x78.2.2.2.2.2.1 = some a78 ∧ ∃ n79 f79, mQ mu a78 = some (2, n79, f79) ∧ wpL_law_b692 cB Post K228 S77 mu (u + 1) v5 v6 v7 v8 v9 v10 v11 r77 (nI n79)) := H
    refine k_aload_n C 2 (pc := 666) dL_law_666 rfl rfl ?_
    refine k_iload C 10 (pc := 667) dL_law_667 rfl ?_
    refine k_iload C 11 (pc := 669) dL_law_669 rfl ?_
    refine k_iload C 12 (pc := 671) dL_law_671 rfl ?_
    obtain ⟨hc_, H⟩ := H
    refine ky_callA C (pc := 673) (ky_runS C hE (As := [.ref (h 0), .int v12, .int v19, .int v20]) (rest := []) (wl_insert l D cA h ab ac ar hst v12 v19 v20 hI hR) (ky_cw C tYL_insert tW_4_196 tW_1_0 tW_4_197 okL_insert rfl rfl ⟨Nat.le_of_ble_eq_true rfl, Nat.le_of_ble_eq_true rfl⟩) rfl rfl (Nat.le_of_ble_eq_true rfl) dL_law_673 (kw_rm hc_ (by decide) hRm)) (fun v_ w1 hv_ => ?_)
    obtain ⟨r77, rfl, w_, hI, hR, hr1_⟩ := hv_
    have hI := hI.weak
    obtain ⟨S77, hS1_⟩ : ∃ m_, m_ = (s_insert S v12 v19 v20).2.2.2 := ⟨_, rfl⟩
    rw [← hS1_] at hI
    have H := H S77 hS1_ r77 hr1_
    refine k_eq (pc := 676) (st' := .int r77 :: []) rfl rfl rfl ?_
    refine k_widen (k := u + 1) (n := 16 * (u + 1)) (Nat.le_refl _) (by omega) ?_
    refine k_iload C 9 (pc := 676) dL_law_676 rfl ?_
    refine k_if_eq C (pc := 678) (tgt := 690) dL_law_678 (by decide) (fun c_678 => ?_) (fun c_678 => ?_)
    · have H := H.1 c_678
      refine k_ldc C (pc := 690) (v := (-2000000098 : Int32)) tW_3_155 dL_law_690 ?_
      refine k_lv (pc := 692) [0, 1, 2, 3, 4, 5, 6, 7, 8, 9] (lv' := [(0, .ref b), (2, .int (0 : Int32)), (3, .ref (h 0)), (5, .ref v5), (6, .ref v6), (7, .ref v7), (8, .int v8), (9, .int v9), (10, .ref v10), (11, .int v11)]) rfl ?_
      exact B692 K228 hK228 _ _ S77 mu (u + 1) v5 v6 v7 v8 v9 v10 v11 r77 (-2000000098 : Int32) hI hR H
    · have H := H.2 c_678
      refine k_aload C 4 (pc := 681) dL_law_681 rfl ?_
      obtain ⟨x78, hx78, H⟩ := H
      obtain ⟨a78, ha78, H⟩ := H
      refine l_getB C hR (pc := 683) hx78 5 (Nat.lt_of_lt_of_le (Nat.lt_succ_self _) (Nat.le_of_ble_eq_true rfl)) (ref := "WidowWatchLaw$Book") tW_2_73 rfl (v := .ref a78) (by show some (va_rf x78.2.2.2.2.2.1) = _; rw [ha78]; rfl) dL_law_683 ?_
      obtain ⟨n79, f79, hx_, H⟩ := H
      refine l_alenQ C hR (pc := 686) (Or.inl rfl) hx_ dL_law_686 ?_
      refine k_goto C (pc := 687) (tgt := 692) dL_law_687 (by decide) ?_
      refine k_lv (pc := 692) [0, 1, 2, 3, 4, 5, 6, 7, 8, 9] (lv' := [(0, .ref b), (2, .int (0 : Int32)), (3, .ref (h 0)), (5, .ref v5), (6, .ref v6), (7, .ref v7), (8, .int v8), (9, .int v9), (10, .ref v10), (11, .int v11)]) rfl ?_
      exact B692 K228 hK228 _ _ S77 mu (u + 1) v5 v6 v7 v8 v9 v10 v11 r77 (nI n79) hI hR H
  have B629 : ∀ (K228 : ivS → Mu → Nat → Int32 → Nat → Nat → Nat → Int32 → Int32 → Prop) (hK228 : ∀ (ws w : va_W) (S : ivS) (mu : Mu) (u : Nat) (v1 : Int32) (v5 : Nat) (v6 : Nat) (v7 : Nat) (v8 : Int32) (v9 : Int32), ivI cA h ab ac ar S false w → LR cA w ws mu → K228 S mu u v1 v5 v6 v7 v8 v9 → Kf p l e room_1 s m #[Value.ref b] below meth c D (fun q => s.heap.size ≤ q) 28 u (16 * u) Q ws 228 [(0, .ref b), (1, .int v1), (2, .int (0 : Int32)), (3, .ref (h 0)), (5, .ref v5), (6, .ref v6), (7, .ref v7), (8, .int v8), (9, .int v9)] []) (n : Nat) (ws w : va_W) (S : ivS) (mu : Mu) (u : Nat) (v5 : Nat) (v6 : Nat) (v7 : Nat) (v8 : Int32) (v9 : Int32) (v10 : Nat) (v11 : Int32) (v12 : Int32) (v19 : Int32) (v20 : Int32) (v21 : Nat) (v22 : Int32), ivI cA h ab ac ar S false w → LR cA w ws mu → wpL_law_L629 cB Post K228 n S mu u v5 v6 v7 v8 v9 v10 v11 v12 v19 v20 v21 v22 → Kf p l e room_1 s m #[Value.ref b] below meth c D (fun q => s.heap.size ≤ q) 28 u (16 * u) Q ws 629 [(0, .ref b), (2, .int (0 : Int32)), (3, .ref (h 0)), (5, .ref v5), (6, .ref v6), (7, .ref v7), (8, .int v8), (9, .int v9), (10, .ref v10), (11, .int v11), (12, .int v12), (19, .int v19), (20, .int v20), (21, .ref v21), (22, .int v22)] [] := by
    intro K228 hK228 n
    induction n with
    | zero =>
      intro ws w S mu u v5 v6 v7 v8 v9 v10 v11 v12 v19 v20 v21 v22 hI hR H
      exact H.elim
    | succ nn629 ih629 =>
      intro ws w S mu u v5 v6 v7 v8 v9 v10 v11 v12 v19 v20 v21 v22 hI hR H
      have H : (v19 ≤ v22 → ∃ x85, mB mu v6 = some x85 ∧ ∃ q87, u + q87 ≤ cB ∧ wpX7_adds q87 mu v6 v12 v21 (fun mu88 => wpL_law_b666 cB Post K228 S mu88 (u + q87) v5 v6 v7 v8 v9 v10 v11 v12 v19 v20)) ∧ (¬ v19 ≤ v22 → ∃ x89, mP mu v21 = some x89 ∧ ∃ a89, x89.2.2.2 = some a89 ∧ ∃ q91, u + q91 ≤ cB ∧ wpL_with q91 mu a89 v20 (fun r90 mu92 => ∃ x93, mP mu92 v21 = some x93 ∧ ∀ mu94, mu94 = sP mu92 v21 (x93.1, x93.2.1, x93.2.2.1, some r90) → (wpL_law_L629 cB Post K228 nn629) S mu94 (u + q91) v5 v6 v7 v8 v9 v10 v11 v12 v19 v20 v21 (v22 + (1 : Int32)))) := H
      refine k_iload C 14 (pc := 629) dL_law_629 rfl ?_
      refine k_iload C 11 (pc := 631) dL_law_631 rfl ?_
      refine k_icmp_ge C (pc := 633) (tgt := 657) dL_law_633 (by decide) (fun c_633 => ?_) (fun c_633 => ?_)
      · have H := H.1 c_633
        refine k_aload C 4 (pc := 657) dL_law_657 rfl ?_
        refine k_iload C 10 (pc := 659) dL_law_659 rfl ?_
        refine k_aload C 13 (pc := 661) dL_law_661 rfl ?_
        obtain ⟨x85, hx85, H⟩ := H
        obtain ⟨i85, hi85⟩ := List.getElem?_of_mem (hR.B hx85)
        obtain ⟨q87, hc_, H⟩ := H
        refine k_callAv C (pc := 663) (l_runV C hF (As := [.int v12, .ref v21]) (rest := []) (ci := 7) (q0 := i85) (conX7_adds l D cA q87 mu v6 v12 v21 _  H hR) ⟨k_cwB C tW_2_146 tW_2_143 tW_1_9 okX7_adds rfl rfl ⟨Nat.le_of_ble_eq_true rfl, Nat.le_of_ble_eq_true rfl⟩, C.w tW_2_144, C.w tW_2_145⟩ hi85 rfl rfl rfl rfl (Nat.le_of_ble_eq_true rfl) dL_law_663 (kw_rm hc_ (Nat.le_refl _) hRm)) (fun w1 hw_ => ?_)
        obtain ⟨mu88, hR, H⟩ := hw_
        refine k_sl ?_
        refine k_lv (pc := 666) [0, 1, 2, 3, 4, 5, 6, 7, 8, 9, 10, 11, 12] (lv' := [(0, .ref b), (2, .int (0 : Int32)), (3, .ref (h 0)), (5, .ref v5), (6, .ref v6), (7, .ref v7), (8, .int v8), (9, .int v9), (10, .ref v10), (11, .int v11), (12, .int v12), (19, .int v19), (20, .int v20)]) rfl ?_
        exact B666 K228 hK228 _ _ S mu88 (u + q87) v5 v6 v7 v8 v9 v10 v11 v12 v19 v20 hI hR H
      · have H := H.2 c_633
        refine k_aload C 13 (pc := 636) dL_law_636 rfl ?_
        refine k_aload C 13 (pc := 638) dL_law_638 rfl ?_
        obtain ⟨x89, hx89, H⟩ := H
        obtain ⟨a89, ha89, H⟩ := H
        refine l_getP C hR (pc := 640) hx89 3 (Nat.lt_of_lt_of_le (Nat.lt_succ_self _) (Nat.le_of_ble_eq_true rfl)) (ref := "WidowWatchLaw$Para") tW_2_133 rfl (v := .ref a89) (by show some (va_rf x89.2.2.2) = _; rw [ha89]; rfl) dL_law_640 ?_
        refine k_iload C 12 (pc := 643) dL_law_643 rfl ?_
        obtain ⟨q91, hc_, H⟩ := H
        refine k_callAr C (pc := 645) (l_runS C hF (As := [.ref a89, .int v20]) (rest := [.ref v21]) (conL_with l D cA q91 mu a89 v20 _  H hR) ⟨k_cwB C tW_5_21 tW_5_19 tW_1_0 okL_with rfl rfl ⟨Nat.le_of_ble_eq_true rfl, Nat.le_of_ble_eq_true rfl⟩, C.w tW_5_20⟩ rfl rfl (Nat.le_of_ble_eq_true rfl) dL_law_645 (kw_rm hc_ (Nat.le_refl _) hRm)) (fun r90 w1 hw_ => ?_)
        obtain ⟨mu92, hR, H⟩ := hw_
        refine k_sl ?_
        obtain ⟨x93, hx93, H⟩ := H
        refine l_putP C hR (pc := 648) hx93 3 (Nat.lt_of_lt_of_le (Nat.lt_succ_self _) (Nat.le_of_ble_eq_true rfl)) (ref := "WidowWatchLaw$Para") tW_2_133 rfl rfl  rfl rfl rfl (x1 := ((x93.1, x93.2.1, x93.2.2.1, some r90))) rfl dL_law_648 (fun w1 hR => ?_)
        obtain ⟨mu94, hm94⟩ : ∃ m_, m_ = sP mu92 v21 (x93.1, x93.2.1, x93.2.2.1, some r90) := ⟨_, rfl⟩
        rw [← hm94] at hR
        have H := H mu94 hm94
        refine k_iinc C (pc := 651) (k := 14) (v := v22 + (1 : Int32)) dL_law_651 rfl rfl (Nat.lt_of_lt_of_le (Nat.lt_succ_self _) (Nat.le_of_ble_eq_true rfl)) (lv' := [(22, .int (v22 + (1 : Int32))), (0, .ref b), (2, .int (0 : Int32)), (3, .ref (h 0)), (5, .ref v5), (6, .ref v6), (7, .ref v7), (8, .int v8), (9, .int v9), (10, .ref v10), (11, .int v11), (12, .int v12), (19, .int v19), (20, .int v20), (21, .ref v21)]) rfl ?_
        refine k_goto C (pc := 654) (tgt := 629) dL_law_654 (by decide) ?_
        refine k_lv (pc := 629) [1, 2, 3, 4, 5, 6, 7, 8, 9, 10, 11, 12, 13, 14, 0] (lv' := [(0, .ref b), (2, .int (0 : Int32)), (3, .ref (h 0)), (5, .ref v5), (6, .ref v6), (7, .ref v7), (8, .int v8), (9, .int v9), (10, .ref v10), (11, .int v11), (12, .int v12), (19, .int v19), (20, .int v20), (21, .ref v21), (22, .int (v22 + (1 : Int32)))]) rfl ?_
        exact ih629 _ _ S mu94 (u + q91) v5 v6 v7 v8 v9 v10 v11 v12 v19 v20 v21 (v22 + (1 : Int32)) hI hR H
  have B612 : ∀ (K228 : ivS → Mu → Nat → Int32 → Nat → Nat → Nat → Int32 → Int32 → Prop) (hK228 : ∀ (ws w : va_W) (S : ivS) (mu : Mu) (u : Nat) (v1 : Int32) (v5 : Nat) (v6 : Nat) (v7 : Nat) (v8 : Int32) (v9 : Int32), ivI cA h ab ac ar S false w → LR cA w ws mu → K228 S mu u v1 v5 v6 v7 v8 v9 → Kf p l e room_1 s m #[Value.ref b] below meth c D (fun q => s.heap.size ≤ q) 28 u (16 * u) Q ws 228 [(0, .ref b), (1, .int v1), (2, .int (0 : Int32)), (3, .ref (h 0)), (5, .ref v5), (6, .ref v6), (7, .ref v7), (8, .int v8), (9, .int v9)] []) (ws w : va_W) (S : ivS) (mu : Mu) (u : Nat) (v5 : Nat) (v6 : Nat) (v7 : Nat) (v8 : Int32) (v9 : Int32) (v10 : Nat) (v11 : Int32) (v12 : Int32) (v19 : Int32) (v20 : Int32), ivI cA h ab ac ar S false w → LR cA w ws mu → wpL_law_b612 cB Post K228 S mu u v5 v6 v7 v8 v9 v10 v11 v12 v19 v20 → Kf p l e room_1 s m #[Value.ref b] below meth c D (fun q => s.heap.size ≤ q) 28 u (16 * u) Q ws 612 [(0, .ref b), (2, .int (0 : Int32)), (3, .ref (h 0)), (5, .ref v5), (6, .ref v6), (7, .ref v7), (8, .int v8), (9, .int v9), (10, .ref v10), (11, .int v11), (12, .int v12), (19, .int v19), (20, .int v20)] [] := by
    intro K228 hK228 ws w S mu u v5 v6 v7 v8 v9 v10 v11 v12 v19 v20 hI hR H
    have H : (v11 = 0 → wpL_law_b666 cB Post K228 S mu u v5 v6 v7 v8 v9 v10 v11 v12 v19 v20) ∧ (¬ v11 = 0 → u + 1 ≤ cB ∧ ∀ a80, frM mu a80 → ∀ mu81, mu81 = sP mu a80 (0, 0, 0, none) → ∃ q83, (u + 1) + q83 ≤ cB ∧ wpX8_init q83 mu81 a80 (fun mu84 => ∃ m_, wpL_law_L629 cB Post K228 m_ S mu84 ((u + 1) + q83) v5 v6 v7 v8 v9 v10 v11 v12 v19 v20 a80 (0 : Int32))) := H
    refine k_iload C 9 (pc := 612) dL_law_612 rfl ?_
    refine k_if_eq C (pc := 614) (tgt := 666) dL_law_614 (by decide) (fun c_614 => ?_) (fun c_614 => ?_)
    · have H := H.1 c_614
      refine k_lv (pc := 666) [0, 1, 2, 3, 4, 5, 6, 7, 8, 9, 10, 11, 12] (lv' := [(0, .ref b), (2, .int (0 : Int32)), (3, .ref (h 0)), (5, .ref v5), (6, .ref v6), (7, .ref v7), (8, .int v8), (9, .int v9), (10, .ref v10), (11, .int v11), (12, .int v12), (19, .int v19), (20, .int v20)]) rfl ?_
      exact B666 K228 hK228 _ _ S mu u v5 v6 v7 v8 v9 v10 v11 v12 v19 v20 hI hR H
    · have H := H.2 c_614
      obtain ⟨hc_, H⟩ := H
      refine l_newP C hR (u := u) (pc := 617) tW_2_155 tW_2_117 tW_1_22 (Nat.le_trans hc_ hRm.1) (Nat.le_trans (Nat.mul_le_mul_left 16 hc_) hRm.2) dL_law_617 (fun a80 w1 hf_ hR => ?_)
      have H := H a80 hf_
      obtain ⟨mu81, hm81⟩ : ∃ m_, m_ = sP mu a80 (0, 0, 0, none) := ⟨_, rfl⟩
      rw [← hm81] at hR
      have H := H mu81 hm81
      refine k_dup C (pc := 620) dL_law_620 rfl ?_
      obtain ⟨q83, hc_, H⟩ := H
      refine k_callAv C (pc := 621) (l_runIN C hF (As := []) (rest := [.ref a80]) (conX8_init l D cA q83 mu81 a80 _  H hR) ⟨k_cwN C tW_2_120 (k_n15 C) tW_1_22 okX8_init rfl rfl ⟨Nat.le_of_ble_eq_true rfl, Nat.le_of_ble_eq_true rfl⟩, rfl, C.w tW_2_119⟩ rfl rfl (Nat.le_of_ble_eq_true rfl) dL_law_621 (kw_rm hc_ (Nat.le_refl _) hRm)) (fun w1 hw_ => ?_)
      obtain ⟨mu84, hR, H⟩ := hw_
      refine k_sl ?_
      refine k_astore C (pc := 624) dL_law_624 (Nat.lt_of_lt_of_le (Nat.lt_succ_self _) (Nat.le_of_ble_eq_true rfl)) (lv' := [(21, .ref a80), (0, .ref b), (2, .int (0 : Int32)), (3, .ref (h 0)), (5, .ref v5), (6, .ref v6), (7, .ref v7), (8, .int v8), (9, .int v9), (10, .ref v10), (11, .int v11), (12, .int v12), (19, .int v19), (20, .int v20)]) rfl ?_
      refine k_iconst C (pc := 626) (v := (0 : Int32)) dL_law_626 rfl ?_
      refine k_istore C (pc := 627) dL_law_627 (Nat.lt_of_lt_of_le (Nat.lt_succ_self _) (Nat.le_of_ble_eq_true rfl)) (lv' := [(22, .int (0 : Int32)), (21, .ref a80), (0, .ref b), (2, .int (0 : Int32)), (3, .ref (h 0)), (5, .ref v5), (6, .ref v6), (7, .ref v7), (8, .int v8), (9, .int v9), (10, .ref v10), (11, .int v11), (12, .int v12), (19, .int v19), (20, .int v20)]) rfl ?_
      obtain ⟨n_, H⟩ := H
      refine k_lv (pc := 629) [2, 3, 4, 5, 6, 7, 8, 9, 10, 11, 12, 13, 14, 1, 0] (lv' := [(0, .ref b), (2, .int (0 : Int32)), (3, .ref (h 0)), (5, .ref v5), (6, .ref v6), (7, .ref v7), (8, .int v8), (9, .int v9), (10, .ref v10), (11, .int v11), (12, .int v12), (19, .int v19), (20, .int v20), (21, .ref a80), (22, .int (0 : Int32))]) rfl ?_
      exact B629 K228 hK228 n_ _ _ S mu84 ((u + 1) + q83) v5 v6 v7 v8 v9 v10 v11 v12 v19 v20 a80 (0 : Int32) hI hR H
  have B597 : ∀ (K228 : ivS → Mu → Nat → Int32 → Nat → Nat → Nat → Int32 → Int32 → Prop) (hK228 : ∀ (ws w : va_W) (S : ivS) (mu : Mu) (u : Nat) (v1 : Int32) (v5 : Nat) (v6 : Nat) (v7 : Nat) (v8 : Int32) (v9 : Int32), ivI cA h ab ac ar S false w → LR cA w ws mu → K228 S mu u v1 v5 v6 v7 v8 v9 → Kf p l e room_1 s m #[Value.ref b] below meth c D (fun q => s.heap.size ≤ q) 28 u (16 * u) Q ws 228 [(0, .ref b), (1, .int v1), (2, .int (0 : Int32)), (3, .ref (h 0)), (5, .ref v5), (6, .ref v6), (7, .ref v7), (8, .int v8), (9, .int v9)] []) (ws w : va_W) (S : ivS) (mu : Mu) (u : Nat) (v5 : Nat) (v6 : Nat) (v7 : Nat) (v8 : Int32) (v9 : Int32) (v10 : Nat) (v12 : Int32) (v19 : Int32) (v20 : Int32) (s0 : Int32), ivI cA h ab ac ar S false w → LR cA w ws mu → wpL_law_b597 cB Post K228 S mu u v5 v6 v7 v8 v9 v10 v12 v19 v20 s0 → Kf p l e room_1 s m #[Value.ref b] below meth c D (fun q => s.heap.size ≤ q) 28 u (16 * u) Q ws 597 [(0, .ref b), (2, .int (0 : Int32)), (3, .ref (h 0)), (5, .ref v5), (6, .ref v6), (7, .ref v7), (8, .int v8), (9, .int v9), (10, .ref v10), (12, .int v12), (19, .int v19), (20, .int v20)] [.int s0] := by
    intro K228 hK228 ws w S mu u v5 v6 v7 v8 v9 v10 v12 v19 v20 s0 hI hR H
    have H : ∃ x75, mB mu v6 = some x75 ∧ ∃ a75, x75.2.2.2.2.2.1 = some a75 ∧ ∃ n76 f76, mQ mu a75 = some (2, n76, f76) ∧ (¬ (nI n76) = (3 : Int32) → wpL_law_b612 cB Post K228 S mu u v5 v6 v7 v8 v9 v10 s0 v12 v19 v20) ∧ ((nI n76) = (3 : Int32) → wpL_law_b612 cB Post K228 S mu u v5 v6 v7 v8 v9 v10 s0 v12 (0 : Int32) v20) := H
    refine k_istore C (pc := 597) dL_law_597 (Nat.lt_of_lt_of_le (Nat.lt_succ_self _) (Nat.le_of_ble_eq_true rfl)) (lv' := [(11, .int s0), (0, .ref b), (2, .int (0 : Int32)), (3, .ref (h 0)), (5, .ref v5), (6, .ref v6), (7, .ref v7), (8, .int v8), (9, .int v9), (10, .ref v10), (12, .int v12), (19, .int v19), (20, .int v20)]) rfl ?_
    refine k_aload C 5 (pc := 599) dL_law_599 rfl ?_
    obtain ⟨x75, hx75, H⟩ := H
    obtain ⟨a75, ha75, H⟩ := H
    refine l_getB C hR (pc := 601) hx75 5 (Nat.lt_of_lt_of_le (Nat.lt_succ_self _) (Nat.le_of_ble_eq_true rfl)) (ref := "WidowWatchLaw$Book") tW_2_73 rfl (v := .ref a75) (by show some (va_rf x75.2.2.2.2.2.1) = _; rw [ha75]; rfl) dL_law_601 ?_
    obtain ⟨n76, f76, hx_, H⟩ := H
    refine l_alenQ C hR (pc := 604) (Or.inl rfl) hx_ dL_law_604 ?_
    refine k_iconst C (pc := 605) (v := (3 : Int32)) dL_law_605 rfl ?_
    refine k_icmp_ne C (pc := 606) (tgt := 612) dL_law_606 (by decide) (fun c_606 => ?_) (fun c_606 => ?_)
    · have H := H.1 c_606
      refine k_lv (pc := 612) [1, 2, 3, 4, 5, 6, 7, 8, 9, 0, 10, 11, 12] (lv' := [(0, .ref b), (2, .int (0 : Int32)), (3, .ref (h 0)), (5, .ref v5), (6, .ref v6), (7, .ref v7), (8, .int v8), (9, .int v9), (10, .ref v10), (11, .int s0), (12, .int v12), (19, .int v19), (20, .int v20)]) rfl ?_
      exact B612 K228 hK228 _ _ S mu u v5 v6 v7 v8 v9 v10 s0 v12 v19 v20 hI hR H
    · have H := H.2 c_606
      refine k_iconst C (pc := 609) (v := (0 : Int32)) dL_law_609 rfl ?_
      refine k_istore C (pc := 610) dL_law_610 (Nat.lt_of_lt_of_le (Nat.lt_succ_self _) (Nat.le_of_ble_eq_true rfl)) (lv' := [(19, .int (0 : Int32)), (11, .int s0), (0, .ref b), (2, .int (0 : Int32)), (3, .ref (h 0)), (5, .ref v5), (6, .ref v6), (7, .ref v7), (8, .int v8), (9, .int v9), (10, .ref v10), (12, .int v12), (20, .int v20)]) rfl ?_
      refine k_lv (pc := 612) [2, 3, 4, 5, 6, 7, 8, 9, 10, 1, 11, 0, 12] (lv' := [(0, .ref b), (2, .int (0 : Int32)), (3, .ref (h 0)), (5, .ref v5), (6, .ref v6), (7, .ref v7), (8, .int v8), (9, .int v9), (10, .ref v10), (11, .int s0), (12, .int v12), (19, .int (0 : Int32)), (20, .int v20)]) rfl ?_
      exact B612 K228 hK228 _ _ S mu u v5 v6 v7 v8 v9 v10 s0 v12 (0 : Int32) v20 hI hR H
  have B596 : ∀ (K228 : ivS → Mu → Nat → Int32 → Nat → Nat → Nat → Int32 → Int32 → Prop) (hK228 : ∀ (ws w : va_W) (S : ivS) (mu : Mu) (u : Nat) (v1 : Int32) (v5 : Nat) (v6 : Nat) (v7 : Nat) (v8 : Int32) (v9 : Int32), ivI cA h ab ac ar S false w → LR cA w ws mu → K228 S mu u v1 v5 v6 v7 v8 v9 → Kf p l e room_1 s m #[Value.ref b] below meth c D (fun q => s.heap.size ≤ q) 28 u (16 * u) Q ws 228 [(0, .ref b), (1, .int v1), (2, .int (0 : Int32)), (3, .ref (h 0)), (5, .ref v5), (6, .ref v6), (7, .ref v7), (8, .int v8), (9, .int v9)] []) (ws w : va_W) (S : ivS) (mu : Mu) (u : Nat) (v5 : Nat) (v6 : Nat) (v7 : Nat) (v8 : Int32) (v9 : Int32) (v10 : Nat) (v12 : Int32) (v19 : Int32) (v20 : Int32), ivI cA h ab ac ar S false w → LR cA w ws mu → wpL_law_b596 cB Post K228 S mu u v5 v6 v7 v8 v9 v10 v12 v19 v20 → Kf p l e room_1 s m #[Value.ref b] below meth c D (fun q => s.heap.size ≤ q) 28 u (16 * u) Q ws 596 [(0, .ref b), (2, .int (0 : Int32)), (3, .ref (h 0)), (5, .ref v5), (6, .ref v6), (7, .ref v7), (8, .int v8), (9, .int v9), (10, .ref v10), (12, .int v12), (19, .int v19), (20, .int v20)] [] := by
    intro K228 hK228 ws w S mu u v5 v6 v7 v8 v9 v10 v12 v19 v20 hI hR H
    have H : wpL_law_b597 cB Post K228 S mu u v5 v6 v7 v8 v9 v10 v12 v19 v20 (0 : Int32) := H
    refine k_iconst C (pc := 596) (v := (0 : Int32)) dL_law_596 rfl ?_
    refine k_lv (pc := 597) [0, 1, 2, 3, 4, 5, 6, 7, 8, 9, 10, 11] (lv' := [(0, .ref b), (2, .int (0 : Int32)), (3, .ref (h 0)), (5, .ref v5), (6, .ref v6), (7, .ref v7), (8, .int v8), (9, .int v9), (10, .ref v10), (12, .int v12), (19, .int v19), (20, .int v20)]) rfl ?_
    exact B597 K228 hK228 _ _ S mu u v5 v6 v7 v8 v9 v10 v12 v19 v20 (0 : Int32) hI hR H
  have B791 : ∀ (K228 : ivS → Mu → Nat → Int32 → Nat → Nat → Nat → Int32 → Int32 → Prop) (hK228 : ∀ (ws w : va_W) (S : ivS) (mu : Mu) (u : Nat) (v1 : Int32) (v5 : Nat) (v6 : Nat) (v7 : Nat) (v8 : Int32) (v9 : Int32), ivI cA h ab ac ar S false w → LR cA w ws mu → K228 S mu u v1 v5 v6 v7 v8 v9 → Kf p l e room_1 s m #[Value.ref b] below meth c D (fun q => s.heap.size ≤ q) 28 u (16 * u) Q ws 228 [(0, .ref b), (1, .int v1), (2, .int (0 : Int32)), (3, .ref (h 0)), (5, .ref v5), (6, .ref v6), (7, .ref v7), (8, .int v8), (9, .int v9)] []) (ws w : va_W) (S : ivS) (mu : Mu) (u : Nat) (v5 : Nat) (v6 : Nat) (v7 : Nat) (v8 : Int32) (v9 : Int32) (v10 : Nat) (v11 : Int32) (s0 : Int32), ivI cA h ab ac ar S false w → LR cA w ws mu → wpL_law_b791 cB Post K228 S mu u v5 v6 v7 v8 v9 v10 v11 s0 → Kf p l e room_1 s m #[Value.ref b] below meth c D (fun q => s.heap.size ≤ q) 28 u (16 * u) Q ws 791 [(0, .ref b), (2, .int (0 : Int32)), (3, .ref (h 0)), (5, .ref v5), (6, .ref v6), (7, .ref v7), (8, .int v8), (9, .int v9), (10, .ref v10), (11, .int v11)] [.int s0] := by
    intro K228 hK228 ws w S mu u v5 v6 v7 v8 v9 v10 v11 s0 hI hR H
    have H : wpL_law_b1176 cB Post K228 S mu u s0 v5 v6 v7 v8 v9 v10 v11 := H
    refine k_istore_n C (pc := 791) dL_law_791 rfl (Nat.lt_of_lt_of_le (Nat.lt_succ_self _) (Nat.le_of_ble_eq_true rfl)) (lv' := [(1, .int s0), (0, .ref b), (2, .int (0 : Int32)), (3, .ref (h 0)), (5, .ref v5), (6, .ref v6), (7, .ref v7), (8, .int v8), (9, .int v9), (10, .ref v10), (11, .int v11)]) rfl ?_
    refine k_goto C (pc := 792) (tgt := 1176) dL_law_792 (by decide) ?_
    refine k_lv (pc := 1176) [1, 0, 2, 3, 4, 5, 6, 7, 8, 9, 10] (lv' := [(0, .ref b), (1, .int s0), (2, .int (0 : Int32)), (3, .ref (h 0)), (5, .ref v5), (6, .ref v6), (7, .ref v7), (8, .int v8), (9, .int v9), (10, .ref v10), (11, .int v11)]) rfl ?_
    exact B1176 K228 hK228 _ _ S mu u s0 v5 v6 v7 v8 v9 v10 v11 hI hR H
  have B767 : ∀ (K228 : ivS → Mu → Nat → Int32 → Nat → Nat → Nat → Int32 → Int32 → Prop) (hK228 : ∀ (ws w : va_W) (S : ivS) (mu : Mu) (u : Nat) (v1 : Int32) (v5 : Nat) (v6 : Nat) (v7 : Nat) (v8 : Int32) (v9 : Int32), ivI cA h ab ac ar S false w → LR cA w ws mu → K228 S mu u v1 v5 v6 v7 v8 v9 → Kf p l e room_1 s m #[Value.ref b] below meth c D (fun q => s.heap.size ≤ q) 28 u (16 * u) Q ws 228 [(0, .ref b), (1, .int v1), (2, .int (0 : Int32)), (3, .ref (h 0)), (5, .ref v5), (6, .ref v6), (7, .ref v7), (8, .int v8), (9, .int v9)] []) (ws w : va_W) (S : ivS) (mu : Mu) (u : Nat) (v5 : Nat) (v6 : Nat) (v7 : Nat) (v8 : Int32) (v9 : Int32) (v10 : Nat) (v11 : Int32) (s0 : Int32), ivI cA h ab ac ar S false w → LR cA w ws mu → wpL_law_b767 cB Post K228 S mu u v5 v6 v7 v8 v9 v10 v11 s0 → Kf p l e room_1 s m #[Value.ref b] below meth c D (fun q => s.heap.size ≤ q) 28 u (16 * u) Q ws 767 [(0, .ref b), (2, .int (0 : Int32)), (3, .ref (h 0)), (5, .ref v5), (6, .ref v6), (7, .ref v7), (8, .int v8), (9, .int v9), (10, .ref v10), (11, .int v11)] [.int s0] := by
    intro K228 hK228 ws w S mu u v5 v6 v7 v8 v9 v10 v11 s0 hI hR H
    have H : wpL_law_b1176 cB Post K228 S mu u s0 v5 v6 v7 v8 v9 v10 v11 := H
    refine k_istore_n C (pc := 767) dL_law_767 rfl (Nat.lt_of_lt_of_le (Nat.lt_succ_self _) (Nat.le_of_ble_eq_true rfl)) (lv' := [(1, .int s0), (0, .ref b), (2, .int (0 : Int32)), (3, .ref (h 0)), (5, .ref v5), (6, .ref v6), (7, .ref v7), (8, .int v8), (9, .int v9), (10, .ref v10), (11, .int v11)]) rfl ?_
    refine k_goto C (pc := 768) (tgt := 1176) dL_law_768 (by decide) ?_
    refine k_lv (pc := 1176) [1, 0, 2, 3, 4, 5, 6, 7, 8, 9, 10] (lv' := [(0, .ref b), (1, .int s0), (2, .int (0 : Int32)), (3, .ref (h 0)), (5, .ref v5), (6, .ref v6), (7, .ref v7), (8, .int v8), (9, .int v9), (10, .ref v10), (11, .int v11)]) rfl ?_
    exact B1176 K228 hK228 _ _ S mu u s0 v5 v6 v7 v8 v9 v10 v11 hI hR H
  have B723 : ∀ (K228 : ivS → Mu → Nat → Int32 → Nat → Nat → Nat → Int32 → Int32 → Prop) (hK228 : ∀ (ws w : va_W) (S : ivS) (mu : Mu) (u : Nat) (v1 : Int32) (v5 : Nat) (v6 : Nat) (v7 : Nat) (v8 : Int32) (v9 : Int32), ivI cA h ab ac ar S false w → LR cA w ws mu → K228 S mu u v1 v5 v6 v7 v8 v9 → Kf p l e room_1 s m #[Value.ref b] below meth c D (fun q => s.heap.size ≤ q) 28 u (16 * u) Q ws 228 [(0, .ref b), (1, .int v1), (2, .int (0 : Int32)), (3, .ref (h 0)), (5, .ref v5), (6, .ref v6), (7, .ref v7), (8, .int v8), (9, .int v9)] []) (ws w : va_W) (S : ivS) (mu : Mu) (u : Nat) (v5 : Nat) (v6 : Nat) (v7 : Nat) (v8 : Int32) (v9 : Int32) (v10 : Nat) (v12 : Int32) (s0 : Int32), ivI cA h ab ac ar S false w → LR cA w ws mu → wpL_law_b723 cB Post K228 S mu u v5 v6 v7 v8 v9 v10 v12 s0 → Kf p l e room_1 s m #[Value.ref b] below meth c D (fun q => s.heap.size ≤ q) 28 u (16 * u) Q ws 723 [(0, .ref b), (2, .int (0 : Int32)), (3, .ref (h 0)), (5, .ref v5), (6, .ref v6), (7, .ref v7), (8, .int v8), (9, .int v9), (10, .ref v10), (12, .int v12)] [.int s0] := by
    intro K228 hK228 ws w S mu u v5 v6 v7 v8 v9 v10 v12 s0 hI hR H
    have H : (s0 = 0 → ∃ x95, mB mu v6 = some x95 ∧ ∃ a95, x95.2.2.2.2.2.1 = some a95 ∧ ∃ n96 f96, mQ mu a95 = some (2, n96, f96) ∧ u + 1 ≤ cB ∧ ∀ S97, S97 = (s_remove S (nI n96)).2.2.2 → ∀ r97, r97 = an1 (s_remove S (nI n96)) (-2000000097) → (¬ r97 = (-2000000097 : Int32) → wpL_law_b791 cB Post K228 S97 mu (u + 1) v5 v6 v7 v8 v9 v10 s0 (0 : Int32)) ∧ (r97 = (-2000000097 : Int32) → wpL_law_b791 cB Post K228 S97 mu (u + 1) v5 v6 v7 v8 v9 v10 s0 (1 : Int32))) ∧ (¬ s0 = 0 → ∃ x98, mB mu v6 = some x98 ∧ ∃ a98, x98.2.2.2.2.2.1 = some a98 ∧ ∃ n99 f99 k99, mQ mu a98 = some (2, n99, f99) ∧ v12 = nI k99 ∧ k99 < n99 ∧ n99 ≤ 1000 ∧ ∃ a99, f99 k99 = some a99 ∧ ∃ x100, mP mu a99 = some x100 ∧ ∃ a100, x100.2.2.2 = some a100 ∧ ∃ n101 f101, mI mu a100 = some (n101, f101) ∧ ∃ x102, mB mu v6 = some x102 ∧ ∃ q104, u + q104 ≤ cB ∧ wpX7_drops q104 mu v6 v12 (fun mu105 => (u + q104) + 1 ≤ cB ∧ ∀ S106, S106 = (s_remove S v12).2.2.2 → ∀ r106, r106 = an1 (s_remove S v12) (-2000000097) → (¬ r106 = (nI n101) → wpL_law_b767 cB Post K228 S106 mu105 ((u + q104) + 1) v5 v6 v7 v8 v9 v10 s0 (0 : Int32)) ∧ (r106 = (nI n101) → wpL_law_b767 cB Post K228 S106 mu105 ((u + q104) + 1) v5 v6 v7 v8 v9 v10 s0 (1 : Int32)))) := H
    refine k_istore C (pc := 723) dL_law_723 (Nat.lt_of_lt_of_le (Nat.lt_succ_self _) (Nat.le_of_ble_eq_true rfl)) (lv' := [(11, .int s0), (0, .ref b), (2, .int (0 : Int32)), (3, .ref (h 0)), (5, .ref v5), (6, .ref v6), (7, .ref v7), (8, .int v8), (9, .int v9), (10, .ref v10), (12, .int v12)]) rfl ?_
    refine k_iload C 0 (pc := 725) dL_law_725 rfl ?_
    refine k_if_eq C (pc := 727) (tgt := 771) dL_law_727 (by decide) (fun c_727 => ?_) (fun c_727 => ?_)
    · have H := H.1 c_727
      refine k_aload_n C 3 (pc := 771) dL_law_771 rfl rfl ?_
      refine k_aload C 5 (pc := 772) dL_law_772 rfl ?_
      obtain ⟨x95, hx95, H⟩ := H
      obtain ⟨a95, ha95, H⟩ := H
      refine l_getB C hR (pc := 774) hx95 5 (Nat.lt_of_lt_of_le (Nat.lt_succ_self _) (Nat.le_of_ble_eq_true rfl)) (ref := "WidowWatchLaw$Book") tW_2_73 rfl (v := .ref a95) (by show some (va_rf x95.2.2.2.2.2.1) = _; rw [ha95]; rfl) dL_law_774 ?_
      obtain ⟨n96, f96, hx_, H⟩ := H
      refine l_alenQ C hR (pc := 777) (Or.inl rfl) hx_ dL_law_777 ?_
      obtain ⟨hc_, H⟩ := H
      refine ky_callA C (pc := 778) (ky_runS C hE (As := [.ref (h 0), .int (nI n96)]) (rest := []) (wl_remove l D cA h ab ac ar hst (nI n96) hI hR) (ky_cw C tYL_remove tW_4_225 tW_1_0 tW_4_226 okL_remove rfl rfl ⟨Nat.le_of_ble_eq_true rfl, Nat.le_of_ble_eq_true rfl⟩) rfl rfl (Nat.le_of_ble_eq_true rfl) dL_law_778 (kw_rm hc_ (by decide) hRm)) (fun v_ w1 hv_ => ?_)
      obtain ⟨r97, rfl, w_, hI, hR, hr1_⟩ := hv_
      have hI := hI.weak
      obtain ⟨S97, hS1_⟩ : ∃ m_, m_ = (s_remove S (nI n96)).2.2.2 := ⟨_, rfl⟩
      rw [← hS1_] at hI
      have H := H S97 hS1_ r97 hr1_
      refine k_eq (pc := 781) (st' := .int r97 :: []) rfl rfl rfl ?_
      refine k_widen (k := u + 1) (n := 16 * (u + 1)) (Nat.le_refl _) (by omega) ?_
      refine k_ldc C (pc := 781) (v := (-2000000097 : Int32)) tW_3_203 dL_law_781 ?_
      refine k_icmp_ne C (pc := 783) (tgt := 790) dL_law_783 (by decide) (fun c_783 => ?_) (fun c_783 => ?_)
      · have H := H.1 c_783
        refine k_iconst C (pc := 790) (v := (0 : Int32)) dL_law_790 rfl ?_
        refine k_lv (pc := 791) [1, 2, 3, 4, 5, 6, 7, 8, 9, 0] (lv' := [(0, .ref b), (2, .int (0 : Int32)), (3, .ref (h 0)), (5, .ref v5), (6, .ref v6), (7, .ref v7), (8, .int v8), (9, .int v9), (10, .ref v10), (11, .int s0)]) rfl ?_
        exact B791 K228 hK228 _ _ S97 mu (u + 1) v5 v6 v7 v8 v9 v10 s0 (0 : Int32) hI hR H
      · have H := H.2 c_783
        refine k_iconst C (pc := 786) (v := (1 : Int32)) dL_law_786 rfl ?_
        refine k_goto C (pc := 787) (tgt := 791) dL_law_787 (by decide) ?_
        refine k_lv (pc := 791) [1, 2, 3, 4, 5, 6, 7, 8, 9, 0] (lv' := [(0, .ref b), (2, .int (0 : Int32)), (3, .ref (h 0)), (5, .ref v5), (6, .ref v6), (7, .ref v7), (8, .int v8), (9, .int v9), (10, .ref v10), (11, .int s0)]) rfl ?_
        exact B791 K228 hK228 _ _ S97 mu (u + 1) v5 v6 v7 v8 v9 v10 s0 (1 : Int32) hI hR H
    · have H := H.2 c_727
      refine k_aload C 5 (pc := 730) dL_law_730 rfl ?_
      obtain ⟨x98, hx98, H⟩ := H
      obtain ⟨a98, ha98, H⟩ := H
      refine l_getB C hR (pc := 732) hx98 5 (Nat.lt_of_lt_of_le (Nat.lt_succ_self _) (Nat.le_of_ble_eq_true rfl)) (ref := "WidowWatchLaw$Book") tW_2_73 rfl (v := .ref a98) (by show some (va_rf x98.2.2.2.2.2.1) = _; rw [ha98]; rfl) dL_law_732 ?_
      refine k_iload C 10 (pc := 735) dL_law_735 rfl ?_
      obtain ⟨n99, f99, k99, hx_, hk_, hl_, hn_, H⟩ := H
      refine k_eq (pc := 737) (st' := [.int (nI k99), .ref a98]) rfl rfl (by rw [hk_]) ?_
      obtain ⟨a99, ha99, H⟩ := H
      refine l_aald C hR (pc := 737) (Or.inl rfl) hx_ hl_ hn_ dL_law_737 ?_
      refine k_eq (pc := 738) (st' := [.ref a99]) rfl rfl (by rw [ha99]; rfl) ?_
      obtain ⟨x100, hx100, H⟩ := H
      obtain ⟨a100, ha100, H⟩ := H
      refine l_getP C hR (pc := 738) hx100 3 (Nat.lt_of_lt_of_le (Nat.lt_succ_self _) (Nat.le_of_ble_eq_true rfl)) (ref := "WidowWatchLaw$Para") tW_2_133 rfl (v := .ref a100) (by show some (va_rf x100.2.2.2) = _; rw [ha100]; rfl) dL_law_738 ?_
      obtain ⟨n101, f101, hx_, H⟩ := H
      refine l_alen C hR (pc := 741) hx_ dL_law_741 ?_
      refine k_istore C (pc := 742) dL_law_742 (Nat.lt_of_lt_of_le (Nat.lt_succ_self _) (Nat.le_of_ble_eq_true rfl)) (lv' := [(21, .int (nI n101)), (11, .int s0), (0, .ref b), (2, .int (0 : Int32)), (3, .ref (h 0)), (5, .ref v5), (6, .ref v6), (7, .ref v7), (8, .int v8), (9, .int v9), (10, .ref v10), (12, .int v12)]) rfl ?_
      refine k_aload C 6 (pc := 744) dL_law_744 rfl ?_
      refine k_iload C 11 (pc := 746) dL_law_746 rfl ?_
      obtain ⟨x102, hx102, H⟩ := H
      obtain ⟨i102, hi102⟩ := List.getElem?_of_mem (hR.B hx102)
      obtain ⟨q104, hc_, H⟩ := H
      refine k_callAv C (pc := 748) (l_runV C hF (As := [.int v12]) (rest := []) (ci := 7) (q0 := i102) (conX7_drops l D cA q104 mu v6 v12 _  H hR) ⟨k_cwB C tW_2_150 tW_2_147 tW_1_9 okX7_drops rfl rfl ⟨Nat.le_of_ble_eq_true rfl, Nat.le_of_ble_eq_true rfl⟩, C.w tW_2_148, C.w tW_2_149⟩ hi102 rfl rfl rfl rfl (Nat.le_of_ble_eq_true rfl) dL_law_748 (kw_rm hc_ (Nat.le_refl _) hRm)) (fun w1 hw_ => ?_)
      obtain ⟨mu105, hR, H⟩ := hw_
      refine k_sl ?_
      refine k_aload_n C 4 (pc := 751) dL_law_751 rfl rfl ?_
      refine k_iload C 11 (pc := 752) dL_law_752 rfl ?_
      obtain ⟨hc_, H⟩ := H
      refine ky_callA C (pc := 754) (ky_runS C hE (As := [.ref (h 0), .int v12]) (rest := []) (wl_remove l D cA h ab ac ar hst v12 hI hR) (ky_cw C tYL_remove tW_4_225 tW_1_0 tW_4_226 okL_remove rfl rfl ⟨Nat.le_of_ble_eq_true rfl, Nat.le_of_ble_eq_true rfl⟩) rfl rfl (Nat.le_of_ble_eq_true rfl) dL_law_754 (kw_rm hc_ (by decide) hRm)) (fun v_ w1 hv_ => ?_)
      obtain ⟨r106, rfl, w_, hI, hR, hr1_⟩ := hv_
      have hI := hI.weak
      obtain ⟨S106, hS1_⟩ : ∃ m_, m_ = (s_remove S v12).2.2.2 := ⟨_, rfl⟩
      rw [← hS1_] at hI
      have H := H S106 hS1_ r106 hr1_
      refine k_eq (pc := 757) (st' := .int r106 :: []) rfl rfl rfl ?_
      refine k_widen (k := (u + q104) + 1) (n := 16 * ((u + q104) + 1)) (Nat.le_refl _) (by omega) ?_
      refine k_iload C 0 (pc := 757) dL_law_757 rfl ?_
      refine k_icmp_ne C (pc := 759) (tgt := 766) dL_law_759 (by decide) (fun c_759 => ?_) (fun c_759 => ?_)
      · have H := H.1 c_759
        refine k_iconst C (pc := 766) (v := (0 : Int32)) dL_law_766 rfl ?_
        refine k_lv (pc := 767) [2, 3, 4, 5, 6, 7, 8, 9, 10, 1] (lv' := [(0, .ref b), (2, .int (0 : Int32)), (3, .ref (h 0)), (5, .ref v5), (6, .ref v6), (7, .ref v7), (8, .int v8), (9, .int v9), (10, .ref v10), (11, .int s0)]) rfl ?_
        exact B767 K228 hK228 _ _ S106 mu105 ((u + q104) + 1) v5 v6 v7 v8 v9 v10 s0 (0 : Int32) hI hR H
      · have H := H.2 c_759
        refine k_iconst C (pc := 762) (v := (1 : Int32)) dL_law_762 rfl ?_
        refine k_goto C (pc := 763) (tgt := 767) dL_law_763 (by decide) ?_
        refine k_lv (pc := 767) [2, 3, 4, 5, 6, 7, 8, 9, 10, 1] (lv' := [(0, .ref b), (2, .int (0 : Int32)), (3, .ref (h 0)), (5, .ref v5), (6, .ref v6), (7, .ref v7), (8, .int v8), (9, .int v9), (10, .ref v10), (11, .int s0)]) rfl ?_
        exact B767 K228 hK228 _ _ S106 mu105 ((u + q104) + 1) v5 v6 v7 v8 v9 v10 s0 (1 : Int32) hI hR H
  have B722 : ∀ (K228 : ivS → Mu → Nat → Int32 → Nat → Nat → Nat → Int32 → Int32 → Prop) (hK228 : ∀ (ws w : va_W) (S : ivS) (mu : Mu) (u : Nat) (v1 : Int32) (v5 : Nat) (v6 : Nat) (v7 : Nat) (v8 : Int32) (v9 : Int32), ivI cA h ab ac ar S false w → LR cA w ws mu → K228 S mu u v1 v5 v6 v7 v8 v9 → Kf p l e room_1 s m #[Value.ref b] below meth c D (fun q => s.heap.size ≤ q) 28 u (16 * u) Q ws 228 [(0, .ref b), (1, .int v1), (2, .int (0 : Int32)), (3, .ref (h 0)), (5, .ref v5), (6, .ref v6), (7, .ref v7), (8, .int v8), (9, .int v9)] []) (ws w : va_W) (S : ivS) (mu : Mu) (u : Nat) (v5 : Nat) (v6 : Nat) (v7 : Nat) (v8 : Int32) (v9 : Int32) (v10 : Nat) (v12 : Int32), ivI cA h ab ac ar S false w → LR cA w ws mu → wpL_law_b722 cB Post K228 S mu u v5 v6 v7 v8 v9 v10 v12 → Kf p l e room_1 s m #[Value.ref b] below meth c D (fun q => s.heap.size ≤ q) 28 u (16 * u) Q ws 722 [(0, .ref b), (2, .int (0 : Int32)), (3, .ref (h 0)), (5, .ref v5), (6, .ref v6), (7, .ref v7), (8, .int v8), (9, .int v9), (10, .ref v10), (12, .int v12)] [] := by
    intro K228 hK228 ws w S mu u v5 v6 v7 v8 v9 v10 v12 hI hR H
    have H : wpL_law_b723 cB Post K228 S mu u v5 v6 v7 v8 v9 v10 v12 (0 : Int32) := H
    refine k_iconst C (pc := 722) (v := (0 : Int32)) dL_law_722 rfl ?_
    refine k_lv (pc := 723) [0, 1, 2, 3, 4, 5, 6, 7, 8, 9] (lv' := [(0, .ref b), (2, .int (0 : Int32)), (3, .ref (h 0)), (5, .ref v5), (6, .ref v6), (7, .ref v7), (8, .int v8), (9, .int v9), (10, .ref v10), (12, .int v12)]) rfl ?_
    exact B723 K228 hK228 _ _ S mu u v5 v6 v7 v8 v9 v10 v12 (0 : Int32) hI hR H
  have B1077 : ∀ (K228 : ivS → Mu → Nat → Int32 → Nat → Nat → Nat → Int32 → Int32 → Prop) (hK228 : ∀ (ws w : va_W) (S : ivS) (mu : Mu) (u : Nat) (v1 : Int32) (v5 : Nat) (v6 : Nat) (v7 : Nat) (v8 : Int32) (v9 : Int32), ivI cA h ab ac ar S false w → LR cA w ws mu → K228 S mu u v1 v5 v6 v7 v8 v9 → Kf p l e room_1 s m #[Value.ref b] below meth c D (fun q => s.heap.size ≤ q) 28 u (16 * u) Q ws 228 [(0, .ref b), (1, .int v1), (2, .int (0 : Int32)), (3, .ref (h 0)), (5, .ref v5), (6, .ref v6), (7, .ref v7), (8, .int v8), (9, .int v9)] []) (ws w : va_W) (S : ivS) (mu : Mu) (u : Nat) (v5 : Nat) (v6 : Nat) (v7 : Nat) (v8 : Int32) (v9 : Int32) (v10 : Nat) (v11 : Int32) (s0 : Int32), ivI cA h ab ac ar S false w → LR cA w ws mu → wpL_law_b1077 cB Post K228 S mu u v5 v6 v7 v8 v9 v10 v11 s0 → Kf p l e room_1 s m #[Value.ref b] below meth c D (fun q => s.heap.size ≤ q) 28 u (16 * u) Q ws 1077 [(0, .ref b), (2, .int (0 : Int32)), (3, .ref (h 0)), (5, .ref v5), (6, .ref v6), (7, .ref v7), (8, .int v8), (9, .int v9), (10, .ref v10), (11, .int v11)] [.int s0] := by
    intro K228 hK228 ws w S mu u v5 v6 v7 v8 v9 v10 v11 s0 hI hR H
    have H : wpL_law_b1176 cB Post K228 S mu u s0 v5 v6 v7 v8 v9 v10 v11 := H
    refine k_istore_n C (pc := 1077) dL_law_1077 rfl (Nat.lt_of_lt_of_le (Nat.lt_succ_self _) (Nat.le_of_ble_eq_true rfl)) (lv' := [(1, .int s0), (0, .ref b), (2, .int (0 : Int32)), (3, .ref (h 0)), (5, .ref v5), (6, .ref v6), (7, .ref v7), (8, .int v8), (9, .int v9), (10, .ref v10), (11, .int v11)]) rfl ?_
    refine k_goto C (pc := 1078) (tgt := 1176) dL_law_1078 (by decide) ?_
    refine k_lv (pc := 1176) [1, 0, 2, 3, 4, 5, 6, 7, 8, 9, 10] (lv' := [(0, .ref b), (1, .int s0), (2, .int (0 : Int32)), (3, .ref (h 0)), (5, .ref v5), (6, .ref v6), (7, .ref v7), (8, .int v8), (9, .int v9), (10, .ref v10), (11, .int v11)]) rfl ?_
    exact B1176 K228 hK228 _ _ S mu u s0 v5 v6 v7 v8 v9 v10 v11 hI hR H
  have B1069 : ∀ (K228 : ivS → Mu → Nat → Int32 → Nat → Nat → Nat → Int32 → Int32 → Prop) (hK228 : ∀ (ws w : va_W) (S : ivS) (mu : Mu) (u : Nat) (v1 : Int32) (v5 : Nat) (v6 : Nat) (v7 : Nat) (v8 : Int32) (v9 : Int32), ivI cA h ab ac ar S false w → LR cA w ws mu → K228 S mu u v1 v5 v6 v7 v8 v9 → Kf p l e room_1 s m #[Value.ref b] below meth c D (fun q => s.heap.size ≤ q) 28 u (16 * u) Q ws 228 [(0, .ref b), (1, .int v1), (2, .int (0 : Int32)), (3, .ref (h 0)), (5, .ref v5), (6, .ref v6), (7, .ref v7), (8, .int v8), (9, .int v9)] []) (ws w : va_W) (S : ivS) (mu : Mu) (u : Nat) (v5 : Nat) (v6 : Nat) (v7 : Nat) (v8 : Int32) (v9 : Int32) (v10 : Nat) (v11 : Int32) (s0 : Int32) (s1 : Int32), ivI cA h ab ac ar S false w → LR cA w ws mu → wpL_law_b1069 cB Post K228 S mu u v5 v6 v7 v8 v9 v10 v11 s0 s1 → Kf p l e room_1 s m #[Value.ref b] below meth c D (fun q => s.heap.size ≤ q) 28 u (16 * u) Q ws 1069 [(0, .ref b), (2, .int (0 : Int32)), (3, .ref (h 0)), (5, .ref v5), (6, .ref v6), (7, .ref v7), (8, .int v8), (9, .int v9), (10, .ref v10), (11, .int v11)] [.int s1, .int s0] := by
    intro K228 hK228 ws w S mu u v5 v6 v7 v8 v9 v10 v11 s0 s1 hI hR H
    have H : (¬ s0 = s1 → wpL_law_b1077 cB Post K228 S mu u v5 v6 v7 v8 v9 v10 v11 (0 : Int32)) ∧ (s0 = s1 → wpL_law_b1077 cB Post K228 S mu u v5 v6 v7 v8 v9 v10 v11 (1 : Int32)) := H
    refine k_icmp_ne C (pc := 1069) (tgt := 1076) dL_law_1069 (by decide) (fun c_1069 => ?_) (fun c_1069 => ?_)
    · have H := H.1 c_1069
      refine k_iconst C (pc := 1076) (v := (0 : Int32)) dL_law_1076 rfl ?_
      refine k_lv (pc := 1077) [0, 1, 2, 3, 4, 5, 6, 7, 8, 9] (lv' := [(0, .ref b), (2, .int (0 : Int32)), (3, .ref (h 0)), (5, .ref v5), (6, .ref v6), (7, .ref v7), (8, .int v8), (9, .int v9), (10, .ref v10), (11, .int v11)]) rfl ?_
      exact B1077 K228 hK228 _ _ S mu u v5 v6 v7 v8 v9 v10 v11 (0 : Int32) hI hR H
    · have H := H.2 c_1069
      refine k_iconst C (pc := 1072) (v := (1 : Int32)) dL_law_1072 rfl ?_
      refine k_goto C (pc := 1073) (tgt := 1077) dL_law_1073 (by decide) ?_
      refine k_lv (pc := 1077) [0, 1, 2, 3, 4, 5, 6, 7, 8, 9] (lv' := [(0, .ref b), (2, .int (0 : Int32)), (3, .ref (h 0)), (5, .ref v5), (6, .ref v6), (7, .ref v7), (8, .int v8), (9, .int v9), (10, .ref v10), (11, .int v11)]) rfl ?_
      exact B1077 K228 hK228 _ _ S mu u v5 v6 v7 v8 v9 v10 v11 (1 : Int32) hI hR H
  have B1021 : ∀ (K228 : ivS → Mu → Nat → Int32 → Nat → Nat → Nat → Int32 → Int32 → Prop) (hK228 : ∀ (ws w : va_W) (S : ivS) (mu : Mu) (u : Nat) (v1 : Int32) (v5 : Nat) (v6 : Nat) (v7 : Nat) (v8 : Int32) (v9 : Int32), ivI cA h ab ac ar S false w → LR cA w ws mu → K228 S mu u v1 v5 v6 v7 v8 v9 → Kf p l e room_1 s m #[Value.ref b] below meth c D (fun q => s.heap.size ≤ q) 28 u (16 * u) Q ws 228 [(0, .ref b), (1, .int v1), (2, .int (0 : Int32)), (3, .ref (h 0)), (5, .ref v5), (6, .ref v6), (7, .ref v7), (8, .int v8), (9, .int v9)] []) (ws w : va_W) (S : ivS) (mu : Mu) (u : Nat) (v5 : Nat) (v6 : Nat) (v7 : Nat) (v8 : Int32) (v9 : Int32) (v10 : Nat) (v11 : Int32) (v12 : Int32) (v13 : Int32) (v22 : Int32) (v23 : Int32) (v24 : Int32), ivI cA h ab ac ar S false w → LR cA w ws mu → wpL_law_b1021 cB Post K228 S mu u v5 v6 v7 v8 v9 v10 v11 v12 v13 v22 v23 v24 → Kf p l e room_1 s m #[Value.ref b] below meth c D (fun q => s.heap.size ≤ q) 28 u (16 * u) Q ws 1021 [(0, .ref b), (2, .int (0 : Int32)), (3, .ref (h 0)), (5, .ref v5), (6, .ref v6), (7, .ref v7), (8, .int v8), (9, .int v9), (10, .ref v10), (11, .int v11), (12, .int v12), (13, .int v13), (22, .int v22), (23, .int v23), (24, .int v24)] [] := by
    intro K228 hK228 ws w S mu u v5 v6 v7 v8 v9 v10 v11 v12 v13 v22 v23 v24 hI hR H
    have H : u + 2 ≤ cB ∧ ∀ S116, S116 = (s_retouch S v12 v22 v23).2.2.2 → ∀ r116, r116 = an3 (s_retouch S v12 v22 v23) (-2000000097) (-2000000098) (-2000000099) → (v11 = 0 → (¬ v13 = 0 → (v24 = 0 → wpL_law_b1069 cB Post K228 S116 mu (u + 2) v5 v6 v7 v8 v9 v10 v11 r116 (-2000000098 : Int32)) ∧ (¬ v24 = 0 → wpL_law_b1069 cB Post K228 S116 mu (u + 2) v5 v6 v7 v8 v9 v10 v11 r116 (-2000000099 : Int32))) ∧ (v13 = 0 → wpL_law_b1069 cB Post K228 S116 mu (u + 2) v5 v6 v7 v8 v9 v10 v11 r116 (-2000000097 : Int32))) ∧ (¬ v11 = 0 → ∃ x117, mB mu v6 = some x117 ∧ (u + 2) ≤ cB ∧ wpX7_many mu v6 v12 (0 : Int32) (fun r118 => wpL_law_b1069 cB Post K228 S116 mu (u + 2) v5 v6 v7 v8 v9 v10 v11 r116 r118)) := H
    refine k_aload_n C 2 (pc := 1021) dL_law_1021 rfl rfl ?_
    refine k_iload C 10 (pc := 1022) dL_law_1022 rfl ?_
    refine k_iload C 12 (pc := 1024) dL_law_1024 rfl ?_
    refine k_iload C 13 (pc := 1026) dL_law_1026 rfl ?_
    obtain ⟨hc_, H⟩ := H
    refine ky_callA C (pc := 1028) (ky_runS C hE (As := [.ref (h 0), .int v12, .int v22, .int v23]) (rest := []) (wl_retouch l D cA h ab ac ar hst v12 v22 v23 hI hR) (ky_cw C tYL_retouch tW_4_236 tW_1_0 tW_4_237 okL_retouch rfl rfl ⟨Nat.le_of_ble_eq_true rfl, Nat.le_of_ble_eq_true rfl⟩) rfl rfl (Nat.le_of_ble_eq_true rfl) dL_law_1028 (kw_rm hc_ (by decide) hRm)) (fun v_ w1 hv_ => ?_)
    obtain ⟨r116, rfl, w_, hI, hR, hr1_⟩ := hv_
    have hI := hI.weak
    obtain ⟨S116, hS1_⟩ : ∃ m_, m_ = (s_retouch S v12 v22 v23).2.2.2 := ⟨_, rfl⟩
    rw [← hS1_] at hI
    have H := H S116 hS1_ r116 hr1_
    refine k_eq (pc := 1031) (st' := .int r116 :: []) rfl rfl rfl ?_
    refine k_widen (k := u + 2) (n := 16 * (u + 2)) (Nat.le_refl _) (by omega) ?_
    refine k_iload C 9 (pc := 1031) dL_law_1031 rfl ?_
    refine k_if_eq C (pc := 1033) (tgt := 1047) dL_law_1033 (by decide) (fun c_1033 => ?_) (fun c_1033 => ?_)
    · have H := H.1 c_1033
      refine k_iload C 11 (pc := 1047) dL_law_1047 rfl ?_
      refine k_if_ne C (pc := 1049) (tgt := 1057) dL_law_1049 (by decide) (fun c_1049 => ?_) (fun c_1049 => ?_)
      · have H := H.1 c_1049
        refine k_iload C 14 (pc := 1057) dL_law_1057 rfl ?_
        refine k_if_eq C (pc := 1059) (tgt := 1067) dL_law_1059 (by decide) (fun c_1059 => ?_) (fun c_1059 => ?_)
        · have H := H.1 c_1059
          refine k_ldc C (pc := 1067) (v := (-2000000098 : Int32)) tW_3_155 dL_law_1067 ?_
          refine k_lv (pc := 1069) [0, 1, 2, 3, 4, 5, 6, 7, 8, 9] (lv' := [(0, .ref b), (2, .int (0 : Int32)), (3, .ref (h 0)), (5, .ref v5), (6, .ref v6), (7, .ref v7), (8, .int v8), (9, .int v9), (10, .ref v10), (11, .int v11)]) rfl ?_
          exact B1069 K228 hK228 _ _ S116 mu (u + 2) v5 v6 v7 v8 v9 v10 v11 r116 (-2000000098 : Int32) hI hR H
        · have H := H.2 c_1059
          refine k_ldc C (pc := 1062) (v := (-2000000099 : Int32)) tW_4_224 dL_law_1062 ?_
          refine k_goto C (pc := 1064) (tgt := 1069) dL_law_1064 (by decide) ?_
          refine k_lv (pc := 1069) [0, 1, 2, 3, 4, 5, 6, 7, 8, 9] (lv' := [(0, .ref b), (2, .int (0 : Int32)), (3, .ref (h 0)), (5, .ref v5), (6, .ref v6), (7, .ref v7), (8, .int v8), (9, .int v9), (10, .ref v10), (11, .int v11)]) rfl ?_
          exact B1069 K228 hK228 _ _ S116 mu (u + 2) v5 v6 v7 v8 v9 v10 v11 r116 (-2000000099 : Int32) hI hR H
      · have H := H.2 c_1049
        refine k_ldc C (pc := 1052) (v := (-2000000097 : Int32)) tW_3_203 dL_law_1052 ?_
        refine k_goto C (pc := 1054) (tgt := 1069) dL_law_1054 (by decide) ?_
        refine k_lv (pc := 1069) [0, 1, 2, 3, 4, 5, 6, 7, 8, 9] (lv' := [(0, .ref b), (2, .int (0 : Int32)), (3, .ref (h 0)), (5, .ref v5), (6, .ref v6), (7, .ref v7), (8, .int v8), (9, .int v9), (10, .ref v10), (11, .int v11)]) rfl ?_
        exact B1069 K228 hK228 _ _ S116 mu (u + 2) v5 v6 v7 v8 v9 v10 v11 r116 (-2000000097 : Int32) hI hR H
    · have H := H.2 c_1033
      refine k_aload C 4 (pc := 1036) dL_law_1036 rfl ?_
      refine k_iload C 10 (pc := 1038) dL_law_1038 rfl ?_
      refine k_iconst C (pc := 1040) (v := (0 : Int32)) dL_law_1040 rfl ?_
      obtain ⟨x117, hx117, H⟩ := H
      obtain ⟨i117, hi117⟩ := List.getElem?_of_mem (hR.B hx117)
      obtain ⟨hc_, H⟩ := H
      refine k_callAi C (pc := 1041) (l_runV C hF (As := [.int v12, .int (0 : Int32)]) (rest := [.int r116]) (ci := 7) (q0 := i117) (conX7_many l D cA mu v6 v12 (0 : Int32) _  H hR) ⟨k_cwB C tW_2_154 tW_2_151 tW_1_9 okX7_many rfl rfl ⟨Nat.le_of_ble_eq_true rfl, Nat.le_of_ble_eq_true rfl⟩, C.w tW_2_152, C.w tW_2_153⟩ hi117 rfl rfl rfl rfl (Nat.le_of_ble_eq_true rfl) dL_law_1041 (kw_rm (k := 0) hc_ (by decide) hRm)) (fun r118 w1 hw_ => ?_)
      obtain ⟨rfl, H⟩ := hw_
      refine k_goto C (pc := 1044) (tgt := 1069) dL_law_1044 (by decide) ?_
      refine k_lv (pc := 1069) [0, 1, 2, 3, 4, 5, 6, 7, 8, 9] (lv' := [(0, .ref b), (2, .int (0 : Int32)), (3, .ref (h 0)), (5, .ref v5), (6, .ref v6), (7, .ref v7), (8, .int v8), (9, .int v9), (10, .ref v10), (11, .int v11)]) rfl ?_
      exact B1069 K228 hK228 _ _ S116 mu (u + 2) v5 v6 v7 v8 v9 v10 v11 r116 r118 hI hR H
  have B1008 : ∀ (K228 : ivS → Mu → Nat → Int32 → Nat → Nat → Nat → Int32 → Int32 → Prop) (hK228 : ∀ (ws w : va_W) (S : ivS) (mu : Mu) (u : Nat) (v1 : Int32) (v5 : Nat) (v6 : Nat) (v7 : Nat) (v8 : Int32) (v9 : Int32), ivI cA h ab ac ar S false w → LR cA w ws mu → K228 S mu u v1 v5 v6 v7 v8 v9 → Kf p l e room_1 s m #[Value.ref b] below meth c D (fun q => s.heap.size ≤ q) 28 u (16 * u) Q ws 228 [(0, .ref b), (1, .int v1), (2, .int (0 : Int32)), (3, .ref (h 0)), (5, .ref v5), (6, .ref v6), (7, .ref v7), (8, .int v8), (9, .int v9)] []) (ws w : va_W) (S : ivS) (mu : Mu) (u : Nat) (v5 : Nat) (v6 : Nat) (v7 : Nat) (v8 : Int32) (v9 : Int32) (v10 : Nat) (v11 : Int32) (v12 : Int32) (v13 : Int32) (v22 : Int32) (v23 : Int32) (v24 : Int32) (v25 : Nat), ivI cA h ab ac ar S false w → LR cA w ws mu → wpL_law_b1008 cB Post K228 S mu u v5 v6 v7 v8 v9 v10 v11 v12 v13 v22 v23 v24 v25 → Kf p l e room_1 s m #[Value.ref b] below meth c D (fun q => s.heap.size ≤ q) 28 u (16 * u) Q ws 1008 [(0, .ref b), (2, .int (0 : Int32)), (3, .ref (h 0)), (5, .ref v5), (6, .ref v6), (7, .ref v7), (8, .int v8), (9, .int v9), (10, .ref v10), (11, .int v11), (12, .int v12), (13, .int v13), (22, .int v22), (23, .int v23), (24, .int v24), (25, .ref v25)] [] := by
    intro K228 hK228 ws w S mu u v5 v6 v7 v8 v9 v10 v11 v12 v13 v22 v23 v24 v25 hI hR H
    have H : ∃ x126, mB mu v6 = some x126 ∧ ∃ a126, x126.2.2.2.2.2.1 = some a126 ∧ ∃ n127 f127 k127, mQ mu a126 = some (2, n127, f127) ∧ v12 = nI k127 ∧ k127 < n127 ∧ n127 ≤ 1000 ∧ ∃ a127, f127 k127 = some a127 ∧ ∃ x128, mP mu a127 = some x128 ∧ ∀ mu129, mu129 = sP mu a127 (x128.1, x128.2.1, x128.2.2.1, some v25) → wpL_law_b1021 cB Post K228 S mu129 u v5 v6 v7 v8 v9 v10 v11 v12 v13 v22 v23 v24 := H
    refine k_aload C 4 (pc := 1008) dL_law_1008 rfl ?_
    obtain ⟨x126, hx126, H⟩ := H
    obtain ⟨a126, ha126, H⟩ := H
    refine l_getB C hR (pc := 1010) hx126 5 (Nat.lt_of_lt_of_le (Nat.lt_succ_self _) (Nat.le_of_ble_eq_true rfl)) (ref := "WidowWatchLaw$Book") tW_2_73 rfl (v := .ref a126) (by show some (va_rf x126.2.2.2.2.2.1) = _; rw [ha126]; rfl) dL_law_1010 ?_
    refine k_iload C 10 (pc := 1013) dL_law_1013 rfl ?_
    obtain ⟨n127, f127, k127, hx_, hk_, hl_, hn_, H⟩ := H
    refine k_eq (pc := 1015) (st' := [.int (nI k127), .ref a126]) rfl rfl (by rw [hk_]) ?_
    obtain ⟨a127, ha127, H⟩ := H
    refine l_aald C hR (pc := 1015) (Or.inl rfl) hx_ hl_ hn_ dL_law_1015 ?_
    refine k_eq (pc := 1016) (st' := [.ref a127]) rfl rfl (by rw [ha127]; rfl) ?_
    refine k_aload C 15 (pc := 1016) dL_law_1016 rfl ?_
    obtain ⟨x128, hx128, H⟩ := H
    refine l_putP C hR (pc := 1018) hx128 3 (Nat.lt_of_lt_of_le (Nat.lt_succ_self _) (Nat.le_of_ble_eq_true rfl)) (ref := "WidowWatchLaw$Para") tW_2_133 rfl rfl  rfl rfl rfl (x1 := ((x128.1, x128.2.1, x128.2.2.1, some v25))) rfl dL_law_1018 (fun w1 hR => ?_)
    obtain ⟨mu129, hm129⟩ : ∃ m_, m_ = sP mu a127 (x128.1, x128.2.1, x128.2.2.1, some v25) := ⟨_, rfl⟩
    rw [← hm129] at hR
    have H := H mu129 hm129
    refine k_lv (pc := 1021) [0, 1, 2, 3, 4, 5, 6, 7, 8, 9, 10, 11, 12, 13, 14] (lv' := [(0, .ref b), (2, .int (0 : Int32)), (3, .ref (h 0)), (5, .ref v5), (6, .ref v6), (7, .ref v7), (8, .int v8), (9, .int v9), (10, .ref v10), (11, .int v11), (12, .int v12), (13, .int v13), (22, .int v22), (23, .int v23), (24, .int v24)]) rfl ?_
    exact B1021 K228 hK228 _ _ S mu129 u v5 v6 v7 v8 v9 v10 v11 v12 v13 v22 v23 v24 hI hR H
  have B937 : ∀ (K228 : ivS → Mu → Nat → Int32 → Nat → Nat → Nat → Int32 → Int32 → Prop) (hK228 : ∀ (ws w : va_W) (S : ivS) (mu : Mu) (u : Nat) (v1 : Int32) (v5 : Nat) (v6 : Nat) (v7 : Nat) (v8 : Int32) (v9 : Int32), ivI cA h ab ac ar S false w → LR cA w ws mu → K228 S mu u v1 v5 v6 v7 v8 v9 → Kf p l e room_1 s m #[Value.ref b] below meth c D (fun q => s.heap.size ≤ q) 28 u (16 * u) Q ws 228 [(0, .ref b), (1, .int v1), (2, .int (0 : Int32)), (3, .ref (h 0)), (5, .ref v5), (6, .ref v6), (7, .ref v7), (8, .int v8), (9, .int v9)] []) (ws w : va_W) (S : ivS) (mu : Mu) (u : Nat) (v5 : Nat) (v6 : Nat) (v7 : Nat) (v8 : Int32) (v9 : Int32) (v10 : Nat) (v11 : Int32) (v12 : Int32) (v13 : Int32) (v21 : Int32) (v22 : Int32) (v23 : Int32) (v24 : Int32), ivI cA h ab ac ar S false w → LR cA w ws mu → wpL_law_b937 cB Post K228 S mu u v5 v6 v7 v8 v9 v10 v11 v12 v13 v21 v22 v23 v24 → Kf p l e room_1 s m #[Value.ref b] below meth c D (fun q => s.heap.size ≤ q) 28 u (16 * u) Q ws 937 [(0, .ref b), (2, .int (0 : Int32)), (3, .ref (h 0)), (5, .ref v5), (6, .ref v6), (7, .ref v7), (8, .int v8), (9, .int v9), (10, .ref v10), (11, .int v11), (12, .int v12), (13, .int v13), (21, .int v21), (22, .int v22), (23, .int v23), (24, .int v24)] [] := by
    intro K228 hK228 ws w S mu u v5 v6 v7 v8 v9 v10 v11 v12 v13 v21 v22 v23 v24 hI hR H
    have H : (v11 = 0 → wpL_law_b1021 cB Post K228 S mu u v5 v6 v7 v8 v9 v10 v11 v12 v13 v22 v23 v24) ∧ (¬ v11 = 0 → ∃ x119, mB mu v6 = some x119 ∧ ∃ a119, x119.2.2.2.2.2.1 = some a119 ∧ ∃ n120 f120 k120, mQ mu a119 = some (2, n120, f120) ∧ v12 = nI k120 ∧ k120 < n120 ∧ n120 ≤ 1000 ∧ ∃ a120, f120 k120 = some a120 ∧ ∃ x121, mP mu a120 = some x121 ∧ ∃ a121, x121.2.2.2 = some a121 ∧ (¬ v23 = 0 → (¬ v22 = v21 → ∃ n122 f122, mI mu a121 = some (n122, f122) ∧ n122 ≤ 1000 ∧ u + (1 + n122 / 16) ≤ cB ∧ ∀ a122, frM mu a122 → ∀ mu123, mu123 = sI mu a122 (n122, f122) → ∃ n124 f124 k124, mI mu123 a122 = some (n124, f124) ∧ v22 = nI k124 ∧ k124 < n124 ∧ n124 ≤ 1000 ∧ ∀ mu125, mu125 = sI mu123 a122 (n124, upd f124 k124 v23) → wpL_law_b1008 cB Post K228 S mu125 (u + (1 + n122 / 16)) v5 v6 v7 v8 v9 v10 v11 v12 v13 v22 v23 v24 a122) ∧ (v22 = v21 → ∃ q131, u + q131 ≤ cB ∧ wpL_with q131 mu a121 v23 (fun r130 mu132 => wpL_law_b1008 cB Post K228 S mu132 (u + q131) v5 v6 v7 v8 v9 v10 v11 v12 v13 v22 v23 v24 r130))) ∧ (v23 = 0 → ∃ q134, u + q134 ≤ cB ∧ wpL_without q134 mu a121 v22 (fun r133 mu135 => wpL_law_b1008 cB Post K228 S mu135 (u + q134) v5 v6 v7 v8 v9 v10 v11 v12 v13 v22 v23 v24 r133))) := H
    refine k_iload C 9 (pc := 937) dL_law_937 rfl ?_
    refine k_if_eq C (pc := 939) (tgt := 1021) dL_law_939 (by decide) (fun c_939 => ?_) (fun c_939 => ?_)
    · have H := H.1 c_939
      refine k_lv (pc := 1021) [0, 1, 2, 3, 4, 5, 6, 7, 8, 9, 10, 11, 13, 14, 15] (lv' := [(0, .ref b), (2, .int (0 : Int32)), (3, .ref (h 0)), (5, .ref v5), (6, .ref v6), (7, .ref v7), (8, .int v8), (9, .int v9), (10, .ref v10), (11, .int v11), (12, .int v12), (13, .int v13), (22, .int v22), (23, .int v23), (24, .int v24)]) rfl ?_
      exact B1021 K228 hK228 _ _ S mu u v5 v6 v7 v8 v9 v10 v11 v12 v13 v22 v23 v24 hI hR H
    · have H := H.2 c_939
      refine k_aload C 4 (pc := 942) dL_law_942 rfl ?_
      obtain ⟨x119, hx119, H⟩ := H
      obtain ⟨a119, ha119, H⟩ := H
      refine l_getB C hR (pc := 944) hx119 5 (Nat.lt_of_lt_of_le (Nat.lt_succ_self _) (Nat.le_of_ble_eq_true rfl)) (ref := "WidowWatchLaw$Book") tW_2_73 rfl (v := .ref a119) (by show some (va_rf x119.2.2.2.2.2.1) = _; rw [ha119]; rfl) dL_law_944 ?_
      refine k_iload C 10 (pc := 947) dL_law_947 rfl ?_
      obtain ⟨n120, f120, k120, hx_, hk_, hl_, hn_, H⟩ := H
      refine k_eq (pc := 949) (st' := [.int (nI k120), .ref a119]) rfl rfl (by rw [hk_]) ?_
      obtain ⟨a120, ha120, H⟩ := H
      refine l_aald C hR (pc := 949) (Or.inl rfl) hx_ hl_ hn_ dL_law_949 ?_
      refine k_eq (pc := 950) (st' := [.ref a120]) rfl rfl (by rw [ha120]; rfl) ?_
      obtain ⟨x121, hx121, H⟩ := H
      obtain ⟨a121, ha121, H⟩ := H
      refine l_getP C hR (pc := 950) hx121 3 (Nat.lt_of_lt_of_le (Nat.lt_succ_self _) (Nat.le_of_ble_eq_true rfl)) (ref := "WidowWatchLaw$Para") tW_2_133 rfl (v := .ref a121) (by show some (va_rf x121.2.2.2) = _; rw [ha121]; rfl) dL_law_950 ?_
      refine k_astore C (pc := 953) dL_law_953 (Nat.lt_of_lt_of_le (Nat.lt_succ_self _) (Nat.le_of_ble_eq_true rfl)) (lv' := [(25, .ref a121), (0, .ref b), (2, .int (0 : Int32)), (3, .ref (h 0)), (5, .ref v5), (6, .ref v6), (7, .ref v7), (8, .int v8), (9, .int v9), (10, .ref v10), (11, .int v11), (12, .int v12), (13, .int v13), (21, .int v21), (22, .int v22), (23, .int v23), (24, .int v24)]) rfl ?_
      refine k_iload C 15 (pc := 955) dL_law_955 rfl ?_
      refine k_if_ne C (pc := 957) (tgt := 972) dL_law_957 (by decide) (fun c_957 => ?_) (fun c_957 => ?_)
      · have H := H.1 c_957
        refine k_iload C 14 (pc := 972) dL_law_972 rfl ?_
        refine k_iload C 13 (pc := 974) dL_law_974 rfl ?_
        refine k_icmp_ne C (pc := 976) (tgt := 991) dL_law_976 (by decide) (fun c_976 => ?_) (fun c_976 => ?_)
        · have H := H.1 c_976
          refine k_aload C 0 (pc := 991) dL_law_991 rfl ?_
          obtain ⟨n122, f122, hx_, hn_, hc_, H⟩ := H
          refine l_clone C hR hF (u := u) (pc := 993) hx_ hn_ tW_6_165 (Nat.le_of_ble_eq_true rfl) (Nat.le_of_ble_eq_true rfl) (Nat.le_of_ble_eq_true rfl) (Nat.le_trans hc_ hRm.1) (Nat.le_trans (Nat.mul_le_mul_left 16 hc_) hRm.2) dL_law_993 (fun a122 w1 hf_ hR => ?_)
          have H := H a122 hf_
          obtain ⟨mu123, hm123⟩ : ∃ m_, m_ = sI mu a122 (n122, f122) := ⟨_, rfl⟩
          rw [← hm123] at hR
          have H := H mu123 hm123
          have hcx_ : mI mu123 a122 = some (n122, f122) := by rw [hm123]; exact up_s
          refine l_castI C hR (pc := 996) tW_6_167 hcx_ dL_law_996 ?_
          refine k_astore C (pc := 999) dL_law_999 (Nat.lt_of_lt_of_le (Nat.lt_succ_self _) (Nat.le_of_ble_eq_true rfl)) (lv' := [(25, .ref a122), (0, .ref b), (2, .int (0 : Int32)), (3, .ref (h 0)), (5, .ref v5), (6, .ref v6), (7, .ref v7), (8, .int v8), (9, .int v9), (10, .ref v10), (11, .int v11), (12, .int v12), (13, .int v13), (21, .int v21), (22, .int v22), (23, .int v23), (24, .int v24)]) rfl ?_
          refine k_aload C 0 (pc := 1001) dL_law_1001 rfl ?_
          refine k_iload C 14 (pc := 1003) dL_law_1003 rfl ?_
          refine k_iload C 15 (pc := 1005) dL_law_1005 rfl ?_
          obtain ⟨n124, f124, k124, hx_, hk_, hl_, hn_, H⟩ := H
          refine k_eq (pc := 1007) (st' := [.int v23, .int (nI k124), .ref a122]) rfl rfl (by rw [hk_]) ?_
          refine l_iast C hR (pc := 1007) hx_ hl_ hn_ dL_law_1007 (fun w1 hR => ?_)
          obtain ⟨mu125, hm125⟩ : ∃ m_, m_ = sI mu123 a122 (n124, upd f124 k124 v23) := ⟨_, rfl⟩
          rw [← hm125] at hR
          have H := H mu125 hm125
          refine k_lv (pc := 1008) [1, 2, 3, 4, 5, 6, 7, 8, 9, 10, 11, 12, 14, 15, 16, 0] (lv' := [(0, .ref b), (2, .int (0 : Int32)), (3, .ref (h 0)), (5, .ref v5), (6, .ref v6), (7, .ref v7), (8, .int v8), (9, .int v9), (10, .ref v10), (11, .int v11), (12, .int v12), (13, .int v13), (22, .int v22), (23, .int v23), (24, .int v24), (25, .ref a122)]) rfl ?_
          exact B1008 K228 hK228 _ _ S mu125 (u + (1 + n122 / 16)) v5 v6 v7 v8 v9 v10 v11 v12 v13 v22 v23 v24 a122 hI hR H
        · have H := H.2 c_976
          refine k_aload C 0 (pc := 979) dL_law_979 rfl ?_
          refine k_iload C 15 (pc := 981) dL_law_981 rfl ?_
          obtain ⟨q131, hc_, H⟩ := H
          refine k_callAr C (pc := 983) (l_runS C hF (As := [.ref a121, .int v23]) (rest := []) (conL_with l D cA q131 mu a121 v23 _  H hR) ⟨k_cwB C tW_5_21 tW_5_19 tW_1_0 okL_with rfl rfl ⟨Nat.le_of_ble_eq_true rfl, Nat.le_of_ble_eq_true rfl⟩, C.w tW_5_20⟩ rfl rfl (Nat.le_of_ble_eq_true rfl) dL_law_983 (kw_rm hc_ (Nat.le_refl _) hRm)) (fun r130 w1 hw_ => ?_)
          obtain ⟨mu132, hR, H⟩ := hw_
          refine k_sl ?_
          refine k_astore C (pc := 986) dL_law_986 (Nat.lt_of_lt_of_le (Nat.lt_succ_self _) (Nat.le_of_ble_eq_true rfl)) (lv' := [(25, .ref r130), (0, .ref b), (2, .int (0 : Int32)), (3, .ref (h 0)), (5, .ref v5), (6, .ref v6), (7, .ref v7), (8, .int v8), (9, .int v9), (10, .ref v10), (11, .int v11), (12, .int v12), (13, .int v13), (21, .int v21), (22, .int v22), (23, .int v23), (24, .int v24)]) rfl ?_
          refine k_goto C (pc := 988) (tgt := 1008) dL_law_988 (by decide) ?_
          refine k_lv (pc := 1008) [1, 2, 3, 4, 5, 6, 7, 8, 9, 10, 11, 12, 14, 15, 16, 0] (lv' := [(0, .ref b), (2, .int (0 : Int32)), (3, .ref (h 0)), (5, .ref v5), (6, .ref v6), (7, .ref v7), (8, .int v8), (9, .int v9), (10, .ref v10), (11, .int v11), (12, .int v12), (13, .int v13), (22, .int v22), (23, .int v23), (24, .int v24), (25, .ref r130)]) rfl ?_
          exact B1008 K228 hK228 _ _ S mu132 (u + q131) v5 v6 v7 v8 v9 v10 v11 v12 v13 v22 v23 v24 r130 hI hR H
      · have H := H.2 c_957
        refine k_aload C 0 (pc := 960) dL_law_960 rfl ?_
        refine k_iload C 14 (pc := 962) dL_law_962 rfl ?_
        obtain ⟨q134, hc_, H⟩ := H
        refine k_callAr C (pc := 964) (l_runS C hF (As := [.ref a121, .int v22]) (rest := []) (conL_without l D cA q134 mu a121 v22 _  H hR) ⟨k_cwB C tW_5_24 tW_5_22 tW_1_0 okL_without rfl rfl ⟨Nat.le_of_ble_eq_true rfl, Nat.le_of_ble_eq_true rfl⟩, C.w tW_5_23⟩ rfl rfl (Nat.le_of_ble_eq_true rfl) dL_law_964 (kw_rm hc_ (Nat.le_refl _) hRm)) (fun r133 w1 hw_ => ?_)
        obtain ⟨mu135, hR, H⟩ := hw_
        refine k_sl ?_
        refine k_astore C (pc := 967) dL_law_967 (Nat.lt_of_lt_of_le (Nat.lt_succ_self _) (Nat.le_of_ble_eq_true rfl)) (lv' := [(25, .ref r133), (0, .ref b), (2, .int (0 : Int32)), (3, .ref (h 0)), (5, .ref v5), (6, .ref v6), (7, .ref v7), (8, .int v8), (9, .int v9), (10, .ref v10), (11, .int v11), (12, .int v12), (13, .int v13), (21, .int v21), (22, .int v22), (23, .int v23), (24, .int v24)]) rfl ?_
        refine k_goto C (pc := 969) (tgt := 1008) dL_law_969 (by decide) ?_
        refine k_lv (pc := 1008) [1, 2, 3, 4, 5, 6, 7, 8, 9, 10, 11, 12, 14, 15, 16, 0] (lv' := [(0, .ref b), (2, .int (0 : Int32)), (3, .ref (h 0)), (5, .ref v5), (6, .ref v6), (7, .ref v7), (8, .int v8), (9, .int v9), (10, .ref v10), (11, .int v11), (12, .int v12), (13, .int v13), (22, .int v22), (23, .int v23), (24, .int v24), (25, .ref r133)]) rfl ?_
        exact B1008 K228 hK228 _ _ S mu135 (u + q134) v5 v6 v7 v8 v9 v10 v11 v12 v13 v22 v23 v24 r133 hI hR H
  have B908 : ∀ (K228 : ivS → Mu → Nat → Int32 → Nat → Nat → Nat → Int32 → Int32 → Prop) (hK228 : ∀ (ws w : va_W) (S : ivS) (mu : Mu) (u : Nat) (v1 : Int32) (v5 : Nat) (v6 : Nat) (v7 : Nat) (v8 : Int32) (v9 : Int32), ivI cA h ab ac ar S false w → LR cA w ws mu → K228 S mu u v1 v5 v6 v7 v8 v9 → Kf p l e room_1 s m #[Value.ref b] below meth c D (fun q => s.heap.size ≤ q) 28 u (16 * u) Q ws 228 [(0, .ref b), (1, .int v1), (2, .int (0 : Int32)), (3, .ref (h 0)), (5, .ref v5), (6, .ref v6), (7, .ref v7), (8, .int v8), (9, .int v9)] []) (ws w : va_W) (S : ivS) (mu : Mu) (u : Nat) (v1 : Int32) (v5 : Nat) (v6 : Nat) (v7 : Nat) (v8 : Int32) (v9 : Int32) (v10 : Nat) (v12 : Int32) (v13 : Int32) (v21 : Int32) (v22 : Int32) (v23 : Int32) (v24 : Int32) (s0 : Int32), ivI cA h ab ac ar S false w → LR cA w ws mu → wpL_law_b908 cB Post K228 S mu u v1 v5 v6 v7 v8 v9 v10 v12 v13 v21 v22 v23 v24 s0 → Kf p l e room_1 s m #[Value.ref b] below meth c D (fun q => s.heap.size ≤ q) 28 u (16 * u) Q ws 908 [(0, .ref b), (1, .int v1), (2, .int (0 : Int32)), (3, .ref (h 0)), (5, .ref v5), (6, .ref v6), (7, .ref v7), (8, .int v8), (9, .int v9), (10, .ref v10), (12, .int v12), (13, .int v13), (21, .int v21), (22, .int v22), (23, .int v23), (24, .int v24)] [.int s0] := by
    intro K228 hK228 ws w S mu u v1 v5 v6 v7 v8 v9 v10 v12 v13 v21 v22 v23 v24 s0 hI hR H
    have H : (v13 = 0 → wpL_law_b937 cB Post K228 S mu u v5 v6 v7 v8 v9 v10 s0 v12 v13 v21 v22 v23 v24) ∧ (¬ v13 = 0 → (v24 = 0 → wpL_law_b937 cB Post K228 S mu u v5 v6 v7 v8 v9 v10 s0 v12 v13 v21 v22 v23 v24) ∧ (¬ v24 = 0 → (v23 ≤ 0 → wpL_law_b937 cB Post K228 S mu u v5 v6 v7 v8 v9 v10 s0 v12 v13 v21 v22 v23 v24) ∧ (¬ v23 ≤ 0 → (v22 < (5 : Int32) → wpL_law_b937 cB Post K228 S mu u v5 v6 v7 v8 v9 v10 s0 v12 v13 v21 v22 v23 v24) ∧ (¬ v22 < (5 : Int32) → wpL_law_b1176 cB Post K228 S mu u v1 v5 v6 v7 v8 v9 v10 (0 : Int32))))) := H
    refine k_istore C (pc := 908) dL_law_908 (Nat.lt_of_lt_of_le (Nat.lt_succ_self _) (Nat.le_of_ble_eq_true rfl)) (lv' := [(11, .int s0), (0, .ref b), (1, .int v1), (2, .int (0 : Int32)), (3, .ref (h 0)), (5, .ref v5), (6, .ref v6), (7, .ref v7), (8, .int v8), (9, .int v9), (10, .ref v10), (12, .int v12), (13, .int v13), (21, .int v21), (22, .int v22), (23, .int v23), (24, .int v24)]) rfl ?_
    refine k_iload C 12 (pc := 910) dL_law_910 rfl ?_
    refine k_if_eq C (pc := 912) (tgt := 937) dL_law_912 (by decide) (fun c_912 => ?_) (fun c_912 => ?_)
    · have H := H.1 c_912
      refine k_lv (pc := 937) [1, 3, 4, 5, 6, 7, 8, 9, 10, 0, 11, 12, 13, 14, 15, 16] (lv' := [(0, .ref b), (2, .int (0 : Int32)), (3, .ref (h 0)), (5, .ref v5), (6, .ref v6), (7, .ref v7), (8, .int v8), (9, .int v9), (10, .ref v10), (11, .int s0), (12, .int v12), (13, .int v13), (21, .int v21), (22, .int v22), (23, .int v23), (24, .int v24)]) rfl ?_
      exact B937 K228 hK228 _ _ S mu u v5 v6 v7 v8 v9 v10 s0 v12 v13 v21 v22 v23 v24 hI hR H
    · have H := H.2 c_912
      refine k_iload C 16 (pc := 915) dL_law_915 rfl ?_
      refine k_if_eq C (pc := 917) (tgt := 937) dL_law_917 (by decide) (fun c_917 => ?_) (fun c_917 => ?_)
      · have H := H.1 c_917
        refine k_lv (pc := 937) [1, 3, 4, 5, 6, 7, 8, 9, 10, 0, 11, 12, 13, 14, 15, 16] (lv' := [(0, .ref b), (2, .int (0 : Int32)), (3, .ref (h 0)), (5, .ref v5), (6, .ref v6), (7, .ref v7), (8, .int v8), (9, .int v9), (10, .ref v10), (11, .int s0), (12, .int v12), (13, .int v13), (21, .int v21), (22, .int v22), (23, .int v23), (24, .int v24)]) rfl ?_
        exact B937 K228 hK228 _ _ S mu u v5 v6 v7 v8 v9 v10 s0 v12 v13 v21 v22 v23 v24 hI hR H
      · have H := H.2 c_917
        refine k_iload C 15 (pc := 920) dL_law_920 rfl ?_
        refine k_if_le C (pc := 922) (tgt := 937) dL_law_922 (by decide) (fun c_922 => ?_) (fun c_922 => ?_)
        · have H := H.1 c_922
          refine k_lv (pc := 937) [1, 3, 4, 5, 6, 7, 8, 9, 10, 0, 11, 12, 13, 14, 15, 16] (lv' := [(0, .ref b), (2, .int (0 : Int32)), (3, .ref (h 0)), (5, .ref v5), (6, .ref v6), (7, .ref v7), (8, .int v8), (9, .int v9), (10, .ref v10), (11, .int s0), (12, .int v12), (13, .int v13), (21, .int v21), (22, .int v22), (23, .int v23), (24, .int v24)]) rfl ?_
          exact B937 K228 hK228 _ _ S mu u v5 v6 v7 v8 v9 v10 s0 v12 v13 v21 v22 v23 v24 hI hR H
        · have H := H.2 c_922
          refine k_iload C 14 (pc := 925) dL_law_925 rfl ?_
          refine k_iconst C (pc := 927) (v := (5 : Int32)) dL_law_927 rfl ?_
          refine k_icmp_lt C (pc := 928) (tgt := 937) dL_law_928 (by decide) (fun c_928 => ?_) (fun c_928 => ?_)
          · have H := H.1 c_928
            refine k_lv (pc := 937) [1, 3, 4, 5, 6, 7, 8, 9, 10, 0, 11, 12, 13, 14, 15, 16] (lv' := [(0, .ref b), (2, .int (0 : Int32)), (3, .ref (h 0)), (5, .ref v5), (6, .ref v6), (7, .ref v7), (8, .int v8), (9, .int v9), (10, .ref v10), (11, .int s0), (12, .int v12), (13, .int v13), (21, .int v21), (22, .int v22), (23, .int v23), (24, .int v24)]) rfl ?_
            exact B937 K228 hK228 _ _ S mu u v5 v6 v7 v8 v9 v10 s0 v12 v13 v21 v22 v23 v24 hI hR H
          · have H := H.2 c_928
            refine k_iconst C (pc := 931) (v := (0 : Int32)) dL_law_931 rfl ?_
            refine k_istore C (pc := 932) dL_law_932 (Nat.lt_of_lt_of_le (Nat.lt_succ_self _) (Nat.le_of_ble_eq_true rfl)) (lv' := [(11, .int (0 : Int32)), (0, .ref b), (1, .int v1), (2, .int (0 : Int32)), (3, .ref (h 0)), (5, .ref v5), (6, .ref v6), (7, .ref v7), (8, .int v8), (9, .int v9), (10, .ref v10), (12, .int v12), (13, .int v13), (21, .int v21), (22, .int v22), (23, .int v23), (24, .int v24)]) rfl ?_
            refine k_goto C (pc := 934) (tgt := 1176) dL_law_934 (by decide) ?_
            refine k_lv (pc := 1176) [1, 2, 3, 4, 5, 6, 7, 8, 9, 10, 0] (lv' := [(0, .ref b), (1, .int v1), (2, .int (0 : Int32)), (3, .ref (h 0)), (5, .ref v5), (6, .ref v6), (7, .ref v7), (8, .int v8), (9, .int v9), (10, .ref v10), (11, .int (0 : Int32))]) rfl ?_
            exact B1176 K228 hK228 _ _ S mu u v1 v5 v6 v7 v8 v9 v10 (0 : Int32) hI hR H
  have B907 : ∀ (K228 : ivS → Mu → Nat → Int32 → Nat → Nat → Nat → Int32 → Int32 → Prop) (hK228 : ∀ (ws w : va_W) (S : ivS) (mu : Mu) (u : Nat) (v1 : Int32) (v5 : Nat) (v6 : Nat) (v7 : Nat) (v8 : Int32) (v9 : Int32), ivI cA h ab ac ar S false w → LR cA w ws mu → K228 S mu u v1 v5 v6 v7 v8 v9 → Kf p l e room_1 s m #[Value.ref b] below meth c D (fun q => s.heap.size ≤ q) 28 u (16 * u) Q ws 228 [(0, .ref b), (1, .int v1), (2, .int (0 : Int32)), (3, .ref (h 0)), (5, .ref v5), (6, .ref v6), (7, .ref v7), (8, .int v8), (9, .int v9)] []) (ws w : va_W) (S : ivS) (mu : Mu) (u : Nat) (v1 : Int32) (v5 : Nat) (v6 : Nat) (v7 : Nat) (v8 : Int32) (v9 : Int32) (v10 : Nat) (v12 : Int32) (v13 : Int32) (v21 : Int32) (v22 : Int32) (v23 : Int32) (v24 : Int32), ivI cA h ab ac ar S false w → LR cA w ws mu → wpL_law_b907 cB Post K228 S mu u v1 v5 v6 v7 v8 v9 v10 v12 v13 v21 v22 v23 v24 → Kf p l e room_1 s m #[Value.ref b] below meth c D (fun q => s.heap.size ≤ q) 28 u (16 * u) Q ws 907 [(0, .ref b), (1, .int v1), (2, .int (0 : Int32)), (3, .ref (h 0)), (5, .ref v5), (6, .ref v6), (7, .ref v7), (8, .int v8), (9, .int v9), (10, .ref v10), (12, .int v12), (13, .int v13), (21, .int v21), (22, .int v22), (23, .int v23), (24, .int v24)] [] := by
    intro K228 hK228 ws w S mu u v1 v5 v6 v7 v8 v9 v10 v12 v13 v21 v22 v23 v24 hI hR H
    have H : wpL_law_b908 cB Post K228 S mu u v1 v5 v6 v7 v8 v9 v10 v12 v13 v21 v22 v23 v24 (0 : Int32) := H
    refine k_iconst C (pc := 907) (v := (0 : Int32)) dL_law_907 rfl ?_
    refine k_lv (pc := 908) [0, 1, 2, 3, 4, 5, 6, 7, 8, 9, 10, 11, 12, 13, 14, 15] (lv' := [(0, .ref b), (1, .int v1), (2, .int (0 : Int32)), (3, .ref (h 0)), (5, .ref v5), (6, .ref v6), (7, .ref v7), (8, .int v8), (9, .int v9), (10, .ref v10), (12, .int v12), (13, .int v13), (21, .int v21), (22, .int v22), (23, .int v23), (24, .int v24)]) rfl ?_
    exact B908 K228 hK228 _ _ S mu u v1 v5 v6 v7 v8 v9 v10 v12 v13 v21 v22 v23 v24 (0 : Int32) hI hR H
  have B903 : ∀ (K228 : ivS → Mu → Nat → Int32 → Nat → Nat → Nat → Int32 → Int32 → Prop) (hK228 : ∀ (ws w : va_W) (S : ivS) (mu : Mu) (u : Nat) (v1 : Int32) (v5 : Nat) (v6 : Nat) (v7 : Nat) (v8 : Int32) (v9 : Int32), ivI cA h ab ac ar S false w → LR cA w ws mu → K228 S mu u v1 v5 v6 v7 v8 v9 → Kf p l e room_1 s m #[Value.ref b] below meth c D (fun q => s.heap.size ≤ q) 28 u (16 * u) Q ws 228 [(0, .ref b), (1, .int v1), (2, .int (0 : Int32)), (3, .ref (h 0)), (5, .ref v5), (6, .ref v6), (7, .ref v7), (8, .int v8), (9, .int v9)] []) (ws w : va_W) (S : ivS) (mu : Mu) (u : Nat) (v1 : Int32) (v5 : Nat) (v6 : Nat) (v7 : Nat) (v8 : Int32) (v9 : Int32) (v10 : Nat) (v12 : Int32) (v13 : Int32) (v21 : Int32) (v22 : Int32) (v23 : Int32) (v24 : Int32), ivI cA h ab ac ar S false w → LR cA w ws mu → wpL_law_b903 cB Post K228 S mu u v1 v5 v6 v7 v8 v9 v10 v12 v13 v21 v22 v23 v24 → Kf p l e room_1 s m #[Value.ref b] below meth c D (fun q => s.heap.size ≤ q) 28 u (16 * u) Q ws 903 [(0, .ref b), (1, .int v1), (2, .int (0 : Int32)), (3, .ref (h 0)), (5, .ref v5), (6, .ref v6), (7, .ref v7), (8, .int v8), (9, .int v9), (10, .ref v10), (12, .int v12), (13, .int v13), (21, .int v21), (22, .int v22), (23, .int v23), (24, .int v24)] [] := by
    intro K228 hK228 ws w S mu u v1 v5 v6 v7 v8 v9 v10 v12 v13 v21 v22 v23 v24 hI hR H
    have H : wpL_law_b908 cB Post K228 S mu u v1 v5 v6 v7 v8 v9 v10 v12 v13 v21 v22 v23 v24 (1 : Int32) := H
    refine k_iconst C (pc := 903) (v := (1 : Int32)) dL_law_903 rfl ?_
    refine k_goto C (pc := 904) (tgt := 908) dL_law_904 (by decide) ?_
    refine k_lv (pc := 908) [0, 1, 2, 3, 4, 5, 6, 7, 8, 9, 10, 11, 12, 13, 14, 15] (lv' := [(0, .ref b), (1, .int v1), (2, .int (0 : Int32)), (3, .ref (h 0)), (5, .ref v5), (6, .ref v6), (7, .ref v7), (8, .int v8), (9, .int v9), (10, .ref v10), (12, .int v12), (13, .int v13), (21, .int v21), (22, .int v22), (23, .int v23), (24, .int v24)]) rfl ?_
    exact B908 K228 hK228 _ _ S mu u v1 v5 v6 v7 v8 v9 v10 v12 v13 v21 v22 v23 v24 (1 : Int32) hI hR H
  have B871 : ∀ (K228 : ivS → Mu → Nat → Int32 → Nat → Nat → Nat → Int32 → Int32 → Prop) (hK228 : ∀ (ws w : va_W) (S : ivS) (mu : Mu) (u : Nat) (v1 : Int32) (v5 : Nat) (v6 : Nat) (v7 : Nat) (v8 : Int32) (v9 : Int32), ivI cA h ab ac ar S false w → LR cA w ws mu → K228 S mu u v1 v5 v6 v7 v8 v9 → Kf p l e room_1 s m #[Value.ref b] below meth c D (fun q => s.heap.size ≤ q) 28 u (16 * u) Q ws 228 [(0, .ref b), (1, .int v1), (2, .int (0 : Int32)), (3, .ref (h 0)), (5, .ref v5), (6, .ref v6), (7, .ref v7), (8, .int v8), (9, .int v9)] []) (ws w : va_W) (S : ivS) (mu : Mu) (u : Nat) (v1 : Int32) (v5 : Nat) (v6 : Nat) (v7 : Nat) (v8 : Int32) (v9 : Int32) (v10 : Nat) (v12 : Int32) (v13 : Int32) (v21 : Int32) (v22 : Int32) (v23 : Int32) (s0 : Int32), ivI cA h ab ac ar S false w → LR cA w ws mu → wpL_law_b871 cB Post K228 S mu u v1 v5 v6 v7 v8 v9 v10 v12 v13 v21 v22 v23 s0 → Kf p l e room_1 s m #[Value.ref b] below meth c D (fun q => s.heap.size ≤ q) 28 u (16 * u) Q ws 871 [(0, .ref b), (1, .int v1), (2, .int (0 : Int32)), (3, .ref (h 0)), (5, .ref v5), (6, .ref v6), (7, .ref v7), (8, .int v8), (9, .int v9), (10, .ref v10), (12, .int v12), (13, .int v13), (21, .int v21), (22, .int v22), (23, .int v23)] [.int s0] := by
    intro K228 hK228 ws w S mu u v1 v5 v6 v7 v8 v9 v10 v12 v13 v21 v22 v23 s0 hI hR H
    have H : (v13 = 0 → wpL_law_b907 cB Post K228 S mu u v1 v5 v6 v7 v8 v9 v10 v12 v13 v21 v22 v23 s0) ∧ (¬ v13 = 0 → (s0 = 0 → wpL_law_b907 cB Post K228 S mu u v1 v5 v6 v7 v8 v9 v10 v12 v13 v21 v22 v23 s0) ∧ (¬ s0 = 0 → (v23 ≤ 0 → (v21 ≤ (1 : Int32) → wpL_law_b907 cB Post K228 S mu u v1 v5 v6 v7 v8 v9 v10 v12 v13 v21 v22 v23 s0) ∧ (¬ v21 ≤ (1 : Int32) → wpL_law_b903 cB Post K228 S mu u v1 v5 v6 v7 v8 v9 v10 v12 v13 v21 v22 v23 s0)) ∧ (¬ v23 ≤ 0 → ((5 : Int32) ≤ v22 → wpL_law_b907 cB Post K228 S mu u v1 v5 v6 v7 v8 v9 v10 v12 v13 v21 v22 v23 s0) ∧ (¬ (5 : Int32) ≤ v22 → wpL_law_b903 cB Post K228 S mu u v1 v5 v6 v7 v8 v9 v10 v12 v13 v21 v22 v23 s0)))) := H
    refine k_istore C (pc := 871) dL_law_871 (Nat.lt_of_lt_of_le (Nat.lt_succ_self _) (Nat.le_of_ble_eq_true rfl)) (lv' := [(24, .int s0), (0, .ref b), (1, .int v1), (2, .int (0 : Int32)), (3, .ref (h 0)), (5, .ref v5), (6, .ref v6), (7, .ref v7), (8, .int v8), (9, .int v9), (10, .ref v10), (12, .int v12), (13, .int v13), (21, .int v21), (22, .int v22), (23, .int v23)]) rfl ?_
    refine k_iload C 12 (pc := 873) dL_law_873 rfl ?_
    refine k_if_eq C (pc := 875) (tgt := 907) dL_law_875 (by decide) (fun c_875 => ?_) (fun c_875 => ?_)
    · have H := H.1 c_875
      refine k_lv (pc := 907) [1, 2, 3, 4, 5, 6, 7, 8, 9, 10, 11, 12, 13, 14, 15, 0] (lv' := [(0, .ref b), (1, .int v1), (2, .int (0 : Int32)), (3, .ref (h 0)), (5, .ref v5), (6, .ref v6), (7, .ref v7), (8, .int v8), (9, .int v9), (10, .ref v10), (12, .int v12), (13, .int v13), (21, .int v21), (22, .int v22), (23, .int v23), (24, .int s0)]) rfl ?_
      exact B907 K228 hK228 _ _ S mu u v1 v5 v6 v7 v8 v9 v10 v12 v13 v21 v22 v23 s0 hI hR H
    · have H := H.2 c_875
      refine k_iload C 0 (pc := 878) dL_law_878 rfl ?_
      refine k_if_eq C (pc := 880) (tgt := 907) dL_law_880 (by decide) (fun c_880 => ?_) (fun c_880 => ?_)
      · have H := H.1 c_880
        refine k_lv (pc := 907) [1, 2, 3, 4, 5, 6, 7, 8, 9, 10, 11, 12, 13, 14, 15, 0] (lv' := [(0, .ref b), (1, .int v1), (2, .int (0 : Int32)), (3, .ref (h 0)), (5, .ref v5), (6, .ref v6), (7, .ref v7), (8, .int v8), (9, .int v9), (10, .ref v10), (12, .int v12), (13, .int v13), (21, .int v21), (22, .int v22), (23, .int v23), (24, .int s0)]) rfl ?_
        exact B907 K228 hK228 _ _ S mu u v1 v5 v6 v7 v8 v9 v10 v12 v13 v21 v22 v23 s0 hI hR H
      · have H := H.2 c_880
        refine k_iload C 15 (pc := 883) dL_law_883 rfl ?_
        refine k_if_le C (pc := 885) (tgt := 897) dL_law_885 (by decide) (fun c_885 => ?_) (fun c_885 => ?_)
        · have H := H.1 c_885
          refine k_iload C 13 (pc := 897) dL_law_897 rfl ?_
          refine k_iconst C (pc := 899) (v := (1 : Int32)) dL_law_899 rfl ?_
          refine k_icmp_le C (pc := 900) (tgt := 907) dL_law_900 (by decide) (fun c_900 => ?_) (fun c_900 => ?_)
          · have H := H.1 c_900
            refine k_lv (pc := 907) [1, 2, 3, 4, 5, 6, 7, 8, 9, 10, 11, 12, 13, 14, 15, 0] (lv' := [(0, .ref b), (1, .int v1), (2, .int (0 : Int32)), (3, .ref (h 0)), (5, .ref v5), (6, .ref v6), (7, .ref v7), (8, .int v8), (9, .int v9), (10, .ref v10), (12, .int v12), (13, .int v13), (21, .int v21), (22, .int v22), (23, .int v23), (24, .int s0)]) rfl ?_
            exact B907 K228 hK228 _ _ S mu u v1 v5 v6 v7 v8 v9 v10 v12 v13 v21 v22 v23 s0 hI hR H
          · have H := H.2 c_900
            refine k_lv (pc := 903) [1, 2, 3, 4, 5, 6, 7, 8, 9, 10, 11, 12, 13, 14, 15, 0] (lv' := [(0, .ref b), (1, .int v1), (2, .int (0 : Int32)), (3, .ref (h 0)), (5, .ref v5), (6, .ref v6), (7, .ref v7), (8, .int v8), (9, .int v9), (10, .ref v10), (12, .int v12), (13, .int v13), (21, .int v21), (22, .int v22), (23, .int v23), (24, .int s0)]) rfl ?_
            exact B903 K228 hK228 _ _ S mu u v1 v5 v6 v7 v8 v9 v10 v12 v13 v21 v22 v23 s0 hI hR H
        · have H := H.2 c_885
          refine k_iload C 14 (pc := 888) dL_law_888 rfl ?_
          refine k_iconst C (pc := 890) (v := (5 : Int32)) dL_law_890 rfl ?_
          refine k_icmp_ge C (pc := 891) (tgt := 907) dL_law_891 (by decide) (fun c_891 => ?_) (fun c_891 => ?_)
          · have H := H.1 c_891
            refine k_lv (pc := 907) [1, 2, 3, 4, 5, 6, 7, 8, 9, 10, 11, 12, 13, 14, 15, 0] (lv' := [(0, .ref b), (1, .int v1), (2, .int (0 : Int32)), (3, .ref (h 0)), (5, .ref v5), (6, .ref v6), (7, .ref v7), (8, .int v8), (9, .int v9), (10, .ref v10), (12, .int v12), (13, .int v13), (21, .int v21), (22, .int v22), (23, .int v23), (24, .int s0)]) rfl ?_
            exact B907 K228 hK228 _ _ S mu u v1 v5 v6 v7 v8 v9 v10 v12 v13 v21 v22 v23 s0 hI hR H
          · have H := H.2 c_891
            refine k_goto C (pc := 894) (tgt := 903) dL_law_894 (by decide) ?_
            refine k_lv (pc := 903) [1, 2, 3, 4, 5, 6, 7, 8, 9, 10, 11, 12, 13, 14, 15, 0] (lv' := [(0, .ref b), (1, .int v1), (2, .int (0 : Int32)), (3, .ref (h 0)), (5, .ref v5), (6, .ref v6), (7, .ref v7), (8, .int v8), (9, .int v9), (10, .ref v10), (12, .int v12), (13, .int v13), (21, .int v21), (22, .int v22), (23, .int v23), (24, .int s0)]) rfl ?_
            exact B903 K228 hK228 _ _ S mu u v1 v5 v6 v7 v8 v9 v10 v12 v13 v21 v22 v23 s0 hI hR H
  have B870 : ∀ (K228 : ivS → Mu → Nat → Int32 → Nat → Nat → Nat → Int32 → Int32 → Prop) (hK228 : ∀ (ws w : va_W) (S : ivS) (mu : Mu) (u : Nat) (v1 : Int32) (v5 : Nat) (v6 : Nat) (v7 : Nat) (v8 : Int32) (v9 : Int32), ivI cA h ab ac ar S false w → LR cA w ws mu → K228 S mu u v1 v5 v6 v7 v8 v9 → Kf p l e room_1 s m #[Value.ref b] below meth c D (fun q => s.heap.size ≤ q) 28 u (16 * u) Q ws 228 [(0, .ref b), (1, .int v1), (2, .int (0 : Int32)), (3, .ref (h 0)), (5, .ref v5), (6, .ref v6), (7, .ref v7), (8, .int v8), (9, .int v9)] []) (ws w : va_W) (S : ivS) (mu : Mu) (u : Nat) (v1 : Int32) (v5 : Nat) (v6 : Nat) (v7 : Nat) (v8 : Int32) (v9 : Int32) (v10 : Nat) (v12 : Int32) (v13 : Int32) (v21 : Int32) (v22 : Int32) (v23 : Int32), ivI cA h ab ac ar S false w → LR cA w ws mu → wpL_law_b870 cB Post K228 S mu u v1 v5 v6 v7 v8 v9 v10 v12 v13 v21 v22 v23 → Kf p l e room_1 s m #[Value.ref b] below meth c D (fun q => s.heap.size ≤ q) 28 u (16 * u) Q ws 870 [(0, .ref b), (1, .int v1), (2, .int (0 : Int32)), (3, .ref (h 0)), (5, .ref v5), (6, .ref v6), (7, .ref v7), (8, .int v8), (9, .int v9), (10, .ref v10), (12, .int v12), (13, .int v13), (21, .int v21), (22, .int v22), (23, .int v23)] [] := by
    intro K228 hK228 ws w S mu u v1 v5 v6 v7 v8 v9 v10 v12 v13 v21 v22 v23 hI hR H
    have H : wpL_law_b871 cB Post K228 S mu u v1 v5 v6 v7 v8 v9 v10 v12 v13 v21 v22 v23 (0 : Int32) := H
    refine k_iconst C (pc := 870) (v := (0 : Int32)) dL_law_870 rfl ?_
    refine k_lv (pc := 871) [0, 1, 2, 3, 4, 5, 6, 7, 8, 9, 10, 11, 12, 13, 14] (lv' := [(0, .ref b), (1, .int v1), (2, .int (0 : Int32)), (3, .ref (h 0)), (5, .ref v5), (6, .ref v6), (7, .ref v7), (8, .int v8), (9, .int v9), (10, .ref v10), (12, .int v12), (13, .int v13), (21, .int v21), (22, .int v22), (23, .int v23)]) rfl ?_
    exact B871 K228 hK228 _ _ S mu u v1 v5 v6 v7 v8 v9 v10 v12 v13 v21 v22 v23 (0 : Int32) hI hR H
  have B866 : ∀ (K228 : ivS → Mu → Nat → Int32 → Nat → Nat → Nat → Int32 → Int32 → Prop) (hK228 : ∀ (ws w : va_W) (S : ivS) (mu : Mu) (u : Nat) (v1 : Int32) (v5 : Nat) (v6 : Nat) (v7 : Nat) (v8 : Int32) (v9 : Int32), ivI cA h ab ac ar S false w → LR cA w ws mu → K228 S mu u v1 v5 v6 v7 v8 v9 → Kf p l e room_1 s m #[Value.ref b] below meth c D (fun q => s.heap.size ≤ q) 28 u (16 * u) Q ws 228 [(0, .ref b), (1, .int v1), (2, .int (0 : Int32)), (3, .ref (h 0)), (5, .ref v5), (6, .ref v6), (7, .ref v7), (8, .int v8), (9, .int v9)] []) (ws w : va_W) (S : ivS) (mu : Mu) (u : Nat) (v1 : Int32) (v5 : Nat) (v6 : Nat) (v7 : Nat) (v8 : Int32) (v9 : Int32) (v10 : Nat) (v12 : Int32) (v13 : Int32) (v21 : Int32) (v22 : Int32) (v23 : Int32), ivI cA h ab ac ar S false w → LR cA w ws mu → wpL_law_b866 cB Post K228 S mu u v1 v5 v6 v7 v8 v9 v10 v12 v13 v21 v22 v23 → Kf p l e room_1 s m #[Value.ref b] below meth c D (fun q => s.heap.size ≤ q) 28 u (16 * u) Q ws 866 [(0, .ref b), (1, .int v1), (2, .int (0 : Int32)), (3, .ref (h 0)), (5, .ref v5), (6, .ref v6), (7, .ref v7), (8, .int v8), (9, .int v9), (10, .ref v10), (12, .int v12), (13, .int v13), (21, .int v21), (22, .int v22), (23, .int v23)] [] := by
    intro K228 hK228 ws w S mu u v1 v5 v6 v7 v8 v9 v10 v12 v13 v21 v22 v23 hI hR H
    have H : wpL_law_b871 cB Post K228 S mu u v1 v5 v6 v7 v8 v9 v10 v12 v13 v21 v22 v23 (1 : Int32) := H
    refine k_iconst C (pc := 866) (v := (1 : Int32)) dL_law_866 rfl ?_
    refine k_goto C (pc := 867) (tgt := 871) dL_law_867 (by decide) ?_
    refine k_lv (pc := 871) [0, 1, 2, 3, 4, 5, 6, 7, 8, 9, 10, 11, 12, 13, 14] (lv' := [(0, .ref b), (1, .int v1), (2, .int (0 : Int32)), (3, .ref (h 0)), (5, .ref v5), (6, .ref v6), (7, .ref v7), (8, .int v8), (9, .int v9), (10, .ref v10), (12, .int v12), (13, .int v13), (21, .int v21), (22, .int v22), (23, .int v23)]) rfl ?_
    exact B871 K228 hK228 _ _ S mu u v1 v5 v6 v7 v8 v9 v10 v12 v13 v21 v22 v23 (1 : Int32) hI hR H
  have B816 : ∀ (K228 : ivS → Mu → Nat → Int32 → Nat → Nat → Nat → Int32 → Int32 → Prop) (hK228 : ∀ (ws w : va_W) (S : ivS) (mu : Mu) (u : Nat) (v1 : Int32) (v5 : Nat) (v6 : Nat) (v7 : Nat) (v8 : Int32) (v9 : Int32), ivI cA h ab ac ar S false w → LR cA w ws mu → K228 S mu u v1 v5 v6 v7 v8 v9 → Kf p l e room_1 s m #[Value.ref b] below meth c D (fun q => s.heap.size ≤ q) 28 u (16 * u) Q ws 228 [(0, .ref b), (1, .int v1), (2, .int (0 : Int32)), (3, .ref (h 0)), (5, .ref v5), (6, .ref v6), (7, .ref v7), (8, .int v8), (9, .int v9)] []) (ws w : va_W) (S : ivS) (mu : Mu) (u : Nat) (v1 : Int32) (v5 : Nat) (v6 : Nat) (v7 : Nat) (v8 : Int32) (v9 : Int32) (v10 : Nat) (v12 : Int32) (v13 : Int32) (v14 : Int32) (s0 : Int32), ivI cA h ab ac ar S false w → LR cA w ws mu → wpL_law_b816 cB Post K228 S mu u v1 v5 v6 v7 v8 v9 v10 v12 v13 v14 s0 → Kf p l e room_1 s m #[Value.ref b] below meth c D (fun q => s.heap.size ≤ q) 28 u (16 * u) Q ws 816 [(0, .ref b), (1, .int v1), (2, .int (0 : Int32)), (3, .ref (h 0)), (5, .ref v5), (6, .ref v6), (7, .ref v7), (8, .int v8), (9, .int v9), (10, .ref v10), (12, .int v12), (13, .int v13), (14, .int v14)] [.int s0] := by
    intro K228 hK228 ws w S mu u v1 v5 v6 v7 v8 v9 v10 v12 v13 v14 s0 hI hR H
    have H : ∃ x110, mR mu v5 = some x110 ∧ u ≤ cB ∧ wpX10_below mu v5 (s0 + (2 : Int32)) (fun r111 mu112 => ∃ x113, mR mu112 v5 = some x113 ∧ u ≤ cB ∧ wpX10_below mu112 v5 (v14 + (2 : Int32)) (fun r114 mu115 => (s0 < r111 → wpL_law_b870 cB Post K228 S mu115 u v1 v5 v6 v7 v8 v9 v10 v12 v13 s0 r111 r114) ∧ (¬ s0 < r111 → (v14 < r114 → wpL_law_b870 cB Post K228 S mu115 u v1 v5 v6 v7 v8 v9 v10 v12 v13 s0 r111 r114) ∧ (¬ v14 < r114 → (r111 < s0 → wpL_law_b866 cB Post K228 S mu115 u v1 v5 v6 v7 v8 v9 v10 v12 v13 s0 r111 r114) ∧ (¬ r111 < s0 → (r114 ≤ 0 → wpL_law_b870 cB Post K228 S mu115 u v1 v5 v6 v7 v8 v9 v10 v12 v13 s0 r111 r114) ∧ (¬ r114 ≤ 0 → wpL_law_b866 cB Post K228 S mu115 u v1 v5 v6 v7 v8 v9 v10 v12 v13 s0 r111 r114)))))) := H
    refine k_istore C (pc := 816) dL_law_816 (Nat.lt_of_lt_of_le (Nat.lt_succ_self _) (Nat.le_of_ble_eq_true rfl)) (lv' := [(21, .int s0), (0, .ref b), (1, .int v1), (2, .int (0 : Int32)), (3, .ref (h 0)), (5, .ref v5), (6, .ref v6), (7, .ref v7), (8, .int v8), (9, .int v9), (10, .ref v10), (12, .int v12), (13, .int v13), (14, .int v14)]) rfl ?_
    refine k_aload C 5 (pc := 818) dL_law_818 rfl ?_
    refine k_iload C 0 (pc := 820) dL_law_820 rfl ?_
    refine k_iconst C (pc := 822) (v := (2 : Int32)) dL_law_822 rfl ?_
    refine k_iadd C (pc := 823) dL_law_823 ?_
    obtain ⟨x110, hx110, H⟩ := H
    obtain ⟨i110, hi110⟩ := List.getElem?_of_mem (hR.R hx110)
    obtain ⟨hc_, H⟩ := H
    refine k_callAi C (pc := 824) (l_runV C hF (As := [.int (s0 + (2 : Int32))]) (rest := []) (ci := 10) (q0 := i110) (conX10_below l D cA mu v5 (s0 + (2 : Int32)) _  H hR) ⟨k_cwB C tW_2_170 tW_2_167 tW_1_8 okX10_below rfl rfl ⟨Nat.le_of_ble_eq_true rfl, Nat.le_of_ble_eq_true rfl⟩, C.w tW_2_168, C.w tW_2_169⟩ hi110 rfl rfl rfl rfl (Nat.le_of_ble_eq_true rfl) dL_law_824 (kw_rm (k := 0) hc_ (by decide) hRm)) (fun r111 w1 hw_ => ?_)
    obtain ⟨mu112, hR, H⟩ := hw_
    refine k_istore C (pc := 827) dL_law_827 (Nat.lt_of_lt_of_le (Nat.lt_succ_self _) (Nat.le_of_ble_eq_true rfl)) (lv' := [(22, .int r111), (21, .int s0), (0, .ref b), (1, .int v1), (2, .int (0 : Int32)), (3, .ref (h 0)), (5, .ref v5), (6, .ref v6), (7, .ref v7), (8, .int v8), (9, .int v9), (10, .ref v10), (12, .int v12), (13, .int v13), (14, .int v14)]) rfl ?_
    refine k_aload C 6 (pc := 829) dL_law_829 rfl ?_
    refine k_iload C 14 (pc := 831) dL_law_831 rfl ?_
    refine k_iconst C (pc := 833) (v := (2 : Int32)) dL_law_833 rfl ?_
    refine k_iadd C (pc := 834) dL_law_834 ?_
    obtain ⟨x113, hx113, H⟩ := H
    obtain ⟨i113, hi113⟩ := List.getElem?_of_mem (hR.R hx113)
    obtain ⟨hc_, H⟩ := H
    refine k_callAi C (pc := 835) (l_runV C hF (As := [.int (v14 + (2 : Int32))]) (rest := []) (ci := 10) (q0 := i113) (conX10_below l D cA mu112 v5 (v14 + (2 : Int32)) _  H hR) ⟨k_cwB C tW_2_170 tW_2_167 tW_1_8 okX10_below rfl rfl ⟨Nat.le_of_ble_eq_true rfl, Nat.le_of_ble_eq_true rfl⟩, C.w tW_2_168, C.w tW_2_169⟩ hi113 rfl rfl rfl rfl (Nat.le_of_ble_eq_true rfl) dL_law_835 (kw_rm (k := 0) hc_ (by decide) hRm)) (fun r114 w1 hw_ => ?_)
    obtain ⟨mu115, hR, H⟩ := hw_
    refine k_istore C (pc := 838) dL_law_838 (Nat.lt_of_lt_of_le (Nat.lt_succ_self _) (Nat.le_of_ble_eq_true rfl)) (lv' := [(23, .int r114), (22, .int r111), (21, .int s0), (0, .ref b), (1, .int v1), (2, .int (0 : Int32)), (3, .ref (h 0)), (5, .ref v5), (6, .ref v6), (7, .ref v7), (8, .int v8), (9, .int v9), (10, .ref v10), (12, .int v12), (13, .int v13), (14, .int v14)]) rfl ?_
    refine k_iload C 1 (pc := 840) dL_law_840 rfl ?_
    refine k_iload C 2 (pc := 842) dL_law_842 rfl ?_
    refine k_icmp_gt C (pc := 844) (tgt := 870) dL_law_844 (by decide) (fun c_844 => ?_) (fun c_844 => ?_)
    · have H := H.1 c_844
      refine k_lv (pc := 870) [3, 4, 5, 6, 7, 8, 9, 10, 11, 12, 13, 14, 2, 1, 0] (lv' := [(0, .ref b), (1, .int v1), (2, .int (0 : Int32)), (3, .ref (h 0)), (5, .ref v5), (6, .ref v6), (7, .ref v7), (8, .int v8), (9, .int v9), (10, .ref v10), (12, .int v12), (13, .int v13), (21, .int s0), (22, .int r111), (23, .int r114)]) rfl ?_
      exact B870 K228 hK228 _ _ S mu115 u v1 v5 v6 v7 v8 v9 v10 v12 v13 s0 r111 r114 hI hR H
    · have H := H.2 c_844
      refine k_iload C 0 (pc := 847) dL_law_847 rfl ?_
      refine k_iload C 15 (pc := 849) dL_law_849 rfl ?_
      refine k_icmp_gt C (pc := 851) (tgt := 870) dL_law_851 (by decide) (fun c_851 => ?_) (fun c_851 => ?_)
      · have H := H.1 c_851
        refine k_lv (pc := 870) [3, 4, 5, 6, 7, 8, 9, 10, 11, 12, 13, 14, 2, 1, 0] (lv' := [(0, .ref b), (1, .int v1), (2, .int (0 : Int32)), (3, .ref (h 0)), (5, .ref v5), (6, .ref v6), (7, .ref v7), (8, .int v8), (9, .int v9), (10, .ref v10), (12, .int v12), (13, .int v13), (21, .int s0), (22, .int r111), (23, .int r114)]) rfl ?_
        exact B870 K228 hK228 _ _ S mu115 u v1 v5 v6 v7 v8 v9 v10 v12 v13 s0 r111 r114 hI hR H
      · have H := H.2 c_851
        refine k_iload C 1 (pc := 854) dL_law_854 rfl ?_
        refine k_iload C 2 (pc := 856) dL_law_856 rfl ?_
        refine k_icmp_lt C (pc := 858) (tgt := 866) dL_law_858 (by decide) (fun c_858 => ?_) (fun c_858 => ?_)
        · have H := H.1 c_858
          refine k_lv (pc := 866) [3, 4, 5, 6, 7, 8, 9, 10, 11, 12, 13, 14, 2, 1, 0] (lv' := [(0, .ref b), (1, .int v1), (2, .int (0 : Int32)), (3, .ref (h 0)), (5, .ref v5), (6, .ref v6), (7, .ref v7), (8, .int v8), (9, .int v9), (10, .ref v10), (12, .int v12), (13, .int v13), (21, .int s0), (22, .int r111), (23, .int r114)]) rfl ?_
          exact B866 K228 hK228 _ _ S mu115 u v1 v5 v6 v7 v8 v9 v10 v12 v13 s0 r111 r114 hI hR H
        · have H := H.2 c_858
          refine k_iload C 0 (pc := 861) dL_law_861 rfl ?_
          refine k_if_le C (pc := 863) (tgt := 870) dL_law_863 (by decide) (fun c_863 => ?_) (fun c_863 => ?_)
          · have H := H.1 c_863
            refine k_lv (pc := 870) [3, 4, 5, 6, 7, 8, 9, 10, 11, 12, 13, 14, 2, 1, 0] (lv' := [(0, .ref b), (1, .int v1), (2, .int (0 : Int32)), (3, .ref (h 0)), (5, .ref v5), (6, .ref v6), (7, .ref v7), (8, .int v8), (9, .int v9), (10, .ref v10), (12, .int v12), (13, .int v13), (21, .int s0), (22, .int r111), (23, .int r114)]) rfl ?_
            exact B870 K228 hK228 _ _ S mu115 u v1 v5 v6 v7 v8 v9 v10 v12 v13 s0 r111 r114 hI hR H
          · have H := H.2 c_863
            refine k_lv (pc := 866) [3, 4, 5, 6, 7, 8, 9, 10, 11, 12, 13, 14, 2, 1, 0] (lv' := [(0, .ref b), (1, .int v1), (2, .int (0 : Int32)), (3, .ref (h 0)), (5, .ref v5), (6, .ref v6), (7, .ref v7), (8, .int v8), (9, .int v9), (10, .ref v10), (12, .int v12), (13, .int v13), (21, .int s0), (22, .int r111), (23, .int r114)]) rfl ?_
            exact B866 K228 hK228 _ _ S mu115 u v1 v5 v6 v7 v8 v9 v10 v12 v13 s0 r111 r114 hI hR H
  have B1175 : ∀ (K228 : ivS → Mu → Nat → Int32 → Nat → Nat → Nat → Int32 → Int32 → Prop) (hK228 : ∀ (ws w : va_W) (S : ivS) (mu : Mu) (u : Nat) (v1 : Int32) (v5 : Nat) (v6 : Nat) (v7 : Nat) (v8 : Int32) (v9 : Int32), ivI cA h ab ac ar S false w → LR cA w ws mu → K228 S mu u v1 v5 v6 v7 v8 v9 → Kf p l e room_1 s m #[Value.ref b] below meth c D (fun q => s.heap.size ≤ q) 28 u (16 * u) Q ws 228 [(0, .ref b), (1, .int v1), (2, .int (0 : Int32)), (3, .ref (h 0)), (5, .ref v5), (6, .ref v6), (7, .ref v7), (8, .int v8), (9, .int v9)] []) (ws w : va_W) (S : ivS) (mu : Mu) (u : Nat) (v5 : Nat) (v6 : Nat) (v7 : Nat) (v8 : Int32) (v9 : Int32) (v10 : Nat) (v11 : Int32) (s0 : Int32), ivI cA h ab ac ar S false w → LR cA w ws mu → wpL_law_b1175 cB Post K228 S mu u v5 v6 v7 v8 v9 v10 v11 s0 → Kf p l e room_1 s m #[Value.ref b] below meth c D (fun q => s.heap.size ≤ q) 28 u (16 * u) Q ws 1175 [(0, .ref b), (2, .int (0 : Int32)), (3, .ref (h 0)), (5, .ref v5), (6, .ref v6), (7, .ref v7), (8, .int v8), (9, .int v9), (10, .ref v10), (11, .int v11)] [.int s0] := by
    intro K228 hK228 ws w S mu u v5 v6 v7 v8 v9 v10 v11 s0 hI hR H
    have H : wpL_law_b1176 cB Post K228 S mu u s0 v5 v6 v7 v8 v9 v10 v11 := H
    refine k_istore_n C (pc := 1175) dL_law_1175 rfl (Nat.lt_of_lt_of_le (Nat.lt_succ_self _) (Nat.le_of_ble_eq_true rfl)) (lv' := [(1, .int s0), (0, .ref b), (2, .int (0 : Int32)), (3, .ref (h 0)), (5, .ref v5), (6, .ref v6), (7, .ref v7), (8, .int v8), (9, .int v9), (10, .ref v10), (11, .int v11)]) rfl ?_
    refine k_lv (pc := 1176) [1, 0, 2, 3, 4, 5, 6, 7, 8, 9, 10] (lv' := [(0, .ref b), (1, .int s0), (2, .int (0 : Int32)), (3, .ref (h 0)), (5, .ref v5), (6, .ref v6), (7, .ref v7), (8, .int v8), (9, .int v9), (10, .ref v10), (11, .int v11)]) rfl ?_
    exact B1176 K228 hK228 _ _ S mu u s0 v5 v6 v7 v8 v9 v10 v11 hI hR H
  have B1167 : ∀ (K228 : ivS → Mu → Nat → Int32 → Nat → Nat → Nat → Int32 → Int32 → Prop) (hK228 : ∀ (ws w : va_W) (S : ivS) (mu : Mu) (u : Nat) (v1 : Int32) (v5 : Nat) (v6 : Nat) (v7 : Nat) (v8 : Int32) (v9 : Int32), ivI cA h ab ac ar S false w → LR cA w ws mu → K228 S mu u v1 v5 v6 v7 v8 v9 → Kf p l e room_1 s m #[Value.ref b] below meth c D (fun q => s.heap.size ≤ q) 28 u (16 * u) Q ws 228 [(0, .ref b), (1, .int v1), (2, .int (0 : Int32)), (3, .ref (h 0)), (5, .ref v5), (6, .ref v6), (7, .ref v7), (8, .int v8), (9, .int v9)] []) (ws w : va_W) (S : ivS) (mu : Mu) (u : Nat) (v5 : Nat) (v6 : Nat) (v7 : Nat) (v8 : Int32) (v9 : Int32) (v10 : Nat) (v11 : Int32) (s0 : Int32) (s1 : Int32), ivI cA h ab ac ar S false w → LR cA w ws mu → wpL_law_b1167 cB Post K228 S mu u v5 v6 v7 v8 v9 v10 v11 s0 s1 → Kf p l e room_1 s m #[Value.ref b] below meth c D (fun q => s.heap.size ≤ q) 28 u (16 * u) Q ws 1167 [(0, .ref b), (2, .int (0 : Int32)), (3, .ref (h 0)), (5, .ref v5), (6, .ref v6), (7, .ref v7), (8, .int v8), (9, .int v9), (10, .ref v10), (11, .int v11)] [.int s1, .int s0] := by
    intro K228 hK228 ws w S mu u v5 v6 v7 v8 v9 v10 v11 s0 s1 hI hR H
    have H : (¬ s0 = s1 → wpL_law_b1175 cB Post K228 S mu u v5 v6 v7 v8 v9 v10 v11 (0 : Int32)) ∧ (s0 = s1 → wpL_law_b1175 cB Post K228 S mu u v5 v6 v7 v8 v9 v10 v11 (1 : Int32)) := H
    refine k_icmp_ne C (pc := 1167) (tgt := 1174) dL_law_1167 (by decide) (fun c_1167 => ?_) (fun c_1167 => ?_)
    · have H := H.1 c_1167
      refine k_iconst C (pc := 1174) (v := (0 : Int32)) dL_law_1174 rfl ?_
      refine k_lv (pc := 1175) [0, 1, 2, 3, 4, 5, 6, 7, 8, 9] (lv' := [(0, .ref b), (2, .int (0 : Int32)), (3, .ref (h 0)), (5, .ref v5), (6, .ref v6), (7, .ref v7), (8, .int v8), (9, .int v9), (10, .ref v10), (11, .int v11)]) rfl ?_
      exact B1175 K228 hK228 _ _ S mu u v5 v6 v7 v8 v9 v10 v11 (0 : Int32) hI hR H
    · have H := H.2 c_1167
      refine k_iconst C (pc := 1170) (v := (1 : Int32)) dL_law_1170 rfl ?_
      refine k_goto C (pc := 1171) (tgt := 1175) dL_law_1171 (by decide) ?_
      refine k_lv (pc := 1175) [0, 1, 2, 3, 4, 5, 6, 7, 8, 9] (lv' := [(0, .ref b), (2, .int (0 : Int32)), (3, .ref (h 0)), (5, .ref v5), (6, .ref v6), (7, .ref v7), (8, .int v8), (9, .int v9), (10, .ref v10), (11, .int v11)]) rfl ?_
      exact B1175 K228 hK228 _ _ S mu u v5 v6 v7 v8 v9 v10 v11 (1 : Int32) hI hR H
  have B1147 : ∀ (K228 : ivS → Mu → Nat → Int32 → Nat → Nat → Nat → Int32 → Int32 → Prop) (hK228 : ∀ (ws w : va_W) (S : ivS) (mu : Mu) (u : Nat) (v1 : Int32) (v5 : Nat) (v6 : Nat) (v7 : Nat) (v8 : Int32) (v9 : Int32), ivI cA h ab ac ar S false w → LR cA w ws mu → K228 S mu u v1 v5 v6 v7 v8 v9 → Kf p l e room_1 s m #[Value.ref b] below meth c D (fun q => s.heap.size ≤ q) 28 u (16 * u) Q ws 228 [(0, .ref b), (1, .int v1), (2, .int (0 : Int32)), (3, .ref (h 0)), (5, .ref v5), (6, .ref v6), (7, .ref v7), (8, .int v8), (9, .int v9)] []) (ws w : va_W) (S : ivS) (mu : Mu) (u : Nat) (v5 : Nat) (v6 : Nat) (v7 : Nat) (v8 : Int32) (v9 : Int32) (v10 : Nat) (v11 : Int32) (v25 : Int32) (v26 : Int32) (v27 : Int32), ivI cA h ab ac ar S false w → LR cA w ws mu → wpL_law_b1147 cB Post K228 S mu u v5 v6 v7 v8 v9 v10 v11 v25 v26 v27 → Kf p l e room_1 s m #[Value.ref b] below meth c D (fun q => s.heap.size ≤ q) 28 u (16 * u) Q ws 1147 [(0, .ref b), (2, .int (0 : Int32)), (3, .ref (h 0)), (5, .ref v5), (6, .ref v6), (7, .ref v7), (8, .int v8), (9, .int v9), (10, .ref v10), (11, .int v11), (25, .int v25), (26, .int v26), (27, .int v27)] [] := by
    intro K228 hK228 ws w S mu u v5 v6 v7 v8 v9 v10 v11 v25 v26 v27 hI hR H
    have H : u + 1 ≤ cB ∧ ∀ S150, S150 = (s_setCost S v25 v26).2.2.2 → ∀ r150, r150 = an1 (s_setCost S v25 v26) (-2000000098) → (v11 = 0 → wpL_law_b1167 cB Post K228 S150 mu (u + 1) v5 v6 v7 v8 v9 v10 v11 r150 (-2000000098 : Int32)) ∧ (¬ v11 = 0 → wpL_law_b1167 cB Post K228 S150 mu (u + 1) v5 v6 v7 v8 v9 v10 v11 r150 v27) := H
    refine k_aload_n C 2 (pc := 1147) dL_law_1147 rfl rfl ?_
    refine k_iload C 10 (pc := 1148) dL_law_1148 rfl ?_
    refine k_iload C 11 (pc := 1150) dL_law_1150 rfl ?_
    obtain ⟨hc_, H⟩ := H
    refine ky_callA C (pc := 1152) (ky_runS C hE (As := [.ref (h 0), .int v25, .int v26]) (rest := []) (wl_setCost l D cA h ab ac ar hst v25 v26 hI hR) (ky_cw C tYL_setCost tW_5_10 tW_1_0 tW_5_11 okL_setCost rfl rfl ⟨Nat.le_of_ble_eq_true rfl, Nat.le_of_ble_eq_true rfl⟩) rfl rfl (Nat.le_of_ble_eq_true rfl) dL_law_1152 (kw_rm hc_ (by decide) hRm)) (fun v_ w1 hv_ => ?_)
    obtain ⟨r150, rfl, w_, hI, hR, hr1_⟩ := hv_
    have hI := hI.weak
    obtain ⟨S150, hS1_⟩ : ∃ m_, m_ = (s_setCost S v25 v26).2.2.2 := ⟨_, rfl⟩
    rw [← hS1_] at hI
    have H := H S150 hS1_ r150 hr1_
    refine k_eq (pc := 1155) (st' := .int r150 :: []) rfl rfl rfl ?_
    refine k_widen (k := u + 1) (n := 16 * (u + 1)) (Nat.le_refl _) (by omega) ?_
    refine k_iload C 9 (pc := 1155) dL_law_1155 rfl ?_
    refine k_if_eq C (pc := 1157) (tgt := 1165) dL_law_1157 (by decide) (fun c_1157 => ?_) (fun c_1157 => ?_)
    · have H := H.1 c_1157
      refine k_ldc C (pc := 1165) (v := (-2000000098 : Int32)) tW_3_155 dL_law_1165 ?_
      refine k_lv (pc := 1167) [0, 1, 2, 3, 4, 5, 6, 7, 8, 9] (lv' := [(0, .ref b), (2, .int (0 : Int32)), (3, .ref (h 0)), (5, .ref v5), (6, .ref v6), (7, .ref v7), (8, .int v8), (9, .int v9), (10, .ref v10), (11, .int v11)]) rfl ?_
      exact B1167 K228 hK228 _ _ S150 mu (u + 1) v5 v6 v7 v8 v9 v10 v11 r150 (-2000000098 : Int32) hI hR H
    · have H := H.2 c_1157
      refine k_iload C 12 (pc := 1160) dL_law_1160 rfl ?_
      refine k_goto C (pc := 1162) (tgt := 1167) dL_law_1162 (by decide) ?_
      refine k_lv (pc := 1167) [0, 1, 2, 3, 4, 5, 6, 7, 8, 9] (lv' := [(0, .ref b), (2, .int (0 : Int32)), (3, .ref (h 0)), (5, .ref v5), (6, .ref v6), (7, .ref v7), (8, .int v8), (9, .int v9), (10, .ref v10), (11, .int v11)]) rfl ?_
      exact B1167 K228 hK228 _ _ S150 mu (u + 1) v5 v6 v7 v8 v9 v10 v11 r150 v27 hI hR H
  have B1130 : ∀ (K228 : ivS → Mu → Nat → Int32 → Nat → Nat → Nat → Int32 → Int32 → Prop) (hK228 : ∀ (ws w : va_W) (S : ivS) (mu : Mu) (u : Nat) (v1 : Int32) (v5 : Nat) (v6 : Nat) (v7 : Nat) (v8 : Int32) (v9 : Int32), ivI cA h ab ac ar S false w → LR cA w ws mu → K228 S mu u v1 v5 v6 v7 v8 v9 → Kf p l e room_1 s m #[Value.ref b] below meth c D (fun q => s.heap.size ≤ q) 28 u (16 * u) Q ws 228 [(0, .ref b), (1, .int v1), (2, .int (0 : Int32)), (3, .ref (h 0)), (5, .ref v5), (6, .ref v6), (7, .ref v7), (8, .int v8), (9, .int v9)] []) (ws w : va_W) (S : ivS) (mu : Mu) (u : Nat) (v5 : Nat) (v6 : Nat) (v7 : Nat) (v8 : Int32) (v9 : Int32) (v10 : Nat) (v11 : Int32) (v25 : Int32) (v26 : Int32) (s0 : Int32), ivI cA h ab ac ar S false w → LR cA w ws mu → wpL_law_b1130 cB Post K228 S mu u v5 v6 v7 v8 v9 v10 v11 v25 v26 s0 → Kf p l e room_1 s m #[Value.ref b] below meth c D (fun q => s.heap.size ≤ q) 28 u (16 * u) Q ws 1130 [(0, .ref b), (2, .int (0 : Int32)), (3, .ref (h 0)), (5, .ref v5), (6, .ref v6), (7, .ref v7), (8, .int v8), (9, .int v9), (10, .ref v10), (11, .int v11), (25, .int v25), (26, .int v26)] [.int s0] := by
    intro K228 hK228 ws w S mu u v5 v6 v7 v8 v9 v10 v11 v25 v26 s0 hI hR H
    have H : (v11 = 0 → wpL_law_b1147 cB Post K228 S mu u v5 v6 v7 v8 v9 v10 v11 v25 v26 s0) ∧ (¬ v11 = 0 → ∃ x151, mB mu v6 = some x151 ∧ ∃ a151, x151.2.2.2.2.1 = some a151 ∧ ∃ n152 f152 k152, mI mu a151 = some (n152, f152) ∧ v25 = nI k152 ∧ k152 < n152 ∧ n152 ≤ 1000 ∧ ∀ mu153, mu153 = sI mu a151 (n152, upd f152 k152 v26) → wpL_law_b1147 cB Post K228 S mu153 u v5 v6 v7 v8 v9 v10 v11 v25 v26 s0) := H
    refine k_istore C (pc := 1130) dL_law_1130 (Nat.lt_of_lt_of_le (Nat.lt_succ_self _) (Nat.le_of_ble_eq_true rfl)) (lv' := [(27, .int s0), (0, .ref b), (2, .int (0 : Int32)), (3, .ref (h 0)), (5, .ref v5), (6, .ref v6), (7, .ref v7), (8, .int v8), (9, .int v9), (10, .ref v10), (11, .int v11), (25, .int v25), (26, .int v26)]) rfl ?_
    refine k_iload C 10 (pc := 1132) dL_law_1132 rfl ?_
    refine k_if_eq C (pc := 1134) (tgt := 1147) dL_law_1134 (by decide) (fun c_1134 => ?_) (fun c_1134 => ?_)
    · have H := H.1 c_1134
      refine k_lv (pc := 1147) [1, 2, 3, 4, 5, 6, 7, 8, 9, 10, 11, 12, 0] (lv' := [(0, .ref b), (2, .int (0 : Int32)), (3, .ref (h 0)), (5, .ref v5), (6, .ref v6), (7, .ref v7), (8, .int v8), (9, .int v9), (10, .ref v10), (11, .int v11), (25, .int v25), (26, .int v26), (27, .int s0)]) rfl ?_
      exact B1147 K228 hK228 _ _ S mu u v5 v6 v7 v8 v9 v10 v11 v25 v26 s0 hI hR H
    · have H := H.2 c_1134
      refine k_aload C 5 (pc := 1137) dL_law_1137 rfl ?_
      obtain ⟨x151, hx151, H⟩ := H
      obtain ⟨a151, ha151, H⟩ := H
      refine l_getB C hR (pc := 1139) hx151 4 (Nat.lt_of_lt_of_le (Nat.lt_succ_self _) (Nat.le_of_ble_eq_true rfl)) (ref := "WidowWatchLaw$Book") tW_2_71 rfl (v := .ref a151) (by show some (va_rf x151.2.2.2.2.1) = _; rw [ha151]; rfl) dL_law_1139 ?_
      refine k_iload C 11 (pc := 1142) dL_law_1142 rfl ?_
      refine k_iload C 12 (pc := 1144) dL_law_1144 rfl ?_
      obtain ⟨n152, f152, k152, hx_, hk_, hl_, hn_, H⟩ := H
      refine k_eq (pc := 1146) (st' := [.int v26, .int (nI k152), .ref a151]) rfl rfl (by rw [hk_]) ?_
      refine l_iast C hR (pc := 1146) hx_ hl_ hn_ dL_law_1146 (fun w1 hR => ?_)
      obtain ⟨mu153, hm153⟩ : ∃ m_, m_ = sI mu a151 (n152, upd f152 k152 v26) := ⟨_, rfl⟩
      rw [← hm153] at hR
      have H := H mu153 hm153
      refine k_lv (pc := 1147) [1, 2, 3, 4, 5, 6, 7, 8, 9, 10, 11, 12, 0] (lv' := [(0, .ref b), (2, .int (0 : Int32)), (3, .ref (h 0)), (5, .ref v5), (6, .ref v6), (7, .ref v7), (8, .int v8), (9, .int v9), (10, .ref v10), (11, .int v11), (25, .int v25), (26, .int v26), (27, .int s0)]) rfl ?_
      exact B1147 K228 hK228 _ _ S mu153 u v5 v6 v7 v8 v9 v10 v11 v25 v26 s0 hI hR H
  have B1111 : ∀ (K228 : ivS → Mu → Nat → Int32 → Nat → Nat → Nat → Int32 → Int32 → Prop) (hK228 : ∀ (ws w : va_W) (S : ivS) (mu : Mu) (u : Nat) (v1 : Int32) (v5 : Nat) (v6 : Nat) (v7 : Nat) (v8 : Int32) (v9 : Int32), ivI cA h ab ac ar S false w → LR cA w ws mu → K228 S mu u v1 v5 v6 v7 v8 v9 → Kf p l e room_1 s m #[Value.ref b] below meth c D (fun q => s.heap.size ≤ q) 28 u (16 * u) Q ws 228 [(0, .ref b), (1, .int v1), (2, .int (0 : Int32)), (3, .ref (h 0)), (5, .ref v5), (6, .ref v6), (7, .ref v7), (8, .int v8), (9, .int v9)] []) (ws w : va_W) (S : ivS) (mu : Mu) (u : Nat) (v5 : Nat) (v6 : Nat) (v7 : Nat) (v8 : Int32) (v9 : Int32) (v10 : Nat) (v25 : Int32) (v26 : Int32) (s0 : Int32), ivI cA h ab ac ar S false w → LR cA w ws mu → wpL_law_b1111 cB Post K228 S mu u v5 v6 v7 v8 v9 v10 v25 v26 s0 → Kf p l e room_1 s m #[Value.ref b] below meth c D (fun q => s.heap.size ≤ q) 28 u (16 * u) Q ws 1111 [(0, .ref b), (2, .int (0 : Int32)), (3, .ref (h 0)), (5, .ref v5), (6, .ref v6), (7, .ref v7), (8, .int v8), (9, .int v9), (10, .ref v10), (25, .int v25), (26, .int v26)] [.int s0] := by
    intro K228 hK228 ws w S mu u v5 v6 v7 v8 v9 v10 v25 v26 s0 hI hR H
    have H : (s0 = 0 → wpL_law_b1130 cB Post K228 S mu u v5 v6 v7 v8 v9 v10 s0 v25 v26 (0 : Int32)) ∧ (¬ s0 = 0 → ∃ x154, mB mu v6 = some x154 ∧ ∃ a154, x154.2.2.2.2.1 = some a154 ∧ ∃ n155 f155 k155, mI mu a154 = some (n155, f155) ∧ v25 = nI k155 ∧ k155 < n155 ∧ n155 ≤ 1000 ∧ wpL_law_b1130 cB Post K228 S mu u v5 v6 v7 v8 v9 v10 s0 v25 v26 (f155 k155)) := H
    refine k_istore C (pc := 1111) dL_law_1111 (Nat.lt_of_lt_of_le (Nat.lt_succ_self _) (Nat.le_of_ble_eq_true rfl)) (lv' := [(11, .int s0), (0, .ref b), (2, .int (0 : Int32)), (3, .ref (h 0)), (5, .ref v5), (6, .ref v6), (7, .ref v7), (8, .int v8), (9, .int v9), (10, .ref v10), (25, .int v25), (26, .int v26)]) rfl ?_
    refine k_iload C 0 (pc := 1113) dL_law_1113 rfl ?_
    refine k_if_eq C (pc := 1115) (tgt := 1129) dL_law_1115 (by decide) (fun c_1115 => ?_) (fun c_1115 => ?_)
    · have H := H.1 c_1115
      refine k_iconst C (pc := 1129) (v := (0 : Int32)) dL_law_1129 rfl ?_
      refine k_lv (pc := 1130) [1, 2, 3, 4, 5, 6, 7, 8, 9, 0, 10, 11] (lv' := [(0, .ref b), (2, .int (0 : Int32)), (3, .ref (h 0)), (5, .ref v5), (6, .ref v6), (7, .ref v7), (8, .int v8), (9, .int v9), (10, .ref v10), (11, .int s0), (25, .int v25), (26, .int v26)]) rfl ?_
      exact B1130 K228 hK228 _ _ S mu u v5 v6 v7 v8 v9 v10 s0 v25 v26 (0 : Int32) hI hR H
    · have H := H.2 c_1115
      refine k_aload C 5 (pc := 1118) dL_law_1118 rfl ?_
      obtain ⟨x154, hx154, H⟩ := H
      obtain ⟨a154, ha154, H⟩ := H
      refine l_getB C hR (pc := 1120) hx154 4 (Nat.lt_of_lt_of_le (Nat.lt_succ_self _) (Nat.le_of_ble_eq_true rfl)) (ref := "WidowWatchLaw$Book") tW_2_71 rfl (v := .ref a154) (by show some (va_rf x154.2.2.2.2.1) = _; rw [ha154]; rfl) dL_law_1120 ?_
      refine k_iload C 10 (pc := 1123) dL_law_1123 rfl ?_
      obtain ⟨n155, f155, k155, hx_, hk_, hl_, hn_, H⟩ := H
      refine k_eq (pc := 1125) (st' := [.int (nI k155), .ref a154]) rfl rfl (by rw [hk_]) ?_
      refine l_iald C hR (pc := 1125) hx_ hl_ hn_ dL_law_1125 ?_
      refine k_goto C (pc := 1126) (tgt := 1130) dL_law_1126 (by decide) ?_
      refine k_lv (pc := 1130) [1, 2, 3, 4, 5, 6, 7, 8, 9, 0, 10, 11] (lv' := [(0, .ref b), (2, .int (0 : Int32)), (3, .ref (h 0)), (5, .ref v5), (6, .ref v6), (7, .ref v7), (8, .int v8), (9, .int v9), (10, .ref v10), (11, .int s0), (25, .int v25), (26, .int v26)]) rfl ?_
      exact B1130 K228 hK228 _ _ S mu u v5 v6 v7 v8 v9 v10 s0 v25 v26 (f155 k155) hI hR H
  have B280 : ∀ (K228 : ivS → Mu → Nat → Int32 → Nat → Nat → Nat → Int32 → Int32 → Prop) (hK228 : ∀ (ws w : va_W) (S : ivS) (mu : Mu) (u : Nat) (v1 : Int32) (v5 : Nat) (v6 : Nat) (v7 : Nat) (v8 : Int32) (v9 : Int32), ivI cA h ab ac ar S false w → LR cA w ws mu → K228 S mu u v1 v5 v6 v7 v8 v9 → Kf p l e room_1 s m #[Value.ref b] below meth c D (fun q => s.heap.size ≤ q) 28 u (16 * u) Q ws 228 [(0, .ref b), (1, .int v1), (2, .int (0 : Int32)), (3, .ref (h 0)), (5, .ref v5), (6, .ref v6), (7, .ref v7), (8, .int v8), (9, .int v9)] []) (ws w : va_W) (S : ivS) (mu : Mu) (u : Nat) (v1 : Int32) (v5 : Nat) (v6 : Nat) (v7 : Nat) (v8 : Int32) (v9 : Int32) (v10 : Nat) (v12 : Int32) (s0 : Int32), ivI cA h ab ac ar S false w → LR cA w ws mu → wpL_law_b280 cB Post K228 S mu u v1 v5 v6 v7 v8 v9 v10 v12 s0 → Kf p l e room_1 s m #[Value.ref b] below meth c D (fun q => s.heap.size ≤ q) 28 u (16 * u) Q ws 280 [(0, .ref b), (1, .int v1), (2, .int (0 : Int32)), (3, .ref (h 0)), (5, .ref v5), (6, .ref v6), (7, .ref v7), (8, .int v8), (9, .int v9), (10, .ref v10), (12, .int v12)] [.int s0] := by
    intro K228 hK228 ws w S mu u v1 v5 v6 v7 v8 v9 v10 v12 s0 hI hR H
    have H : ∃ x31, mB mu v6 = some x31 ∧ ∃ x32, mB mu v6 = some x32 ∧ ∃ x33, mR mu v5 = some x33 ∧ u ≤ cB ∧ wpX10_below mu v5 (7 : Int32) (fun r34 mu35 => (r34 = (0 : Int32) → ∃ x36, mR mu35 v5 = some x36 ∧ u ≤ cB ∧ wpX10_below mu35 v5 (5 : Int32) (fun r37 mu38 => (s0 = 0 → wpL_law_b365 cB Post K228 S mu38 u v5 v6 v7 v8 v9 v10 v12 s0 (r37 - (1 : Int32))) ∧ (¬ s0 = 0 → ((3 : Int32) ≤ (r37 - (1 : Int32)) → wpL_law_b365 cB Post K228 S mu38 u v5 v6 v7 v8 v9 v10 v12 s0 (r37 - (1 : Int32))) ∧ (¬ (3 : Int32) ≤ (r37 - (1 : Int32)) → wpL_law_b366 cB Post K228 S mu38 u v5 v6 v7 v8 v9 v10 v12 s0 (r37 - (1 : Int32)) (1 : Int32))))) ∧ (r34 = (1 : Int32) → ∃ x55, mR mu35 v5 = some x55 ∧ u ≤ cB ∧ wpX10_below mu35 v5 (2 : Int32) (fun r56 mu57 => (¬ r56 = 0 → wpL_law_b464 cB Post K228 S mu57 u v5 v6 v7 v8 v9 v10 v12 s0 (0 : Int32)) ∧ (r56 = 0 → wpL_law_b464 cB Post K228 S mu57 u v5 v6 v7 v8 v9 v10 v12 s0 (1 : Int32)))) ∧ (r34 = (2 : Int32) → ∃ x67, mR mu35 v5 = some x67 ∧ u ≤ cB ∧ wpX10_below mu35 v5 (5 : Int32) (fun r68 mu69 => ∃ x70, mR mu69 v5 = some x70 ∧ u ≤ cB ∧ wpX10_below mu69 v5 ((x31.1 - x32.2.2.1) + (2 : Int32)) (fun r71 mu72 => ∃ x73, mB mu72 v6 = some x73 ∧ ∃ a73, x73.2.2.2.2.2.1 = some a73 ∧ ∃ n74 f74, mQ mu72 a73 = some (2, n74, f74) ∧ ((3 : Int32) ≤ (nI n74) → wpL_law_b596 cB Post K228 S mu72 u v5 v6 v7 v8 v9 v10 v12 r68 r71) ∧ (¬ (3 : Int32) ≤ (nI n74) → (r68 ≤ 0 → wpL_law_b596 cB Post K228 S mu72 u v5 v6 v7 v8 v9 v10 v12 r68 r71) ∧ (¬ r68 ≤ 0 → (r71 ≤ 0 → wpL_law_b596 cB Post K228 S mu72 u v5 v6 v7 v8 v9 v10 v12 r68 r71) ∧ (¬ r71 ≤ 0 → ((x31.1 - x32.2.2.1) < r71 → wpL_law_b596 cB Post K228 S mu72 u v5 v6 v7 v8 v9 v10 v12 r68 r71) ∧ (¬ (x31.1 - x32.2.2.1) < r71 → wpL_law_b597 cB Post K228 S mu72 u v5 v6 v7 v8 v9 v10 v12 r68 r71 (1 : Int32)))))))) ∧ (r34 = (3 : Int32) → (s0 = 0 → wpL_law_b722 cB Post K228 S mu35 u v5 v6 v7 v8 v9 v10 v12) ∧ (¬ s0 = 0 → ∃ x107, mR mu35 v5 = some x107 ∧ u ≤ cB ∧ wpX10_below mu35 v5 (3 : Int32) (fun r108 mu109 => (¬ r108 = 0 → wpL_law_b722 cB Post K228 S mu109 u v5 v6 v7 v8 v9 v10 v12) ∧ (r108 = 0 → wpL_law_b723 cB Post K228 S mu109 u v5 v6 v7 v8 v9 v10 v12 (1 : Int32))))) ∧ (r34 = (4 : Int32) → (s0 = 0 → wpL_law_b816 cB Post K228 S mu35 u v1 v5 v6 v7 v8 v9 v10 v12 s0 (x31.1 - x32.2.2.1) (0 : Int32)) ∧ (¬ s0 = 0 → ∃ x136, mB mu35 v6 = some x136 ∧ ∃ a136, x136.2.2.2.2.2.1 = some a136 ∧ ∃ n137 f137 k137, mQ mu35 a136 = some (2, n137, f137) ∧ v12 = nI k137 ∧ k137 < n137 ∧ n137 ≤ 1000 ∧ ∃ a137, f137 k137 = some a137 ∧ ∃ x138, mP mu35 a137 = some x138 ∧ ∃ a138, x138.2.2.2 = some a138 ∧ ∃ n139 f139, mI mu35 a138 = some (n139, f139) ∧ wpL_law_b816 cB Post K228 S mu35 u v1 v5 v6 v7 v8 v9 v10 v12 s0 (x31.1 - x32.2.2.1) (nI n139))) ∧ (r34 = (5 : Int32) → (s0 = 0 → wpL_law_b816 cB Post K228 S mu35 u v1 v5 v6 v7 v8 v9 v10 v12 s0 (x31.1 - x32.2.2.1) (0 : Int32)) ∧ (¬ s0 = 0 → ∃ x140, mB mu35 v6 = some x140 ∧ ∃ a140, x140.2.2.2.2.2.1 = some a140 ∧ ∃ n141 f141 k141, mQ mu35 a140 = some (2, n141, f141) ∧ v12 = nI k141 ∧ k141 < n141 ∧ n141 ≤ 1000 ∧ ∃ a141, f141 k141 = some a141 ∧ ∃ x142, mP mu35 a141 = some x142 ∧ ∃ a142, x142.2.2.2 = some a142 ∧ ∃ n143 f143, mI mu35 a142 = some (n143, f143) ∧ wpL_law_b816 cB Post K228 S mu35 u v1 v5 v6 v7 v8 v9 v10 v12 s0 (x31.1 - x32.2.2.1) (nI n143))) ∧ (¬ r34 = (0 : Int32) ∧ ¬ r34 = (1 : Int32) ∧ ¬ r34 = (2 : Int32) ∧ ¬ r34 = (3 : Int32) ∧ ¬ r34 = (4 : Int32) ∧ ¬ r34 = (5 : Int32) → ∃ x144, mR mu35 v5 = some x144 ∧ u ≤ cB ∧ wpX10_below mu35 v5 (7 : Int32) (fun r145 mu146 => ∃ x147, mR mu146 v5 = some x147 ∧ u ≤ cB ∧ wpX10_below mu146 v5 (40 : Int32) (fun r148 mu149 => ((6 : Int32) ≤ r145 → wpL_law_b1111 cB Post K228 S mu149 u v5 v6 v7 v8 v9 v10 r145 r148 (0 : Int32)) ∧ (¬ (6 : Int32) ≤ r145 → wpL_law_b1111 cB Post K228 S mu149 u v5 v6 v7 v8 v9 v10 r145 r148 (1 : Int32)))))) := H
    refine k_istore C (pc := 280) dL_law_280 (Nat.lt_of_lt_of_le (Nat.lt_succ_self _) (Nat.le_of_ble_eq_true rfl)) (lv' := [(13, .int s0), (0, .ref b), (1, .int v1), (2, .int (0 : Int32)), (3, .ref (h 0)), (5, .ref v5), (6, .ref v6), (7, .ref v7), (8, .int v8), (9, .int v9), (10, .ref v10), (12, .int v12)]) rfl ?_
    refine k_aload C 6 (pc := 282) dL_law_282 rfl ?_
    obtain ⟨x31, hx31, H⟩ := H
    refine l_getB C hR (pc := 284) hx31 0 (Nat.lt_of_lt_of_le (Nat.lt_succ_self _) (Nat.le_of_ble_eq_true rfl)) (ref := "WidowWatchLaw$Book") tW_2_63 rfl (v := .int x31.1) rfl dL_law_284 ?_
    refine k_aload C 6 (pc := 287) dL_law_287 rfl ?_
    obtain ⟨x32, hx32, H⟩ := H
    refine l_getB C hR (pc := 289) hx32 2 (Nat.lt_of_lt_of_le (Nat.lt_succ_self _) (Nat.le_of_ble_eq_true rfl)) (ref := "WidowWatchLaw$Book") tW_2_67 rfl (v := .int x32.2.2.1) rfl dL_law_289 ?_
    refine k_isub C (pc := 292) dL_law_292 ?_
    refine k_istore C (pc := 293) dL_law_293 (Nat.lt_of_lt_of_le (Nat.lt_succ_self _) (Nat.le_of_ble_eq_true rfl)) (lv' := [(14, .int (x31.1 - x32.2.2.1)), (13, .int s0), (0, .ref b), (1, .int v1), (2, .int (0 : Int32)), (3, .ref (h 0)), (5, .ref v5), (6, .ref v6), (7, .ref v7), (8, .int v8), (9, .int v9), (10, .ref v10), (12, .int v12)]) rfl ?_
    refine k_aload C 6 (pc := 295) dL_law_295 rfl ?_
    refine k_bipush C (pc := 297) (v := (7 : Int32)) dL_law_297 (by decide) ?_
    obtain ⟨x33, hx33, H⟩ := H
    obtain ⟨i33, hi33⟩ := List.getElem?_of_mem (hR.R hx33)
    obtain ⟨hc_, H⟩ := H
    refine k_callAi C (pc := 299) (l_runV C hF (As := [.int (7 : Int32)]) (rest := []) (ci := 10) (q0 := i33) (conX10_below l D cA mu v5 (7 : Int32) _  H hR) ⟨k_cwB C tW_2_170 tW_2_167 tW_1_8 okX10_below rfl rfl ⟨Nat.le_of_ble_eq_true rfl, Nat.le_of_ble_eq_true rfl⟩, C.w tW_2_168, C.w tW_2_169⟩ hi33 rfl rfl rfl rfl (Nat.le_of_ble_eq_true rfl) dL_law_299 (kw_rm (k := 0) hc_ (by decide) hRm)) (fun r34 w1 hw_ => ?_)
    obtain ⟨mu35, hR, H⟩ := hw_
    by_cases c_302_0 : r34 = (0 : Int32)
    · have H := H.1 c_302_0
      refine k_tableIn C (pc := 302) (off := 38) (tgt := 340) dL_law_302 (by rw [c_302_0]; decide) (by rw [c_302_0]; decide) (by rw [c_302_0]; rfl) (by decide) ?_
      refine k_aload C 6 (pc := 340) dL_law_340 rfl ?_
      refine k_iconst C (pc := 342) (v := (5 : Int32)) dL_law_342 rfl ?_
      obtain ⟨x36, hx36, H⟩ := H
      obtain ⟨i36, hi36⟩ := List.getElem?_of_mem (hR.R hx36)
      obtain ⟨hc_, H⟩ := H
      refine k_callAi C (pc := 343) (l_runV C hF (As := [.int (5 : Int32)]) (rest := []) (ci := 10) (q0 := i36) (conX10_below l D cA mu35 v5 (5 : Int32) _  H hR) ⟨k_cwB C tW_2_170 tW_2_167 tW_1_8 okX10_below rfl rfl ⟨Nat.le_of_ble_eq_true rfl, Nat.le_of_ble_eq_true rfl⟩, C.w tW_2_168, C.w tW_2_169⟩ hi36 rfl rfl rfl rfl (Nat.le_of_ble_eq_true rfl) dL_law_343 (kw_rm (k := 0) hc_ (by decide) hRm)) (fun r37 w1 hw_ => ?_)
      obtain ⟨mu38, hR, H⟩ := hw_
      refine k_iconst C (pc := 346) (v := (1 : Int32)) dL_law_346 rfl ?_
      refine k_isub C (pc := 347) dL_law_347 ?_
      refine k_istore C (pc := 348) dL_law_348 (Nat.lt_of_lt_of_le (Nat.lt_succ_self _) (Nat.le_of_ble_eq_true rfl)) (lv' := [(15, .int (r37 - (1 : Int32))), (14, .int (x31.1 - x32.2.2.1)), (13, .int s0), (0, .ref b), (1, .int v1), (2, .int (0 : Int32)), (3, .ref (h 0)), (5, .ref v5), (6, .ref v6), (7, .ref v7), (8, .int v8), (9, .int v9), (10, .ref v10), (12, .int v12)]) rfl ?_
      refine k_iload C 2 (pc := 350) dL_law_350 rfl ?_
      refine k_if_eq C (pc := 352) (tgt := 365) dL_law_352 (by decide) (fun c_352 => ?_) (fun c_352 => ?_)
      · have H := H.1 c_352
        refine k_lv (pc := 365) [3, 5, 6, 7, 8, 9, 10, 11, 12, 13, 2, 0] (lv' := [(0, .ref b), (2, .int (0 : Int32)), (3, .ref (h 0)), (5, .ref v5), (6, .ref v6), (7, .ref v7), (8, .int v8), (9, .int v9), (10, .ref v10), (12, .int v12), (13, .int s0), (15, .int (r37 - (1 : Int32)))]) rfl ?_
        exact B365 K228 hK228 _ _ S mu38 u v5 v6 v7 v8 v9 v10 v12 s0 (r37 - (1 : Int32)) hI hR H
      · have H := H.2 c_352
        refine k_iload C 0 (pc := 355) dL_law_355 rfl ?_
        refine k_iconst C (pc := 357) (v := (3 : Int32)) dL_law_357 rfl ?_
        refine k_icmp_ge C (pc := 358) (tgt := 365) dL_law_358 (by decide) (fun c_358 => ?_) (fun c_358 => ?_)
        · have H := H.1 c_358
          refine k_lv (pc := 365) [3, 5, 6, 7, 8, 9, 10, 11, 12, 13, 2, 0] (lv' := [(0, .ref b), (2, .int (0 : Int32)), (3, .ref (h 0)), (5, .ref v5), (6, .ref v6), (7, .ref v7), (8, .int v8), (9, .int v9), (10, .ref v10), (12, .int v12), (13, .int s0), (15, .int (r37 - (1 : Int32)))]) rfl ?_
          exact B365 K228 hK228 _ _ S mu38 u v5 v6 v7 v8 v9 v10 v12 s0 (r37 - (1 : Int32)) hI hR H
        · have H := H.2 c_358
          refine k_iconst C (pc := 361) (v := (1 : Int32)) dL_law_361 rfl ?_
          refine k_goto C (pc := 362) (tgt := 366) dL_law_362 (by decide) ?_
          refine k_lv (pc := 366) [3, 5, 6, 7, 8, 9, 10, 11, 12, 13, 2, 0] (lv' := [(0, .ref b), (2, .int (0 : Int32)), (3, .ref (h 0)), (5, .ref v5), (6, .ref v6), (7, .ref v7), (8, .int v8), (9, .int v9), (10, .ref v10), (12, .int v12), (13, .int s0), (15, .int (r37 - (1 : Int32)))]) rfl ?_
          exact B366 K228 hK228 _ _ S mu38 u v5 v6 v7 v8 v9 v10 v12 s0 (r37 - (1 : Int32)) (1 : Int32) hI hR H
    by_cases c_302_1 : r34 = (1 : Int32)
    · have H := H.2.1 c_302_1
      refine k_tableIn C (pc := 302) (off := 148) (tgt := 450) dL_law_302 (by rw [c_302_1]; decide) (by rw [c_302_1]; decide) (by rw [c_302_1]; rfl) (by decide) ?_
      refine k_aload C 6 (pc := 450) dL_law_450 rfl ?_
      refine k_iconst C (pc := 452) (v := (2 : Int32)) dL_law_452 rfl ?_
      obtain ⟨x55, hx55, H⟩ := H
      obtain ⟨i55, hi55⟩ := List.getElem?_of_mem (hR.R hx55)
      obtain ⟨hc_, H⟩ := H
      refine k_callAi C (pc := 453) (l_runV C hF (As := [.int (2 : Int32)]) (rest := []) (ci := 10) (q0 := i55) (conX10_below l D cA mu35 v5 (2 : Int32) _  H hR) ⟨k_cwB C tW_2_170 tW_2_167 tW_1_8 okX10_below rfl rfl ⟨Nat.le_of_ble_eq_true rfl, Nat.le_of_ble_eq_true rfl⟩, C.w tW_2_168, C.w tW_2_169⟩ hi55 rfl rfl rfl rfl (Nat.le_of_ble_eq_true rfl) dL_law_453 (kw_rm (k := 0) hc_ (by decide) hRm)) (fun r56 w1 hw_ => ?_)
      obtain ⟨mu57, hR, H⟩ := hw_
      refine k_if_ne C (pc := 456) (tgt := 463) dL_law_456 (by decide) (fun c_456 => ?_) (fun c_456 => ?_)
      · have H := H.1 c_456
        refine k_iconst C (pc := 463) (v := (0 : Int32)) dL_law_463 rfl ?_
        refine k_lv (pc := 464) [2, 4, 5, 6, 7, 8, 9, 10, 11, 12, 1] (lv' := [(0, .ref b), (2, .int (0 : Int32)), (3, .ref (h 0)), (5, .ref v5), (6, .ref v6), (7, .ref v7), (8, .int v8), (9, .int v9), (10, .ref v10), (12, .int v12), (13, .int s0)]) rfl ?_
        exact B464 K228 hK228 _ _ S mu57 u v5 v6 v7 v8 v9 v10 v12 s0 (0 : Int32) hI hR H
      · have H := H.2 c_456
        refine k_iconst C (pc := 459) (v := (1 : Int32)) dL_law_459 rfl ?_
        refine k_goto C (pc := 460) (tgt := 464) dL_law_460 (by decide) ?_
        refine k_lv (pc := 464) [2, 4, 5, 6, 7, 8, 9, 10, 11, 12, 1] (lv' := [(0, .ref b), (2, .int (0 : Int32)), (3, .ref (h 0)), (5, .ref v5), (6, .ref v6), (7, .ref v7), (8, .int v8), (9, .int v9), (10, .ref v10), (12, .int v12), (13, .int s0)]) rfl ?_
        exact B464 K228 hK228 _ _ S mu57 u v5 v6 v7 v8 v9 v10 v12 s0 (1 : Int32) hI hR H
    by_cases c_302_2 : r34 = (2 : Int32)
    · have H := H.2.2.1 c_302_2
      refine k_tableIn C (pc := 302) (off := 244) (tgt := 546) dL_law_302 (by rw [c_302_2]; decide) (by rw [c_302_2]; decide) (by rw [c_302_2]; rfl) (by decide) ?_
      refine k_aload C 6 (pc := 546) dL_law_546 rfl ?_
      refine k_iconst C (pc := 548) (v := (5 : Int32)) dL_law_548 rfl ?_
      obtain ⟨x67, hx67, H⟩ := H
      obtain ⟨i67, hi67⟩ := List.getElem?_of_mem (hR.R hx67)
      obtain ⟨hc_, H⟩ := H
      refine k_callAi C (pc := 549) (l_runV C hF (As := [.int (5 : Int32)]) (rest := []) (ci := 10) (q0 := i67) (conX10_below l D cA mu35 v5 (5 : Int32) _  H hR) ⟨k_cwB C tW_2_170 tW_2_167 tW_1_8 okX10_below rfl rfl ⟨Nat.le_of_ble_eq_true rfl, Nat.le_of_ble_eq_true rfl⟩, C.w tW_2_168, C.w tW_2_169⟩ hi67 rfl rfl rfl rfl (Nat.le_of_ble_eq_true rfl) dL_law_549 (kw_rm (k := 0) hc_ (by decide) hRm)) (fun r68 w1 hw_ => ?_)
      obtain ⟨mu69, hR, H⟩ := hw_
      refine k_istore C (pc := 552) dL_law_552 (Nat.lt_of_lt_of_le (Nat.lt_succ_self _) (Nat.le_of_ble_eq_true rfl)) (lv' := [(19, .int r68), (14, .int (x31.1 - x32.2.2.1)), (13, .int s0), (0, .ref b), (1, .int v1), (2, .int (0 : Int32)), (3, .ref (h 0)), (5, .ref v5), (6, .ref v6), (7, .ref v7), (8, .int v8), (9, .int v9), (10, .ref v10), (12, .int v12)]) rfl ?_
      refine k_aload C 7 (pc := 554) dL_law_554 rfl ?_
      refine k_iload C 1 (pc := 556) dL_law_556 rfl ?_
      refine k_iconst C (pc := 558) (v := (2 : Int32)) dL_law_558 rfl ?_
      refine k_iadd C (pc := 559) dL_law_559 ?_
      obtain ⟨x70, hx70, H⟩ := H
      obtain ⟨i70, hi70⟩ := List.getElem?_of_mem (hR.R hx70)
      obtain ⟨hc_, H⟩ := H
      refine k_callAi C (pc := 560) (l_runV C hF (As := [.int ((x31.1 - x32.2.2.1) + (2 : Int32))]) (rest := []) (ci := 10) (q0 := i70) (conX10_below l D cA mu69 v5 ((x31.1 - x32.2.2.1) + (2 : Int32)) _  H hR) ⟨k_cwB C tW_2_170 tW_2_167 tW_1_8 okX10_below rfl rfl ⟨Nat.le_of_ble_eq_true rfl, Nat.le_of_ble_eq_true rfl⟩, C.w tW_2_168, C.w tW_2_169⟩ hi70 rfl rfl rfl rfl (Nat.le_of_ble_eq_true rfl) dL_law_560 (kw_rm (k := 0) hc_ (by decide) hRm)) (fun r71 w1 hw_ => ?_)
      obtain ⟨mu72, hR, H⟩ := hw_
      refine k_istore C (pc := 563) dL_law_563 (Nat.lt_of_lt_of_le (Nat.lt_succ_self _) (Nat.le_of_ble_eq_true rfl)) (lv' := [(20, .int r71), (19, .int r68), (14, .int (x31.1 - x32.2.2.1)), (13, .int s0), (0, .ref b), (1, .int v1), (2, .int (0 : Int32)), (3, .ref (h 0)), (5, .ref v5), (6, .ref v6), (7, .ref v7), (8, .int v8), (9, .int v9), (10, .ref v10), (12, .int v12)]) rfl ?_
      refine k_aload C 9 (pc := 565) dL_law_565 rfl ?_
      obtain ⟨x73, hx73, H⟩ := H
      obtain ⟨a73, ha73, H⟩ := H
      refine l_getB C hR (pc := 567) hx73 5 (Nat.lt_of_lt_of_le (Nat.lt_succ_self _) (Nat.le_of_ble_eq_true rfl)) (ref := "WidowWatchLaw$Book") tW_2_73 rfl (v := .ref a73) (by show some (va_rf x73.2.2.2.2.2.1) = _; rw [ha73]; rfl) dL_law_567 ?_
      obtain ⟨n74, f74, hx_, H⟩ := H
      refine l_alenQ C hR (pc := 570) (Or.inl rfl) hx_ dL_law_570 ?_
      refine k_iconst C (pc := 571) (v := (3 : Int32)) dL_law_571 rfl ?_
      refine k_icmp_ge C (pc := 572) (tgt := 596) dL_law_572 (by decide) (fun c_572 => ?_) (fun c_572 => ?_)
      · have H := H.1 c_572
        refine k_lv (pc := 596) [4, 6, 7, 8, 9, 10, 11, 12, 13, 14, 1, 0] (lv' := [(0, .ref b), (2, .int (0 : Int32)), (3, .ref (h 0)), (5, .ref v5), (6, .ref v6), (7, .ref v7), (8, .int v8), (9, .int v9), (10, .ref v10), (12, .int v12), (19, .int r68), (20, .int r71)]) rfl ?_
        exact B596 K228 hK228 _ _ S mu72 u v5 v6 v7 v8 v9 v10 v12 r68 r71 hI hR H
      · have H := H.2 c_572
        refine k_iload C 1 (pc := 575) dL_law_575 rfl ?_
        refine k_if_le C (pc := 577) (tgt := 596) dL_law_577 (by decide) (fun c_577 => ?_) (fun c_577 => ?_)
        · have H := H.1 c_577
          refine k_lv (pc := 596) [4, 6, 7, 8, 9, 10, 11, 12, 13, 14, 1, 0] (lv' := [(0, .ref b), (2, .int (0 : Int32)), (3, .ref (h 0)), (5, .ref v5), (6, .ref v6), (7, .ref v7), (8, .int v8), (9, .int v9), (10, .ref v10), (12, .int v12), (19, .int r68), (20, .int r71)]) rfl ?_
          exact B596 K228 hK228 _ _ S mu72 u v5 v6 v7 v8 v9 v10 v12 r68 r71 hI hR H
        · have H := H.2 c_577
          refine k_iload C 0 (pc := 580) dL_law_580 rfl ?_
          refine k_if_le C (pc := 582) (tgt := 596) dL_law_582 (by decide) (fun c_582 => ?_) (fun c_582 => ?_)
          · have H := H.1 c_582
            refine k_lv (pc := 596) [4, 6, 7, 8, 9, 10, 11, 12, 13, 14, 1, 0] (lv' := [(0, .ref b), (2, .int (0 : Int32)), (3, .ref (h 0)), (5, .ref v5), (6, .ref v6), (7, .ref v7), (8, .int v8), (9, .int v9), (10, .ref v10), (12, .int v12), (19, .int r68), (20, .int r71)]) rfl ?_
            exact B596 K228 hK228 _ _ S mu72 u v5 v6 v7 v8 v9 v10 v12 r68 r71 hI hR H
          · have H := H.2 c_582
            refine k_iload C 0 (pc := 585) dL_law_585 rfl ?_
            refine k_iload C 2 (pc := 587) dL_law_587 rfl ?_
            refine k_icmp_gt C (pc := 589) (tgt := 596) dL_law_589 (by decide) (fun c_589 => ?_) (fun c_589 => ?_)
            · have H := H.1 c_589
              refine k_lv (pc := 596) [4, 6, 7, 8, 9, 10, 11, 12, 13, 14, 1, 0] (lv' := [(0, .ref b), (2, .int (0 : Int32)), (3, .ref (h 0)), (5, .ref v5), (6, .ref v6), (7, .ref v7), (8, .int v8), (9, .int v9), (10, .ref v10), (12, .int v12), (19, .int r68), (20, .int r71)]) rfl ?_
              exact B596 K228 hK228 _ _ S mu72 u v5 v6 v7 v8 v9 v10 v12 r68 r71 hI hR H
            · have H := H.2 c_589
              refine k_iconst C (pc := 592) (v := (1 : Int32)) dL_law_592 rfl ?_
              refine k_goto C (pc := 593) (tgt := 597) dL_law_593 (by decide) ?_
              refine k_lv (pc := 597) [4, 6, 7, 8, 9, 10, 11, 12, 13, 14, 1, 0] (lv' := [(0, .ref b), (2, .int (0 : Int32)), (3, .ref (h 0)), (5, .ref v5), (6, .ref v6), (7, .ref v7), (8, .int v8), (9, .int v9), (10, .ref v10), (12, .int v12), (19, .int r68), (20, .int r71)]) rfl ?_
              exact B597 K228 hK228 _ _ S mu72 u v5 v6 v7 v8 v9 v10 v12 r68 r71 (1 : Int32) hI hR H
    by_cases c_302_3 : r34 = (3 : Int32)
    · have H := H.2.2.2.1 c_302_3
      refine k_tableIn C (pc := 302) (off := 402) (tgt := 704) dL_law_302 (by rw [c_302_3]; decide) (by rw [c_302_3]; decide) (by rw [c_302_3]; rfl) (by decide) ?_
      refine k_iload C 1 (pc := 704) dL_law_704 rfl ?_
      refine k_if_eq C (pc := 706) (tgt := 722) dL_law_706 (by decide) (fun c_706 => ?_) (fun c_706 => ?_)
      · have H := H.1 c_706
        refine k_lv (pc := 722) [2, 4, 5, 6, 7, 8, 9, 10, 11, 12] (lv' := [(0, .ref b), (2, .int (0 : Int32)), (3, .ref (h 0)), (5, .ref v5), (6, .ref v6), (7, .ref v7), (8, .int v8), (9, .int v9), (10, .ref v10), (12, .int v12)]) rfl ?_
        exact B722 K228 hK228 _ _ S mu35 u v5 v6 v7 v8 v9 v10 v12 hI hR H
      · have H := H.2 c_706
        refine k_aload C 6 (pc := 709) dL_law_709 rfl ?_
        refine k_iconst C (pc := 711) (v := (3 : Int32)) dL_law_711 rfl ?_
        obtain ⟨x107, hx107, H⟩ := H
        obtain ⟨i107, hi107⟩ := List.getElem?_of_mem (hR.R hx107)
        obtain ⟨hc_, H⟩ := H
        refine k_callAi C (pc := 712) (l_runV C hF (As := [.int (3 : Int32)]) (rest := []) (ci := 10) (q0 := i107) (conX10_below l D cA mu35 v5 (3 : Int32) _  H hR) ⟨k_cwB C tW_2_170 tW_2_167 tW_1_8 okX10_below rfl rfl ⟨Nat.le_of_ble_eq_true rfl, Nat.le_of_ble_eq_true rfl⟩, C.w tW_2_168, C.w tW_2_169⟩ hi107 rfl rfl rfl rfl (Nat.le_of_ble_eq_true rfl) dL_law_712 (kw_rm (k := 0) hc_ (by decide) hRm)) (fun r108 w1 hw_ => ?_)
        obtain ⟨mu109, hR, H⟩ := hw_
        refine k_if_ne C (pc := 715) (tgt := 722) dL_law_715 (by decide) (fun c_715 => ?_) (fun c_715 => ?_)
        · have H := H.1 c_715
          refine k_lv (pc := 722) [2, 4, 5, 6, 7, 8, 9, 10, 11, 12] (lv' := [(0, .ref b), (2, .int (0 : Int32)), (3, .ref (h 0)), (5, .ref v5), (6, .ref v6), (7, .ref v7), (8, .int v8), (9, .int v9), (10, .ref v10), (12, .int v12)]) rfl ?_
          exact B722 K228 hK228 _ _ S mu109 u v5 v6 v7 v8 v9 v10 v12 hI hR H
        · have H := H.2 c_715
          refine k_iconst C (pc := 718) (v := (1 : Int32)) dL_law_718 rfl ?_
          refine k_goto C (pc := 719) (tgt := 723) dL_law_719 (by decide) ?_
          refine k_lv (pc := 723) [2, 4, 5, 6, 7, 8, 9, 10, 11, 12] (lv' := [(0, .ref b), (2, .int (0 : Int32)), (3, .ref (h 0)), (5, .ref v5), (6, .ref v6), (7, .ref v7), (8, .int v8), (9, .int v9), (10, .ref v10), (12, .int v12)]) rfl ?_
          exact B723 K228 hK228 _ _ S mu109 u v5 v6 v7 v8 v9 v10 v12 (1 : Int32) hI hR H
    by_cases c_302_4 : r34 = (4 : Int32)
    · have H := H.2.2.2.2.1 c_302_4
      refine k_tableIn C (pc := 302) (off := 493) (tgt := 795) dL_law_302 (by rw [c_302_4]; decide) (by rw [c_302_4]; decide) (by rw [c_302_4]; rfl) (by decide) ?_
      refine k_iload C 1 (pc := 795) dL_law_795 rfl ?_
      refine k_if_eq C (pc := 797) (tgt := 815) dL_law_797 (by decide) (fun c_797 => ?_) (fun c_797 => ?_)
      · have H := H.1 c_797
        refine k_iconst C (pc := 815) (v := (0 : Int32)) dL_law_815 rfl ?_
        refine k_lv (pc := 816) [2, 3, 4, 5, 6, 7, 8, 9, 10, 11, 12, 1, 0] (lv' := [(0, .ref b), (1, .int v1), (2, .int (0 : Int32)), (3, .ref (h 0)), (5, .ref v5), (6, .ref v6), (7, .ref v7), (8, .int v8), (9, .int v9), (10, .ref v10), (12, .int v12), (13, .int s0), (14, .int (x31.1 - x32.2.2.1))]) rfl ?_
        exact B816 K228 hK228 _ _ S mu35 u v1 v5 v6 v7 v8 v9 v10 v12 s0 (x31.1 - x32.2.2.1) (0 : Int32) hI hR H
      · have H := H.2 c_797
        refine k_aload C 7 (pc := 800) dL_law_800 rfl ?_
        obtain ⟨x136, hx136, H⟩ := H
        obtain ⟨a136, ha136, H⟩ := H
        refine l_getB C hR (pc := 802) hx136 5 (Nat.lt_of_lt_of_le (Nat.lt_succ_self _) (Nat.le_of_ble_eq_true rfl)) (ref := "WidowWatchLaw$Book") tW_2_73 rfl (v := .ref a136) (by show some (va_rf x136.2.2.2.2.2.1) = _; rw [ha136]; rfl) dL_law_802 ?_
        refine k_iload C 12 (pc := 805) dL_law_805 rfl ?_
        obtain ⟨n137, f137, k137, hx_, hk_, hl_, hn_, H⟩ := H
        refine k_eq (pc := 807) (st' := [.int (nI k137), .ref a136]) rfl rfl (by rw [hk_]) ?_
        obtain ⟨a137, ha137, H⟩ := H
        refine l_aald C hR (pc := 807) (Or.inl rfl) hx_ hl_ hn_ dL_law_807 ?_
        refine k_eq (pc := 808) (st' := [.ref a137]) rfl rfl (by rw [ha137]; rfl) ?_
        obtain ⟨x138, hx138, H⟩ := H
        obtain ⟨a138, ha138, H⟩ := H
        refine l_getP C hR (pc := 808) hx138 3 (Nat.lt_of_lt_of_le (Nat.lt_succ_self _) (Nat.le_of_ble_eq_true rfl)) (ref := "WidowWatchLaw$Para") tW_2_133 rfl (v := .ref a138) (by show some (va_rf x138.2.2.2) = _; rw [ha138]; rfl) dL_law_808 ?_
        obtain ⟨n139, f139, hx_, H⟩ := H
        refine l_alen C hR (pc := 811) hx_ dL_law_811 ?_
        refine k_goto C (pc := 812) (tgt := 816) dL_law_812 (by decide) ?_
        refine k_lv (pc := 816) [2, 3, 4, 5, 6, 7, 8, 9, 10, 11, 12, 1, 0] (lv' := [(0, .ref b), (1, .int v1), (2, .int (0 : Int32)), (3, .ref (h 0)), (5, .ref v5), (6, .ref v6), (7, .ref v7), (8, .int v8), (9, .int v9), (10, .ref v10), (12, .int v12), (13, .int s0), (14, .int (x31.1 - x32.2.2.1))]) rfl ?_
        exact B816 K228 hK228 _ _ S mu35 u v1 v5 v6 v7 v8 v9 v10 v12 s0 (x31.1 - x32.2.2.1) (nI n139) hI hR H
    by_cases c_302_5 : r34 = (5 : Int32)
    · have H := H.2.2.2.2.2.1 c_302_5
      refine k_tableIn C (pc := 302) (off := 493) (tgt := 795) dL_law_302 (by rw [c_302_5]; decide) (by rw [c_302_5]; decide) (by rw [c_302_5]; rfl) (by decide) ?_
      refine k_iload C 1 (pc := 795) dL_law_795 rfl ?_
      refine k_if_eq C (pc := 797) (tgt := 815) dL_law_797 (by decide) (fun c_797 => ?_) (fun c_797 => ?_)
      · have H := H.1 c_797
        refine k_iconst C (pc := 815) (v := (0 : Int32)) dL_law_815 rfl ?_
        refine k_lv (pc := 816) [2, 3, 4, 5, 6, 7, 8, 9, 10, 11, 12, 1, 0] (lv' := [(0, .ref b), (1, .int v1), (2, .int (0 : Int32)), (3, .ref (h 0)), (5, .ref v5), (6, .ref v6), (7, .ref v7), (8, .int v8), (9, .int v9), (10, .ref v10), (12, .int v12), (13, .int s0), (14, .int (x31.1 - x32.2.2.1))]) rfl ?_
        exact B816 K228 hK228 _ _ S mu35 u v1 v5 v6 v7 v8 v9 v10 v12 s0 (x31.1 - x32.2.2.1) (0 : Int32) hI hR H
      · have H := H.2 c_797
        refine k_aload C 7 (pc := 800) dL_law_800 rfl ?_
        obtain ⟨x140, hx140, H⟩ := H
        obtain ⟨a140, ha140, H⟩ := H
        refine l_getB C hR (pc := 802) hx140 5 (Nat.lt_of_lt_of_le (Nat.lt_succ_self _) (Nat.le_of_ble_eq_true rfl)) (ref := "WidowWatchLaw$Book") tW_2_73 rfl (v := .ref a140) (by show some (va_rf x140.2.2.2.2.2.1) = _; rw [ha140]; rfl) dL_law_802 ?_
        refine k_iload C 12 (pc := 805) dL_law_805 rfl ?_
        obtain ⟨n141, f141, k141, hx_, hk_, hl_, hn_, H⟩ := H
        refine k_eq (pc := 807) (st' := [.int (nI k141), .ref a140]) rfl rfl (by rw [hk_]) ?_
        obtain ⟨a141, ha141, H⟩ := H
        refine l_aald C hR (pc := 807) (Or.inl rfl) hx_ hl_ hn_ dL_law_807 ?_
        refine k_eq (pc := 808) (st' := [.ref a141]) rfl rfl (by rw [ha141]; rfl) ?_
        obtain ⟨x142, hx142, H⟩ := H
        obtain ⟨a142, ha142, H⟩ := H
        refine l_getP C hR (pc := 808) hx142 3 (Nat.lt_of_lt_of_le (Nat.lt_succ_self _) (Nat.le_of_ble_eq_true rfl)) (ref := "WidowWatchLaw$Para") tW_2_133 rfl (v := .ref a142) (by show some (va_rf x142.2.2.2) = _; rw [ha142]; rfl) dL_law_808 ?_
        obtain ⟨n143, f143, hx_, H⟩ := H
        refine l_alen C hR (pc := 811) hx_ dL_law_811 ?_
        refine k_goto C (pc := 812) (tgt := 816) dL_law_812 (by decide) ?_
        refine k_lv (pc := 816) [2, 3, 4, 5, 6, 7, 8, 9, 10, 11, 12, 1, 0] (lv' := [(0, .ref b), (1, .int v1), (2, .int (0 : Int32)), (3, .ref (h 0)), (5, .ref v5), (6, .ref v6), (7, .ref v7), (8, .int v8), (9, .int v9), (10, .ref v10), (12, .int v12), (13, .int s0), (14, .int (x31.1 - x32.2.2.1))]) rfl ?_
        exact B816 K228 hK228 _ _ S mu35 u v1 v5 v6 v7 v8 v9 v10 v12 s0 (x31.1 - x32.2.2.1) (nI n143) hI hR H
    have H := H.2.2.2.2.2.2 ⟨c_302_0, c_302_1, c_302_2, c_302_3, c_302_4, c_302_5⟩
    refine k_tableOut C (pc := 302) (tgt := 1081) dL_law_302 (k_out_0_5 c_302_0 c_302_1 c_302_2 c_302_3 c_302_4 c_302_5) (by decide) ?_
    refine k_aload C 6 (pc := 1081) dL_law_1081 rfl ?_
    refine k_bipush C (pc := 1083) (v := (7 : Int32)) dL_law_1083 (by decide) ?_
    obtain ⟨x144, hx144, H⟩ := H
    obtain ⟨i144, hi144⟩ := List.getElem?_of_mem (hR.R hx144)
    obtain ⟨hc_, H⟩ := H
    refine k_callAi C (pc := 1085) (l_runV C hF (As := [.int (7 : Int32)]) (rest := []) (ci := 10) (q0 := i144) (conX10_below l D cA mu35 v5 (7 : Int32) _  H hR) ⟨k_cwB C tW_2_170 tW_2_167 tW_1_8 okX10_below rfl rfl ⟨Nat.le_of_ble_eq_true rfl, Nat.le_of_ble_eq_true rfl⟩, C.w tW_2_168, C.w tW_2_169⟩ hi144 rfl rfl rfl rfl (Nat.le_of_ble_eq_true rfl) dL_law_1085 (kw_rm (k := 0) hc_ (by decide) hRm)) (fun r145 w1 hw_ => ?_)
    obtain ⟨mu146, hR, H⟩ := hw_
    refine k_istore C (pc := 1088) dL_law_1088 (Nat.lt_of_lt_of_le (Nat.lt_succ_self _) (Nat.le_of_ble_eq_true rfl)) (lv' := [(25, .int r145), (14, .int (x31.1 - x32.2.2.1)), (13, .int s0), (0, .ref b), (1, .int v1), (2, .int (0 : Int32)), (3, .ref (h 0)), (5, .ref v5), (6, .ref v6), (7, .ref v7), (8, .int v8), (9, .int v9), (10, .ref v10), (12, .int v12)]) rfl ?_
    refine k_aload C 7 (pc := 1090) dL_law_1090 rfl ?_
    refine k_bipush C (pc := 1092) (v := (40 : Int32)) dL_law_1092 (by decide) ?_
    obtain ⟨x147, hx147, H⟩ := H
    obtain ⟨i147, hi147⟩ := List.getElem?_of_mem (hR.R hx147)
    obtain ⟨hc_, H⟩ := H
    refine k_callAi C (pc := 1094) (l_runV C hF (As := [.int (40 : Int32)]) (rest := []) (ci := 10) (q0 := i147) (conX10_below l D cA mu146 v5 (40 : Int32) _  H hR) ⟨k_cwB C tW_2_170 tW_2_167 tW_1_8 okX10_below rfl rfl ⟨Nat.le_of_ble_eq_true rfl, Nat.le_of_ble_eq_true rfl⟩, C.w tW_2_168, C.w tW_2_169⟩ hi147 rfl rfl rfl rfl (Nat.le_of_ble_eq_true rfl) dL_law_1094 (kw_rm (k := 0) hc_ (by decide) hRm)) (fun r148 w1 hw_ => ?_)
    obtain ⟨mu149, hR, H⟩ := hw_
    refine k_istore C (pc := 1097) dL_law_1097 (Nat.lt_of_lt_of_le (Nat.lt_succ_self _) (Nat.le_of_ble_eq_true rfl)) (lv' := [(26, .int r148), (25, .int r145), (14, .int (x31.1 - x32.2.2.1)), (13, .int s0), (0, .ref b), (1, .int v1), (2, .int (0 : Int32)), (3, .ref (h 0)), (5, .ref v5), (6, .ref v6), (7, .ref v7), (8, .int v8), (9, .int v9), (10, .ref v10), (12, .int v12)]) rfl ?_
    refine k_iload C 1 (pc := 1099) dL_law_1099 rfl ?_
    refine k_bipush C (pc := 1101) (v := (6 : Int32)) dL_law_1101 (by decide) ?_
    refine k_icmp_ge C (pc := 1103) (tgt := 1110) dL_law_1103 (by decide) (fun c_1103 => ?_) (fun c_1103 => ?_)
    · have H := H.1 c_1103
      refine k_iconst C (pc := 1110) (v := (0 : Int32)) dL_law_1110 rfl ?_
      refine k_lv (pc := 1111) [4, 6, 7, 8, 9, 10, 11, 12, 13, 1, 0] (lv' := [(0, .ref b), (2, .int (0 : Int32)), (3, .ref (h 0)), (5, .ref v5), (6, .ref v6), (7, .ref v7), (8, .int v8), (9, .int v9), (10, .ref v10), (25, .int r145), (26, .int r148)]) rfl ?_
      exact B1111 K228 hK228 _ _ S mu149 u v5 v6 v7 v8 v9 v10 r145 r148 (0 : Int32) hI hR H
    · have H := H.2 c_1103
      refine k_iconst C (pc := 1106) (v := (1 : Int32)) dL_law_1106 rfl ?_
      refine k_goto C (pc := 1107) (tgt := 1111) dL_law_1107 (by decide) ?_
      refine k_lv (pc := 1111) [4, 6, 7, 8, 9, 10, 11, 12, 13, 1, 0] (lv' := [(0, .ref b), (2, .int (0 : Int32)), (3, .ref (h 0)), (5, .ref v5), (6, .ref v6), (7, .ref v7), (8, .int v8), (9, .int v9), (10, .ref v10), (25, .int r145), (26, .int r148)]) rfl ?_
      exact B1111 K228 hK228 _ _ S mu149 u v5 v6 v7 v8 v9 v10 r145 r148 (1 : Int32) hI hR H
  have B228 : ∀  (n : Nat) (ws w : va_W) (S : ivS) (mu : Mu) (u : Nat) (v1 : Int32) (v5 : Nat) (v6 : Nat) (v7 : Nat) (v8 : Int32) (v9 : Int32), ivI cA h ab ac ar S false w → LR cA w ws mu → wpL_law_L228 cB Post  n S mu u v1 v5 v6 v7 v8 v9 → Kf p l e room_1 s m #[Value.ref b] below meth c D (fun q => s.heap.size ≤ q) 28 u (16 * u) Q ws 228 [(0, .ref b), (1, .int v1), (2, .int (0 : Int32)), (3, .ref (h 0)), (5, .ref v5), (6, .ref v6), (7, .ref v7), (8, .int v8), (9, .int v9)] [] := by
    intro  n
    induction n with
    | zero =>
      intro ws w S mu u v1 v5 v6 v7 v8 v9 hI hR H
      exact H.elim
    | succ nn228 ih228 =>
      intro ws w S mu u v1 v5 v6 v7 v8 v9 hI hR H
      have H : ((14 : Int32) ≤ v9 → wpL_law_b1242 cB Post  S mu u v1 v7 v8) ∧ (¬ (14 : Int32) ≤ v9 → (v1 = 0 → wpL_law_b1242 cB Post  S mu u v1 v7 v8) ∧ (¬ v1 = 0 → ∃ x20, mB mu v6 = some x20 ∧ ∃ q22, u + q22 ≤ cB ∧ wpX7_copy q22 mu v6 (fun r21 mu23 => ∃ x24, mB mu23 v6 = some x24 ∧ ∃ a24, x24.2.2.2.2.2.1 = some a24 ∧ ∃ n25 f25, mQ mu23 a24 = some (2, n25, f25) ∧ ∃ x26, mR mu23 v5 = some x26 ∧ (u + q22) ≤ cB ∧ wpX10_below mu23 v5 ((nI n25) + (1 : Int32)) (fun r27 mu28 => ∃ x29, mB mu28 v6 = some x29 ∧ ∃ a29, x29.2.2.2.2.2.1 = some a29 ∧ ∃ n30 f30, mQ mu28 a29 = some (2, n30, f30) ∧ ((nI n30) ≤ r27 → wpL_law_b280 cB Post (wpL_law_L228 cB Post  nn228) S mu28 (u + q22) v1 v5 v6 v7 v8 v9 r21 r27 (0 : Int32)) ∧ (¬ (nI n30) ≤ r27 → wpL_law_b280 cB Post (wpL_law_L228 cB Post  nn228) S mu28 (u + q22) v1 v5 v6 v7 v8 v9 r21 r27 (1 : Int32)))))) := H
      refine k_iload C 8 (pc := 228) dL_law_228 rfl ?_
      refine k_bipush C (pc := 230) (v := (14 : Int32)) dL_law_230 (by decide) ?_
      refine k_icmp_ge C (pc := 232) (tgt := 1242) dL_law_232 (by decide) (fun c_232 => ?_) (fun c_232 => ?_)
      · have H := H.1 c_232
        refine k_lv (pc := 1242) [0, 1, 2, 3, 6, 7] (lv' := [(0, .ref b), (1, .int v1), (2, .int (0 : Int32)), (3, .ref (h 0)), (7, .ref v7), (8, .int v8)]) rfl ?_
        exact B1242  _ _ S mu u v1 v7 v8 hI hR H
      · have H := H.2 c_232
        refine k_iload_n C 1 (pc := 235) dL_law_235 rfl rfl ?_
        refine k_if_eq C (pc := 236) (tgt := 1242) dL_law_236 (by decide) (fun c_236 => ?_) (fun c_236 => ?_)
        · have H := H.1 c_236
          refine k_lv (pc := 1242) [0, 1, 2, 3, 6, 7] (lv' := [(0, .ref b), (1, .int v1), (2, .int (0 : Int32)), (3, .ref (h 0)), (7, .ref v7), (8, .int v8)]) rfl ?_
          exact B1242  _ _ S mu u v1 v7 v8 hI hR H
        · have H := H.2 c_236
          refine k_aload C 5 (pc := 239) dL_law_239 rfl ?_
          obtain ⟨x20, hx20, H⟩ := H
          obtain ⟨i20, hi20⟩ := List.getElem?_of_mem (hR.B hx20)
          obtain ⟨q22, hc_, H⟩ := H
          refine k_callAr C (pc := 241) (l_runV C hF (As := []) (rest := []) (ci := 7) (q0 := i20) (conX7_copy l D cA q22 mu v6 _  H hR) ⟨k_cwB C tW_2_102 tW_2_99 tW_1_9 okX7_copy rfl rfl ⟨Nat.le_of_ble_eq_true rfl, Nat.le_of_ble_eq_true rfl⟩, C.w tW_2_100, C.w tW_2_101⟩ hi20 rfl rfl rfl rfl (Nat.le_of_ble_eq_true rfl) dL_law_241 (kw_rm hc_ (Nat.le_refl _) hRm)) (fun r21 w1 hw_ => ?_)
          obtain ⟨mu23, hR, H⟩ := hw_
          refine k_sl ?_
          refine k_astore C (pc := 244) dL_law_244 (Nat.lt_of_lt_of_le (Nat.lt_succ_self _) (Nat.le_of_ble_eq_true rfl)) (lv' := [(10, .ref r21), (0, .ref b), (1, .int v1), (2, .int (0 : Int32)), (3, .ref (h 0)), (5, .ref v5), (6, .ref v6), (7, .ref v7), (8, .int v8), (9, .int v9)]) rfl ?_
          refine k_iconst C (pc := 246) (v := (1 : Int32)) dL_law_246 rfl ?_
          refine k_istore C (pc := 247) dL_law_247 (Nat.lt_of_lt_of_le (Nat.lt_succ_self _) (Nat.le_of_ble_eq_true rfl)) (lv' := [(11, .int (1 : Int32)), (10, .ref r21), (0, .ref b), (1, .int v1), (2, .int (0 : Int32)), (3, .ref (h 0)), (5, .ref v5), (6, .ref v6), (7, .ref v7), (8, .int v8), (9, .int v9)]) rfl ?_
          refine k_aload C 6 (pc := 249) dL_law_249 rfl ?_
          refine k_aload C 7 (pc := 251) dL_law_251 rfl ?_
          obtain ⟨x24, hx24, H⟩ := H
          obtain ⟨a24, ha24, H⟩ := H
          refine l_getB C hR (pc := 253) hx24 5 (Nat.lt_of_lt_of_le (Nat.lt_succ_self _) (Nat.le_of_ble_eq_true rfl)) (ref := "WidowWatchLaw$Book") tW_2_73 rfl (v := .ref a24) (by show some (va_rf x24.2.2.2.2.2.1) = _; rw [ha24]; rfl) dL_law_253 ?_
          obtain ⟨n25, f25, hx_, H⟩ := H
          refine l_alenQ C hR (pc := 256) (Or.inl rfl) hx_ dL_law_256 ?_
          refine k_iconst C (pc := 257) (v := (1 : Int32)) dL_law_257 rfl ?_
          refine k_iadd C (pc := 258) dL_law_258 ?_
          obtain ⟨x26, hx26, H⟩ := H
          obtain ⟨i26, hi26⟩ := List.getElem?_of_mem (hR.R hx26)
          obtain ⟨hc_, H⟩ := H
          refine k_callAi C (pc := 259) (l_runV C hF (As := [.int ((nI n25) + (1 : Int32))]) (rest := []) (ci := 10) (q0 := i26) (conX10_below l D cA mu23 v5 ((nI n25) + (1 : Int32)) _  H hR) ⟨k_cwB C tW_2_170 tW_2_167 tW_1_8 okX10_below rfl rfl ⟨Nat.le_of_ble_eq_true rfl, Nat.le_of_ble_eq_true rfl⟩, C.w tW_2_168, C.w tW_2_169⟩ hi26 rfl rfl rfl rfl (Nat.le_of_ble_eq_true rfl) dL_law_259 (kw_rm (k := 0) hc_ (by decide) hRm)) (fun r27 w1 hw_ => ?_)
          obtain ⟨mu28, hR, H⟩ := hw_
          refine k_istore C (pc := 262) dL_law_262 (Nat.lt_of_lt_of_le (Nat.lt_succ_self _) (Nat.le_of_ble_eq_true rfl)) (lv' := [(12, .int r27), (11, .int (1 : Int32)), (10, .ref r21), (0, .ref b), (1, .int v1), (2, .int (0 : Int32)), (3, .ref (h 0)), (5, .ref v5), (6, .ref v6), (7, .ref v7), (8, .int v8), (9, .int v9)]) rfl ?_
          refine k_iload C 0 (pc := 264) dL_law_264 rfl ?_
          refine k_aload C 8 (pc := 266) dL_law_266 rfl ?_
          obtain ⟨x29, hx29, H⟩ := H
          obtain ⟨a29, ha29, H⟩ := H
          refine l_getB C hR (pc := 268) hx29 5 (Nat.lt_of_lt_of_le (Nat.lt_succ_self _) (Nat.le_of_ble_eq_true rfl)) (ref := "WidowWatchLaw$Book") tW_2_73 rfl (v := .ref a29) (by show some (va_rf x29.2.2.2.2.2.1) = _; rw [ha29]; rfl) dL_law_268 ?_
          obtain ⟨n30, f30, hx_, H⟩ := H
          refine l_alenQ C hR (pc := 271) (Or.inl rfl) hx_ dL_law_271 ?_
          refine k_icmp_ge C (pc := 272) (tgt := 279) dL_law_272 (by decide) (fun c_272 => ?_) (fun c_272 => ?_)
          · have H := H.1 c_272
            refine k_iconst C (pc := 279) (v := (0 : Int32)) dL_law_279 rfl ?_
            refine k_lv (pc := 280) [3, 4, 5, 6, 7, 8, 9, 10, 11, 2, 0] (lv' := [(0, .ref b), (1, .int v1), (2, .int (0 : Int32)), (3, .ref (h 0)), (5, .ref v5), (6, .ref v6), (7, .ref v7), (8, .int v8), (9, .int v9), (10, .ref r21), (12, .int r27)]) rfl ?_
            exact B280 (wpL_law_L228 cB Post  nn228) ih228 _ _ S mu28 (u + q22) v1 v5 v6 v7 v8 v9 r21 r27 (0 : Int32) hI hR H
          · have H := H.2 c_272
            refine k_iconst C (pc := 275) (v := (1 : Int32)) dL_law_275 rfl ?_
            refine k_goto C (pc := 276) (tgt := 280) dL_law_276 (by decide) ?_
            refine k_lv (pc := 280) [3, 4, 5, 6, 7, 8, 9, 10, 11, 2, 0] (lv' := [(0, .ref b), (1, .int v1), (2, .int (0 : Int32)), (3, .ref (h 0)), (5, .ref v5), (6, .ref v6), (7, .ref v7), (8, .int v8), (9, .int v9), (10, .ref r21), (12, .int r27)]) rfl ?_
            exact B280 (wpL_law_L228 cB Post  nn228) ih228 _ _ S mu28 (u + q22) v1 v5 v6 v7 v8 v9 r21 r27 (1 : Int32) hI hR H
  have B214 : ∀  (ws w : va_W) (S : ivS) (mu : Mu) (u : Nat) (v5 : Nat) (v6 : Nat) (s0 : Int32), ivI cA h ab ac ar S false w → LR cA w ws mu → wpL_law_b214 cB Post  S mu u v5 v6 s0 → Kf p l e room_1 s m #[Value.ref b] below meth c D (fun q => s.heap.size ≤ q) 28 u (16 * u) Q ws 214 [(0, .ref b), (2, .int (0 : Int32)), (3, .ref (h 0)), (5, .ref v5), (6, .ref v6)] [.int s0] := by
    intro  ws w S mu u v5 v6 s0 hI hR H
    have H : ∃ n8, (9 : Int32) = nI n8 ∧ n8 ≤ 1000 ∧ u + (1 + n8 / 16) ≤ cB ∧ ∀ a8, frM mu a8 → ∀ mu9, mu9 = sQ mu a8 (3, n8, fun _ => none) → ∃ m_, wpL_law_L228 cB Post  m_ S mu9 (u + (1 + n8 / 16)) s0 v5 v6 a8 (0 : Int32) (0 : Int32) := H
    refine k_istore_n C (pc := 214) dL_law_214 rfl (Nat.lt_of_lt_of_le (Nat.lt_succ_self _) (Nat.le_of_ble_eq_true rfl)) (lv' := [(1, .int s0), (0, .ref b), (2, .int (0 : Int32)), (3, .ref (h 0)), (5, .ref v5), (6, .ref v6)]) rfl ?_
    refine k_bipush C (pc := 215) (v := (9 : Int32)) dL_law_215 (by decide) ?_
    obtain ⟨n8, hk_, hn_, hc_, H⟩ := H
    refine k_eq (pc := 217) (st' := [.int (nI n8)]) rfl rfl (by rw [hk_]) ?_
    refine l_newQ3 C hR hF (u := u) (pc := 217) tW_2_54 hn_ (Nat.le_trans hc_ hRm.1) (Nat.le_trans (Nat.mul_le_mul_left 16 hc_) hRm.2) dL_law_217 (fun a8 w1 hf_ hR => ?_)
    have H := H a8 hf_
    obtain ⟨mu9, hm9⟩ : ∃ m_, m_ = sQ mu a8 (3, n8, fun _ => none) := ⟨_, rfl⟩
    rw [← hm9] at hR
    have H := H mu9 hm9
    refine k_astore C (pc := 220) dL_law_220 (Nat.lt_of_lt_of_le (Nat.lt_succ_self _) (Nat.le_of_ble_eq_true rfl)) (lv' := [(7, .ref a8), (1, .int s0), (0, .ref b), (2, .int (0 : Int32)), (3, .ref (h 0)), (5, .ref v5), (6, .ref v6)]) rfl ?_
    refine k_iconst C (pc := 222) (v := (0 : Int32)) dL_law_222 rfl ?_
    refine k_istore C (pc := 223) dL_law_223 (Nat.lt_of_lt_of_le (Nat.lt_succ_self _) (Nat.le_of_ble_eq_true rfl)) (lv' := [(8, .int (0 : Int32)), (7, .ref a8), (1, .int s0), (0, .ref b), (2, .int (0 : Int32)), (3, .ref (h 0)), (5, .ref v5), (6, .ref v6)]) rfl ?_
    refine k_iconst C (pc := 225) (v := (0 : Int32)) dL_law_225 rfl ?_
    refine k_istore C (pc := 226) dL_law_226 (Nat.lt_of_lt_of_le (Nat.lt_succ_self _) (Nat.le_of_ble_eq_true rfl)) (lv' := [(9, .int (0 : Int32)), (8, .int (0 : Int32)), (7, .ref a8), (1, .int s0), (0, .ref b), (2, .int (0 : Int32)), (3, .ref (h 0)), (5, .ref v5), (6, .ref v6)]) rfl ?_
    obtain ⟨n_, H⟩ := H
    refine k_lv (pc := 228) [4, 3, 5, 6, 7, 8, 2, 1, 0] (lv' := [(0, .ref b), (1, .int s0), (2, .int (0 : Int32)), (3, .ref (h 0)), (5, .ref v5), (6, .ref v6), (7, .ref a8), (8, .int (0 : Int32)), (9, .int (0 : Int32))]) rfl ?_
    exact B228  n_ _ _ S mu9 (u + (1 + n8 / 16)) s0 v5 v6 a8 (0 : Int32) (0 : Int32) hI hR H
  have B213 : ∀  (ws w : va_W) (S : ivS) (mu : Mu) (u : Nat) (v5 : Nat) (v6 : Nat), ivI cA h ab ac ar S false w → LR cA w ws mu → wpL_law_b213 cB Post  S mu u v5 v6 → Kf p l e room_1 s m #[Value.ref b] below meth c D (fun q => s.heap.size ≤ q) 28 u (16 * u) Q ws 213 [(0, .ref b), (2, .int (0 : Int32)), (3, .ref (h 0)), (5, .ref v5), (6, .ref v6)] [] := by
    intro  ws w S mu u v5 v6 hI hR H
    have H : wpL_law_b214 cB Post  S mu u v5 v6 (0 : Int32) := H
    refine k_iconst C (pc := 213) (v := (0 : Int32)) dL_law_213 rfl ?_
    refine k_lv (pc := 214) [0, 1, 2, 3, 4] (lv' := [(0, .ref b), (2, .int (0 : Int32)), (3, .ref (h 0)), (5, .ref v5), (6, .ref v6)]) rfl ?_
    exact B214  _ _ S mu u v5 v6 (0 : Int32) hI hR H
  have B178 : ∀  (ws w : va_W) (S : ivS) (mu : Mu) (u : Nat) (v4 : Nat) (v5 : Nat) (s0 : Int32), ivI cA h ab ac ar S false w → LR cA w ws mu → wpL_law_b178 cB Post  S mu u v4 v5 s0 → Kf p l e room_1 s m #[Value.ref b] below meth c D (fun q => s.heap.size ≤ q) 28 u (16 * u) Q ws 178 [(0, .ref b), (2, .int (0 : Int32)), (3, .ref (h 0)), (4, .ref v4), (5, .ref v5)] [.int s0] := by
    intro  ws w S mu u v4 v5 s0 hI hR H
    have H : ∃ q7, u + q7 ≤ cB ∧ wpL_randomBook q7 S mu v4 v5 (fun r7 S7 mu7 => (s0 = 0 → wpL_law_b213 cB Post  S7 mu7 (u + q7) v5 r7) ∧ (¬ s0 = 0 → ∃ q156, (u + q7) + q156 ≤ cB ∧ wpL_agrees q156 S7 mu7 r7 (fun r156 S156 mu156 => (r156 = 0 → wpL_law_b213 cB Post  S156 mu156 ((u + q7) + q156) v5 r7) ∧ (¬ r156 = 0 → wpL_law_b214 cB Post  S156 mu156 ((u + q7) + q156) v5 r7 (1 : Int32))))) := H
    refine k_istore_n C (pc := 178) dL_law_178 rfl (Nat.lt_of_lt_of_le (Nat.lt_succ_self _) (Nat.le_of_ble_eq_true rfl)) (lv' := [(1, .int s0), (0, .ref b), (2, .int (0 : Int32)), (3, .ref (h 0)), (4, .ref v4), (5, .ref v5)]) rfl ?_
    refine k_aload_n C 3 (pc := 179) dL_law_179 rfl rfl ?_
    refine k_aload C 4 (pc := 180) dL_law_180 rfl ?_
    refine k_aload C 5 (pc := 182) dL_law_182 rfl ?_
    obtain ⟨q7, hc_, H⟩ := H
    refine k_callAr C (pc := 184) (kw_runS C hE hF (As := [.ref (h 0), .ref v4, .ref v5]) (rest := []) (conL_randomBook l D cA h ab ac ar hst q7 S mu v4 v5 _  H hI hR) ⟨k_cwB C tW_5_27 tW_5_25 tW_1_0 okL_randomBook rfl rfl ⟨Nat.le_of_ble_eq_true rfl, Nat.le_of_ble_eq_true rfl⟩, C.w tW_5_26⟩ rfl rfl (Nat.le_of_ble_eq_true rfl) dL_law_184 (kw_rm hc_ (Nat.le_refl _) hRm)) (fun r7 w1 hw_ => ?_)
    obtain ⟨w_, S7, mu7, hI, hR, H⟩ := hw_
    refine k_sl ?_
    refine k_astore C (pc := 187) dL_law_187 (Nat.lt_of_lt_of_le (Nat.lt_succ_self _) (Nat.le_of_ble_eq_true rfl)) (lv' := [(6, .ref r7), (1, .int s0), (0, .ref b), (2, .int (0 : Int32)), (3, .ref (h 0)), (4, .ref v4), (5, .ref v5)]) rfl ?_
    refine k_aload C 0 (pc := 189) dL_law_189 rfl ?_
    refine l_ifnonnullK C (pc := 191) (tgt := 196) dL_law_191 (by decide) ?_
    refine k_iload_n C 1 (pc := 196) dL_law_196 rfl rfl ?_
    refine k_if_eq C (pc := 197) (tgt := 213) dL_law_197 (by decide) (fun c_197 => ?_) (fun c_197 => ?_)
    · have H := H.1 c_197
      refine k_lv (pc := 213) [2, 3, 4, 6, 0] (lv' := [(0, .ref b), (2, .int (0 : Int32)), (3, .ref (h 0)), (5, .ref v5), (6, .ref r7)]) rfl ?_
      exact B213  _ _ S7 mu7 (u + q7) v5 r7 hI hR H
    · have H := H.2 c_197
      refine k_aload_n C 4 (pc := 200) dL_law_200 rfl rfl ?_
      refine k_aload C 0 (pc := 201) dL_law_201 rfl ?_
      obtain ⟨q156, hc_, H⟩ := H
      refine k_callAi C (pc := 203) (kw_runS C hE hF (As := [.ref (h 0), .ref r7]) (rest := []) (conL_agrees l D cA h ab ac ar hst q156 S7 mu7 r7 _  H hI hR) ⟨k_cwB C tW_6_44 tW_6_42 tW_1_0 okL_agrees rfl rfl ⟨Nat.le_of_ble_eq_true rfl, Nat.le_of_ble_eq_true rfl⟩, C.w tW_6_43⟩ rfl rfl (Nat.le_of_ble_eq_true rfl) dL_law_203 (kw_rm hc_ (Nat.le_refl _) hRm)) (fun r156 w1 hw_ => ?_)
      obtain ⟨w_, S156, mu156, hI, hR, H⟩ := hw_
      refine k_sl ?_
      refine k_if_eq C (pc := 206) (tgt := 213) dL_law_206 (by decide) (fun c_206 => ?_) (fun c_206 => ?_)
      · have H := H.1 c_206
        refine k_lv (pc := 213) [2, 3, 4, 6, 0] (lv' := [(0, .ref b), (2, .int (0 : Int32)), (3, .ref (h 0)), (5, .ref v5), (6, .ref r7)]) rfl ?_
        exact B213  _ _ S156 mu156 ((u + q7) + q156) v5 r7 hI hR H
      · have H := H.2 c_206
        refine k_iconst C (pc := 209) (v := (1 : Int32)) dL_law_209 rfl ?_
        refine k_goto C (pc := 210) (tgt := 214) dL_law_210 (by decide) ?_
        refine k_lv (pc := 214) [2, 3, 4, 6, 0] (lv' := [(0, .ref b), (2, .int (0 : Int32)), (3, .ref (h 0)), (5, .ref v5), (6, .ref r7)]) rfl ?_
        exact B214  _ _ S156 mu156 ((u + q7) + q156) v5 r7 (1 : Int32) hI hR H
  have B177 : ∀  (ws w : va_W) (S : ivS) (mu : Mu) (u : Nat) (v4 : Nat) (v5 : Nat), ivI cA h ab ac ar S false w → LR cA w ws mu → wpL_law_b177 cB Post  S mu u v4 v5 → Kf p l e room_1 s m #[Value.ref b] below meth c D (fun q => s.heap.size ≤ q) 28 u (16 * u) Q ws 177 [(0, .ref b), (2, .int (0 : Int32)), (3, .ref (h 0)), (4, .ref v4), (5, .ref v5)] [] := by
    intro  ws w S mu u v4 v5 hI hR H
    have H : wpL_law_b178 cB Post  S mu u v4 v5 (0 : Int32) := H
    refine k_iconst C (pc := 177) (v := (0 : Int32)) dL_law_177 rfl ?_
    refine k_lv (pc := 178) [0, 1, 2, 3, 4] (lv' := [(0, .ref b), (2, .int (0 : Int32)), (3, .ref (h 0)), (4, .ref v4), (5, .ref v5)]) rfl ?_
    exact B178  _ _ S mu u v4 v5 (0 : Int32) hI hR H
  have H : u0 + 1 ≤ cB ∧ ∀ a1, frM mu a1 → ∀ mu2, mu2 = sB mu a1 (0, 0, 0, 0, none, none, none, none, none, 0) → ∃ q4, (u0 + 1) + q4 ≤ cB ∧ wpX7_init q4 mu2 a1 (fun mu5 => ∃ q6, ((u0 + 1) + q4) + q6 ≤ cB ∧ wpL_agrees q6 S mu5 a1 (fun r6 S6 mu6 => (r6 = 0 → wpL_law_b177 cB Post  S6 mu6 (((u0 + 1) + q4) + q6) v4 v5) ∧ (¬ r6 = 0 → (((u0 + 1) + q4) + q6) ≤ cB ∧ ∀ S157, S157 = (rOk S6 S6.2.2.2.2.2).2.2.2 → ∀ r157, r157 = (rOk S6 S6.2.2.2.2.2).2.1 → (¬ r157 = (-1 : Int32) → wpL_law_b177 cB Post  S157 mu6 (((u0 + 1) + q4) + q6) v4 v5) ∧ (r157 = (-1 : Int32) → (((u0 + 1) + q4) + q6) ≤ cB ∧ ∀ S158, S158 = (s_undo S157).2.2.2 → ∀ r158, r158 = (s_undo S157).2.1 → (¬ r158 = (-1 : Int32) → wpL_law_b177 cB Post  S158 mu6 (((u0 + 1) + q4) + q6) v4 v5) ∧ (r158 = (-1 : Int32) → (((u0 + 1) + q4) + q6) + 2 ≤ cB ∧ ∀ S159, S159 = (s_fix S158 (0 : Int32) (0 : Int32)).2.2.2 → ∀ r159, r159 = an2 (s_fix S158 (0 : Int32) (0 : Int32)) (-2000000097) (-2000000098) → (¬ r159 = (-2000000097 : Int32) → wpL_law_b177 cB Post  S159 mu6 ((((u0 + 1) + q4) + q6) + 2) v4 v5) ∧ (r159 = (-2000000097 : Int32) → ((((u0 + 1) + q4) + q6) + 2) + 1 ≤ cB ∧ ∀ S160, S160 = (s_insert S159 (1 : Int32) (1 : Int32) (1 : Int32)).2.2.2 → ∀ r160, r160 = an2 (s_insert S159 (1 : Int32) (1 : Int32) (1 : Int32)) (-2000000098) (-2000000099) → (¬ r160 = (-2000000098 : Int32) → wpL_law_b177 cB Post  S160 mu6 (((((u0 + 1) + q4) + q6) + 2) + 1) v4 v5) ∧ (r160 = (-2000000098 : Int32) → (((((u0 + 1) + q4) + q6) + 2) + 1) + 1 ≤ cB ∧ ∀ S161, S161 = (s_insert S160 (0 : Int32) (1 : Int32) (37 : Int32)).2.2.2 → ∀ r161, r161 = an2 (s_insert S160 (0 : Int32) (1 : Int32) (37 : Int32)) (-2000000098) (-2000000099) → (¬ r161 = (-2000000098 : Int32) → wpL_law_b177 cB Post  S161 mu6 ((((((u0 + 1) + q4) + q6) + 2) + 1) + 1) v4 v5) ∧ (r161 = (-2000000098 : Int32) → ((((((u0 + 1) + q4) + q6) + 2) + 1) + 1) + 1 ≤ cB ∧ ∀ S162, S162 = (s_remove S161 (0 : Int32)).2.2.2 → ∀ r162, r162 = an1 (s_remove S161 (0 : Int32)) (-2000000097) → (¬ r162 = (-2000000097 : Int32) → wpL_law_b177 cB Post  S162 mu6 (((((((u0 + 1) + q4) + q6) + 2) + 1) + 1) + 1) v4 v5) ∧ (r162 = (-2000000097 : Int32) → (((((((u0 + 1) + q4) + q6) + 2) + 1) + 1) + 1) + 1 ≤ cB ∧ ∀ S163, S163 = (s_setCost S162 (6 : Int32) (0 : Int32)).2.2.2 → ∀ r163, r163 = an1 (s_setCost S162 (6 : Int32) (0 : Int32)) (-2000000098) → (¬ r163 = (-2000000098 : Int32) → wpL_law_b177 cB Post  S163 mu6 ((((((((u0 + 1) + q4) + q6) + 2) + 1) + 1) + 1) + 1) v4 v5) ∧ (r163 = (-2000000098 : Int32) → ((((((((u0 + 1) + q4) + q6) + 2) + 1) + 1) + 1) + 1) + 1 ≤ cB ∧ ∀ S164, S164 = (s_help S163 (0 : Int32)).2.2.2 → ∀ r164, r164 = an1 (s_help S163 (0 : Int32)) (-2000000097) → (¬ r164 = (-2000000097 : Int32) → wpL_law_b177 cB Post  S164 mu6 (((((((((u0 + 1) + q4) + q6) + 2) + 1) + 1) + 1) + 1) + 1) v4 v5) ∧ (r164 = (-2000000097 : Int32) → (((((((((u0 + 1) + q4) + q6) + 2) + 1) + 1) + 1) + 1) + 1) + 1 ≤ cB ∧ ∀ S165, S165 = (s_insert S164 (0 : Int32) (2 : Int32) (18 : Int32)).2.2.2 → ∀ r165, r165 = an2 (s_insert S164 (0 : Int32) (2 : Int32) (18 : Int32)) (-2000000098) (-2000000099) → (¬ r165 = (1 : Int32) → wpL_law_b177 cB Post  S165 mu6 ((((((((((u0 + 1) + q4) + q6) + 2) + 1) + 1) + 1) + 1) + 1) + 1) v4 v5) ∧ (r165 = (1 : Int32) → ((((((((((u0 + 1) + q4) + q6) + 2) + 1) + 1) + 1) + 1) + 1) + 1) + 1 ≤ cB ∧ ∀ S166, S166 = (s_plan S165 true (6 : Int32)).2.2.2 → ∀ r166, r166 = an1 (s_plan S165 true (6 : Int32)) (-2000000098) → (¬ r166 = (1 : Int32) → wpL_law_b177 cB Post  S166 mu6 (((((((((((u0 + 1) + q4) + q6) + 2) + 1) + 1) + 1) + 1) + 1) + 1) + 1) v4 v5) ∧ (r166 = (1 : Int32) → (((((((((((u0 + 1) + q4) + q6) + 2) + 1) + 1) + 1) + 1) + 1) + 1) + 1) ≤ cB ∧ ∀ S167, S167 = (s_undo S166).2.2.2 → ∀ r167, r167 = (s_undo S166).2.1 → (¬ r167 = 0 → wpL_law_b177 cB Post  S167 mu6 (((((((((((u0 + 1) + q4) + q6) + 2) + 1) + 1) + 1) + 1) + 1) + 1) + 1) v4 v5) ∧ (r167 = 0 → wpL_law_b178 cB Post  S167 mu6 (((((((((((u0 + 1) + q4) + q6) + 2) + 1) + 1) + 1) + 1) + 1) + 1) + 1) v4 v5 (1 : Int32))))))))))))))) := H
  refine k_aload_n C 2 (pc := 45) dL_law_45 rfl rfl ?_
  obtain ⟨hc_, H⟩ := H
  refine l_newB C hR (u := u0) (pc := 46) tW_2_54 tW_2_55 tW_1_9 (Nat.le_trans hc_ hRm.1) (Nat.le_trans (Nat.mul_le_mul_left 16 hc_) hRm.2) dL_law_46 (fun a1 w1 hf_ hR => ?_)
  have H := H a1 hf_
  obtain ⟨mu2, hm2⟩ : ∃ m_, m_ = sB mu a1 (0, 0, 0, 0, none, none, none, none, none, 0) := ⟨_, rfl⟩
  rw [← hm2] at hR
  have H := H mu2 hm2
  refine k_dup C (pc := 49) dL_law_49 rfl ?_
  obtain ⟨q4, hc_, H⟩ := H
  refine k_callAv C (pc := 50) (l_runIN C hF (As := []) (rest := [.ref a1, .ref (h 0)]) (conX7_init l D cA q4 mu2 a1 _  H hR) ⟨k_cwN C tW_2_58 (k_n14 C) tW_1_9 okX7_init rfl rfl ⟨Nat.le_of_ble_eq_true rfl, Nat.le_of_ble_eq_true rfl⟩, rfl, C.w tW_2_57⟩ rfl rfl (Nat.le_of_ble_eq_true rfl) dL_law_50 (kw_rm hc_ (Nat.le_refl _) hRm)) (fun w1 hw_ => ?_)
  obtain ⟨mu5, hR, H⟩ := hw_
  refine k_sl ?_
  obtain ⟨q6, hc_, H⟩ := H
  refine k_callAi C (pc := 53) (kw_runS C hE hF (As := [.ref (h 0), .ref a1]) (rest := []) (conL_agrees l D cA h ab ac ar hst q6 S mu5 a1 _  H hI hR) ⟨k_cwB C tW_6_44 tW_6_42 tW_1_0 okL_agrees rfl rfl ⟨Nat.le_of_ble_eq_true rfl, Nat.le_of_ble_eq_true rfl⟩, C.w tW_6_43⟩ rfl rfl (Nat.le_of_ble_eq_true rfl) dL_law_53 (kw_rm hc_ (Nat.le_refl _) hRm)) (fun r6 w1 hw_ => ?_)
  obtain ⟨w_, S6, mu6, hI, hR, H⟩ := hw_
  refine k_sl ?_
  refine k_if_eq C (pc := 56) (tgt := 177) dL_law_56 (by decide) (fun c_56 => ?_) (fun c_56 => ?_)
  · have H := H.1 c_56
    refine k_lv (pc := 177) [5, 3, 2, 1, 0] (lv' := [(0, .ref b), (2, .int (0 : Int32)), (3, .ref (h 0)), (4, .ref v4), (5, .ref v5)]) rfl ?_
    exact B177  _ _ S6 mu6 (((u0 + 1) + q4) + q6) v4 v5 hI hR H
  · have H := H.2 c_56
    refine k_aload_n C 2 (pc := 59) dL_law_59 rfl rfl ?_
    obtain ⟨hc_, H⟩ := H
    obtain ⟨l0_, e0_, hl_⟩ := hR
    obtain ⟨fs_, t_, hw_⟩ := hI.hd
    refine k_eq (pc := 60) e0_ rfl rfl ?_
    refine k_onL C (pc := 60) (k_runV C (As := []) (rest := []) (ci := 6) (q0 := 0) (xi_errorOffset l D cA h ab ac ar hI) ⟨k_cwB C tW_2_7 tW_2_4 tW_1_1 okX6_errorOffset rfl rfl ⟨Nat.le_of_ble_eq_true rfl, Nat.le_of_ble_eq_true rfl⟩, C.w tW_2_5, C.w tW_2_6⟩ (by rw [hw_]; rfl) rfl rfl rfl rfl (Nat.le_of_ble_eq_true rfl) dL_law_60 (kw_rm (k := 0) hc_ (by decide) hRm)) (fun v_ w1 hv_ => ?_)
    obtain ⟨r157, rfl, -, hr1_, hI⟩ := hv_
    have hI := hI.weak
    obtain ⟨S157, hS1_⟩ : ∃ m_, m_ = (rOk S6 S6.2.2.2.2.2).2.2.2 := ⟨_, rfl⟩
    rw [← hS1_] at hI
    have H := H S157 hS1_ r157 hr1_
    have hR : LR cA w1 (w1 ++ l0_) mu6 := ⟨l0_, rfl, hl_⟩
    refine k_eq (pc := 63) (st' := [.int r157]) rfl rfl rfl ?_
    refine k_widen (k := ((u0 + 1) + q4) + q6) (n := 16 * (((u0 + 1) + q4) + q6)) (Nat.le_refl _) (Nat.le_refl _) ?_
    refine k_iconst C (pc := 63) (v := (-1 : Int32)) dL_law_63 rfl ?_
    refine k_icmp_ne C (pc := 64) (tgt := 177) dL_law_64 (by decide) (fun c_64 => ?_) (fun c_64 => ?_)
    · have H := H.1 c_64
      refine k_lv (pc := 177) [5, 3, 2, 1, 0] (lv' := [(0, .ref b), (2, .int (0 : Int32)), (3, .ref (h 0)), (4, .ref v4), (5, .ref v5)]) rfl ?_
      exact B177  _ _ S157 mu6 (((u0 + 1) + q4) + q6) v4 v5 hI hR H
    · have H := H.2 c_64
      refine k_aload_n C 2 (pc := 67) dL_law_67 rfl rfl ?_
      obtain ⟨hc_, H⟩ := H
      obtain ⟨l0_, e0_, hl_⟩ := hR
      obtain ⟨fs_, t_, hw_⟩ := hI.hd
      refine k_eq (pc := 68) e0_ rfl rfl ?_
      refine k_onL C (pc := 68) (k_runV C (As := []) (rest := []) (ci := 6) (q0 := 0) (xi_undo l D cA h ab ac ar hI) ⟨k_cwB C tW_2_11 tW_2_8 tW_1_1 okX6_undo rfl rfl ⟨Nat.le_of_ble_eq_true rfl, Nat.le_of_ble_eq_true rfl⟩, C.w tW_2_9, C.w tW_2_10⟩ (by rw [hw_]; rfl) rfl rfl rfl rfl (Nat.le_of_ble_eq_true rfl) dL_law_68 (kw_rm (k := 0) hc_ (by decide) hRm)) (fun v_ w1 hv_ => ?_)
      obtain ⟨r158, rfl, -, hr1_, hI⟩ := hv_
      have hI := hI.weak
      obtain ⟨S158, hS1_⟩ : ∃ m_, m_ = (s_undo S157).2.2.2 := ⟨_, rfl⟩
      rw [← hS1_] at hI
      have H := H S158 hS1_ r158 hr1_
      have hR : LR cA w1 (w1 ++ l0_) mu6 := ⟨l0_, rfl, hl_⟩
      refine k_eq (pc := 71) (st' := [.int r158]) rfl rfl rfl ?_
      refine k_widen (k := ((u0 + 1) + q4) + q6) (n := 16 * (((u0 + 1) + q4) + q6)) (Nat.le_refl _) (Nat.le_refl _) ?_
      refine k_iconst C (pc := 71) (v := (-1 : Int32)) dL_law_71 rfl ?_
      refine k_icmp_ne C (pc := 72) (tgt := 177) dL_law_72 (by decide) (fun c_72 => ?_) (fun c_72 => ?_)
      · have H := H.1 c_72
        refine k_lv (pc := 177) [5, 3, 2, 1, 0] (lv' := [(0, .ref b), (2, .int (0 : Int32)), (3, .ref (h 0)), (4, .ref v4), (5, .ref v5)]) rfl ?_
        exact B177  _ _ S158 mu6 (((u0 + 1) + q4) + q6) v4 v5 hI hR H
      · have H := H.2 c_72
        refine k_aload_n C 2 (pc := 75) dL_law_75 rfl rfl ?_
        refine k_iconst C (pc := 76) (v := (0 : Int32)) dL_law_76 rfl ?_
        refine k_iconst C (pc := 77) (v := (0 : Int32)) dL_law_77 rfl ?_
        obtain ⟨hc_, H⟩ := H
        refine ky_callA C (pc := 78) (ky_runS C hE (As := [.ref (h 0), .int (0 : Int32), .int (0 : Int32)]) (rest := []) (wl_fix l D cA h ab ac ar hst (0 : Int32) (0 : Int32) hI hR) (ky_cw C tYL_fix tW_4_179 tW_1_0 tW_4_180 okL_fix rfl rfl ⟨Nat.le_of_ble_eq_true rfl, Nat.le_of_ble_eq_true rfl⟩) rfl rfl (Nat.le_of_ble_eq_true rfl) dL_law_78 (kw_rm hc_ (by decide) hRm)) (fun v_ w1 hv_ => ?_)
        obtain ⟨r159, rfl, w_, hI, hR, hr1_⟩ := hv_
        have hI := hI.weak
        obtain ⟨S159, hS1_⟩ : ∃ m_, m_ = (s_fix S158 (0 : Int32) (0 : Int32)).2.2.2 := ⟨_, rfl⟩
        rw [← hS1_] at hI
        have H := H S159 hS1_ r159 hr1_
        refine k_eq (pc := 81) (st' := .int r159 :: []) rfl rfl rfl ?_
        refine k_widen (k := (((u0 + 1) + q4) + q6) + 2) (n := 16 * ((((u0 + 1) + q4) + q6) + 2)) (Nat.le_refl _) (by omega) ?_
        refine k_ldc C (pc := 81) (v := (-2000000097 : Int32)) tW_3_203 dL_law_81 ?_
        refine k_icmp_ne C (pc := 83) (tgt := 177) dL_law_83 (by decide) (fun c_83 => ?_) (fun c_83 => ?_)
        · have H := H.1 c_83
          refine k_lv (pc := 177) [5, 3, 2, 1, 0] (lv' := [(0, .ref b), (2, .int (0 : Int32)), (3, .ref (h 0)), (4, .ref v4), (5, .ref v5)]) rfl ?_
          exact B177  _ _ S159 mu6 ((((u0 + 1) + q4) + q6) + 2) v4 v5 hI hR H
        · have H := H.2 c_83
          refine k_aload_n C 2 (pc := 86) dL_law_86 rfl rfl ?_
          refine k_iconst C (pc := 87) (v := (1 : Int32)) dL_law_87 rfl ?_
          refine k_iconst C (pc := 88) (v := (1 : Int32)) dL_law_88 rfl ?_
          refine k_iconst C (pc := 89) (v := (1 : Int32)) dL_law_89 rfl ?_
          obtain ⟨hc_, H⟩ := H
          refine ky_callA C (pc := 90) (ky_runS C hE (As := [.ref (h 0), .int (1 : Int32), .int (1 : Int32), .int (1 : Int32)]) (rest := []) (wl_insert l D cA h ab ac ar hst (1 : Int32) (1 : Int32) (1 : Int32) hI hR) (ky_cw C tYL_insert tW_4_196 tW_1_0 tW_4_197 okL_insert rfl rfl ⟨Nat.le_of_ble_eq_true rfl, Nat.le_of_ble_eq_true rfl⟩) rfl rfl (Nat.le_of_ble_eq_true rfl) dL_law_90 (kw_rm hc_ (by decide) hRm)) (fun v_ w1 hv_ => ?_)
          obtain ⟨r160, rfl, w_, hI, hR, hr1_⟩ := hv_
          have hI := hI.weak
          obtain ⟨S160, hS1_⟩ : ∃ m_, m_ = (s_insert S159 (1 : Int32) (1 : Int32) (1 : Int32)).2.2.2 := ⟨_, rfl⟩
          rw [← hS1_] at hI
          have H := H S160 hS1_ r160 hr1_
          refine k_eq (pc := 93) (st' := .int r160 :: []) rfl rfl rfl ?_
          refine k_widen (k := ((((u0 + 1) + q4) + q6) + 2) + 1) (n := 16 * (((((u0 + 1) + q4) + q6) + 2) + 1)) (Nat.le_refl _) (by omega) ?_
          refine k_ldc C (pc := 93) (v := (-2000000098 : Int32)) tW_3_155 dL_law_93 ?_
          refine k_icmp_ne C (pc := 95) (tgt := 177) dL_law_95 (by decide) (fun c_95 => ?_) (fun c_95 => ?_)
          · have H := H.1 c_95
            refine k_lv (pc := 177) [5, 3, 2, 1, 0] (lv' := [(0, .ref b), (2, .int (0 : Int32)), (3, .ref (h 0)), (4, .ref v4), (5, .ref v5)]) rfl ?_
            exact B177  _ _ S160 mu6 (((((u0 + 1) + q4) + q6) + 2) + 1) v4 v5 hI hR H
          · have H := H.2 c_95
            refine k_aload_n C 2 (pc := 98) dL_law_98 rfl rfl ?_
            refine k_iconst C (pc := 99) (v := (0 : Int32)) dL_law_99 rfl ?_
            refine k_iconst C (pc := 100) (v := (1 : Int32)) dL_law_100 rfl ?_
            refine k_bipush C (pc := 101) (v := (37 : Int32)) dL_law_101 (by decide) ?_
            obtain ⟨hc_, H⟩ := H
            refine ky_callA C (pc := 103) (ky_runS C hE (As := [.ref (h 0), .int (0 : Int32), .int (1 : Int32), .int (37 : Int32)]) (rest := []) (wl_insert l D cA h ab ac ar hst (0 : Int32) (1 : Int32) (37 : Int32) hI hR) (ky_cw C tYL_insert tW_4_196 tW_1_0 tW_4_197 okL_insert rfl rfl ⟨Nat.le_of_ble_eq_true rfl, Nat.le_of_ble_eq_true rfl⟩) rfl rfl (Nat.le_of_ble_eq_true rfl) dL_law_103 (kw_rm hc_ (by decide) hRm)) (fun v_ w1 hv_ => ?_)
            obtain ⟨r161, rfl, w_, hI, hR, hr1_⟩ := hv_
            have hI := hI.weak
            obtain ⟨S161, hS1_⟩ : ∃ m_, m_ = (s_insert S160 (0 : Int32) (1 : Int32) (37 : Int32)).2.2.2 := ⟨_, rfl⟩
            rw [← hS1_] at hI
            have H := H S161 hS1_ r161 hr1_
            refine k_eq (pc := 106) (st' := .int r161 :: []) rfl rfl rfl ?_
            refine k_widen (k := (((((u0 + 1) + q4) + q6) + 2) + 1) + 1) (n := 16 * ((((((u0 + 1) + q4) + q6) + 2) + 1) + 1)) (Nat.le_refl _) (by omega) ?_
            refine k_ldc C (pc := 106) (v := (-2000000098 : Int32)) tW_3_155 dL_law_106 ?_
            refine k_icmp_ne C (pc := 108) (tgt := 177) dL_law_108 (by decide) (fun c_108 => ?_) (fun c_108 => ?_)
            · have H := H.1 c_108
              refine k_lv (pc := 177) [5, 3, 2, 1, 0] (lv' := [(0, .ref b), (2, .int (0 : Int32)), (3, .ref (h 0)), (4, .ref v4), (5, .ref v5)]) rfl ?_
              exact B177  _ _ S161 mu6 ((((((u0 + 1) + q4) + q6) + 2) + 1) + 1) v4 v5 hI hR H
            · have H := H.2 c_108
              refine k_aload_n C 2 (pc := 111) dL_law_111 rfl rfl ?_
              refine k_iconst C (pc := 112) (v := (0 : Int32)) dL_law_112 rfl ?_
              obtain ⟨hc_, H⟩ := H
              refine ky_callA C (pc := 113) (ky_runS C hE (As := [.ref (h 0), .int (0 : Int32)]) (rest := []) (wl_remove l D cA h ab ac ar hst (0 : Int32) hI hR) (ky_cw C tYL_remove tW_4_225 tW_1_0 tW_4_226 okL_remove rfl rfl ⟨Nat.le_of_ble_eq_true rfl, Nat.le_of_ble_eq_true rfl⟩) rfl rfl (Nat.le_of_ble_eq_true rfl) dL_law_113 (kw_rm hc_ (by decide) hRm)) (fun v_ w1 hv_ => ?_)
              obtain ⟨r162, rfl, w_, hI, hR, hr1_⟩ := hv_
              have hI := hI.weak
              obtain ⟨S162, hS1_⟩ : ∃ m_, m_ = (s_remove S161 (0 : Int32)).2.2.2 := ⟨_, rfl⟩
              rw [← hS1_] at hI
              have H := H S162 hS1_ r162 hr1_
              refine k_eq (pc := 116) (st' := .int r162 :: []) rfl rfl rfl ?_
              refine k_widen (k := ((((((u0 + 1) + q4) + q6) + 2) + 1) + 1) + 1) (n := 16 * (((((((u0 + 1) + q4) + q6) + 2) + 1) + 1) + 1)) (Nat.le_refl _) (by omega) ?_
              refine k_ldc C (pc := 116) (v := (-2000000097 : Int32)) tW_3_203 dL_law_116 ?_
              refine k_icmp_ne C (pc := 118) (tgt := 177) dL_law_118 (by decide) (fun c_118 => ?_) (fun c_118 => ?_)
              · have H := H.1 c_118
                refine k_lv (pc := 177) [5, 3, 2, 1, 0] (lv' := [(0, .ref b), (2, .int (0 : Int32)), (3, .ref (h 0)), (4, .ref v4), (5, .ref v5)]) rfl ?_
                exact B177  _ _ S162 mu6 (((((((u0 + 1) + q4) + q6) + 2) + 1) + 1) + 1) v4 v5 hI hR H
              · have H := H.2 c_118
                refine k_aload_n C 2 (pc := 121) dL_law_121 rfl rfl ?_
                refine k_bipush C (pc := 122) (v := (6 : Int32)) dL_law_122 (by decide) ?_
                refine k_iconst C (pc := 124) (v := (0 : Int32)) dL_law_124 rfl ?_
                obtain ⟨hc_, H⟩ := H
                refine ky_callA C (pc := 125) (ky_runS C hE (As := [.ref (h 0), .int (6 : Int32), .int (0 : Int32)]) (rest := []) (wl_setCost l D cA h ab ac ar hst (6 : Int32) (0 : Int32) hI hR) (ky_cw C tYL_setCost tW_5_10 tW_1_0 tW_5_11 okL_setCost rfl rfl ⟨Nat.le_of_ble_eq_true rfl, Nat.le_of_ble_eq_true rfl⟩) rfl rfl (Nat.le_of_ble_eq_true rfl) dL_law_125 (kw_rm hc_ (by decide) hRm)) (fun v_ w1 hv_ => ?_)
                obtain ⟨r163, rfl, w_, hI, hR, hr1_⟩ := hv_
                have hI := hI.weak
                obtain ⟨S163, hS1_⟩ : ∃ m_, m_ = (s_setCost S162 (6 : Int32) (0 : Int32)).2.2.2 := ⟨_, rfl⟩
                rw [← hS1_] at hI
                have H := H S163 hS1_ r163 hr1_
                refine k_eq (pc := 128) (st' := .int r163 :: []) rfl rfl rfl ?_
                refine k_widen (k := (((((((u0 + 1) + q4) + q6) + 2) + 1) + 1) + 1) + 1) (n := 16 * ((((((((u0 + 1) + q4) + q6) + 2) + 1) + 1) + 1) + 1)) (Nat.le_refl _) (by omega) ?_
                refine k_ldc C (pc := 128) (v := (-2000000098 : Int32)) tW_3_155 dL_law_128 ?_
                refine k_icmp_ne C (pc := 130) (tgt := 177) dL_law_130 (by decide) (fun c_130 => ?_) (fun c_130 => ?_)
                · have H := H.1 c_130
                  refine k_lv (pc := 177) [5, 3, 2, 1, 0] (lv' := [(0, .ref b), (2, .int (0 : Int32)), (3, .ref (h 0)), (4, .ref v4), (5, .ref v5)]) rfl ?_
                  exact B177  _ _ S163 mu6 ((((((((u0 + 1) + q4) + q6) + 2) + 1) + 1) + 1) + 1) v4 v5 hI hR H
                · have H := H.2 c_130
                  refine k_aload_n C 2 (pc := 133) dL_law_133 rfl rfl ?_
                  refine k_iconst C (pc := 134) (v := (0 : Int32)) dL_law_134 rfl ?_
                  obtain ⟨hc_, H⟩ := H
                  refine ky_callA C (pc := 135) (ky_runS C hE (As := [.ref (h 0), .int (0 : Int32)]) (rest := []) (wl_help l D cA h ab ac ar hst (0 : Int32) hI hR) (ky_cw C tYL_help tW_4_166 tW_1_0 tW_4_167 okL_help rfl rfl ⟨Nat.le_of_ble_eq_true rfl, Nat.le_of_ble_eq_true rfl⟩) rfl rfl (Nat.le_of_ble_eq_true rfl) dL_law_135 (kw_rm hc_ (by decide) hRm)) (fun v_ w1 hv_ => ?_)
                  obtain ⟨r164, rfl, w_, hI, hR, hr1_⟩ := hv_
                  have hI := hI.weak
                  obtain ⟨S164, hS1_⟩ : ∃ m_, m_ = (s_help S163 (0 : Int32)).2.2.2 := ⟨_, rfl⟩
                  rw [← hS1_] at hI
                  have H := H S164 hS1_ r164 hr1_
                  refine k_eq (pc := 138) (st' := .int r164 :: []) rfl rfl rfl ?_
                  refine k_widen (k := ((((((((u0 + 1) + q4) + q6) + 2) + 1) + 1) + 1) + 1) + 1) (n := 16 * (((((((((u0 + 1) + q4) + q6) + 2) + 1) + 1) + 1) + 1) + 1)) (Nat.le_refl _) (by omega) ?_
                  refine k_ldc C (pc := 138) (v := (-2000000097 : Int32)) tW_3_203 dL_law_138 ?_
                  refine k_icmp_ne C (pc := 140) (tgt := 177) dL_law_140 (by decide) (fun c_140 => ?_) (fun c_140 => ?_)
                  · have H := H.1 c_140
                    refine k_lv (pc := 177) [5, 3, 2, 1, 0] (lv' := [(0, .ref b), (2, .int (0 : Int32)), (3, .ref (h 0)), (4, .ref v4), (5, .ref v5)]) rfl ?_
                    exact B177  _ _ S164 mu6 (((((((((u0 + 1) + q4) + q6) + 2) + 1) + 1) + 1) + 1) + 1) v4 v5 hI hR H
                  · have H := H.2 c_140
                    refine k_aload_n C 2 (pc := 143) dL_law_143 rfl rfl ?_
                    refine k_iconst C (pc := 144) (v := (0 : Int32)) dL_law_144 rfl ?_
                    refine k_iconst C (pc := 145) (v := (2 : Int32)) dL_law_145 rfl ?_
                    refine k_bipush C (pc := 146) (v := (18 : Int32)) dL_law_146 (by decide) ?_
                    obtain ⟨hc_, H⟩ := H
                    refine ky_callA C (pc := 148) (ky_runS C hE (As := [.ref (h 0), .int (0 : Int32), .int (2 : Int32), .int (18 : Int32)]) (rest := []) (wl_insert l D cA h ab ac ar hst (0 : Int32) (2 : Int32) (18 : Int32) hI hR) (ky_cw C tYL_insert tW_4_196 tW_1_0 tW_4_197 okL_insert rfl rfl ⟨Nat.le_of_ble_eq_true rfl, Nat.le_of_ble_eq_true rfl⟩) rfl rfl (Nat.le_of_ble_eq_true rfl) dL_law_148 (kw_rm hc_ (by decide) hRm)) (fun v_ w1 hv_ => ?_)
                    obtain ⟨r165, rfl, w_, hI, hR, hr1_⟩ := hv_
                    have hI := hI.weak
                    obtain ⟨S165, hS1_⟩ : ∃ m_, m_ = (s_insert S164 (0 : Int32) (2 : Int32) (18 : Int32)).2.2.2 := ⟨_, rfl⟩
                    rw [← hS1_] at hI
                    have H := H S165 hS1_ r165 hr1_
                    refine k_eq (pc := 151) (st' := .int r165 :: []) rfl rfl rfl ?_
                    refine k_widen (k := (((((((((u0 + 1) + q4) + q6) + 2) + 1) + 1) + 1) + 1) + 1) + 1) (n := 16 * ((((((((((u0 + 1) + q4) + q6) + 2) + 1) + 1) + 1) + 1) + 1) + 1)) (Nat.le_refl _) (by omega) ?_
                    refine k_iconst C (pc := 151) (v := (1 : Int32)) dL_law_151 rfl ?_
                    refine k_icmp_ne C (pc := 152) (tgt := 177) dL_law_152 (by decide) (fun c_152 => ?_) (fun c_152 => ?_)
                    · have H := H.1 c_152
                      refine k_lv (pc := 177) [5, 3, 2, 1, 0] (lv' := [(0, .ref b), (2, .int (0 : Int32)), (3, .ref (h 0)), (4, .ref v4), (5, .ref v5)]) rfl ?_
                      exact B177  _ _ S165 mu6 ((((((((((u0 + 1) + q4) + q6) + 2) + 1) + 1) + 1) + 1) + 1) + 1) v4 v5 hI hR H
                    · have H := H.2 c_152
                      refine k_aload_n C 2 (pc := 155) dL_law_155 rfl rfl ?_
                      refine k_iconst C (pc := 156) (v := (1 : Int32)) dL_law_156 rfl ?_
                      refine k_bipush C (pc := 157) (v := (6 : Int32)) dL_law_157 (by decide) ?_
                      obtain ⟨hc_, H⟩ := H
                      refine ky_callA C (pc := 159) (ky_runS C hE (As := [.ref (h 0), .int (bI true), .int (6 : Int32)]) (rest := []) (wl_plan l D cA h ab ac ar hst true (6 : Int32) hI hR) (ky_cw C tYL_plan tW_3_223 tW_1_0 tW_3_224 okL_plan rfl rfl ⟨Nat.le_of_ble_eq_true rfl, Nat.le_of_ble_eq_true rfl⟩) rfl rfl (Nat.le_of_ble_eq_true rfl) dL_law_159 (kw_rm hc_ (by decide) hRm)) (fun v_ w1 hv_ => ?_)
                      obtain ⟨r166, rfl, w_, hI, hR, hr1_⟩ := hv_
                      have hI := hI.weak
                      obtain ⟨S166, hS1_⟩ : ∃ m_, m_ = (s_plan S165 true (6 : Int32)).2.2.2 := ⟨_, rfl⟩
                      rw [← hS1_] at hI
                      have H := H S166 hS1_ r166 hr1_
                      refine k_eq (pc := 162) (st' := .int r166 :: []) rfl rfl rfl ?_
                      refine k_widen (k := ((((((((((u0 + 1) + q4) + q6) + 2) + 1) + 1) + 1) + 1) + 1) + 1) + 1) (n := 16 * (((((((((((u0 + 1) + q4) + q6) + 2) + 1) + 1) + 1) + 1) + 1) + 1) + 1)) (Nat.le_refl _) (by omega) ?_
                      refine k_iconst C (pc := 162) (v := (1 : Int32)) dL_law_162 rfl ?_
                      refine k_icmp_ne C (pc := 163) (tgt := 177) dL_law_163 (by decide) (fun c_163 => ?_) (fun c_163 => ?_)
                      · have H := H.1 c_163
                        refine k_lv (pc := 177) [5, 3, 2, 1, 0] (lv' := [(0, .ref b), (2, .int (0 : Int32)), (3, .ref (h 0)), (4, .ref v4), (5, .ref v5)]) rfl ?_
                        exact B177  _ _ S166 mu6 (((((((((((u0 + 1) + q4) + q6) + 2) + 1) + 1) + 1) + 1) + 1) + 1) + 1) v4 v5 hI hR H
                      · have H := H.2 c_163
                        refine k_aload_n C 2 (pc := 166) dL_law_166 rfl rfl ?_
                        obtain ⟨hc_, H⟩ := H
                        obtain ⟨l0_, e0_, hl_⟩ := hR
                        obtain ⟨fs_, t_, hw_⟩ := hI.hd
                        refine k_eq (pc := 167) e0_ rfl rfl ?_
                        refine k_onL C (pc := 167) (k_runV C (As := []) (rest := []) (ci := 6) (q0 := 0) (xi_undo l D cA h ab ac ar hI) ⟨k_cwB C tW_2_11 tW_2_8 tW_1_1 okX6_undo rfl rfl ⟨Nat.le_of_ble_eq_true rfl, Nat.le_of_ble_eq_true rfl⟩, C.w tW_2_9, C.w tW_2_10⟩ (by rw [hw_]; rfl) rfl rfl rfl rfl (Nat.le_of_ble_eq_true rfl) dL_law_167 (kw_rm (k := 0) hc_ (by decide) hRm)) (fun v_ w1 hv_ => ?_)
                        obtain ⟨r167, rfl, -, hr1_, hI⟩ := hv_
                        have hI := hI.weak
                        obtain ⟨S167, hS1_⟩ : ∃ m_, m_ = (s_undo S166).2.2.2 := ⟨_, rfl⟩
                        rw [← hS1_] at hI
                        have H := H S167 hS1_ r167 hr1_
                        have hR : LR cA w1 (w1 ++ l0_) mu6 := ⟨l0_, rfl, hl_⟩
                        refine k_eq (pc := 170) (st' := [.int r167]) rfl rfl rfl ?_
                        refine k_widen (k := ((((((((((u0 + 1) + q4) + q6) + 2) + 1) + 1) + 1) + 1) + 1) + 1) + 1) (n := 16 * (((((((((((u0 + 1) + q4) + q6) + 2) + 1) + 1) + 1) + 1) + 1) + 1) + 1)) (Nat.le_refl _) (Nat.le_refl _) ?_
                        refine k_if_ne C (pc := 170) (tgt := 177) dL_law_170 (by decide) (fun c_170 => ?_) (fun c_170 => ?_)
                        · have H := H.1 c_170
                          refine k_lv (pc := 177) [5, 3, 2, 1, 0] (lv' := [(0, .ref b), (2, .int (0 : Int32)), (3, .ref (h 0)), (4, .ref v4), (5, .ref v5)]) rfl ?_
                          exact B177  _ _ S167 mu6 (((((((((((u0 + 1) + q4) + q6) + 2) + 1) + 1) + 1) + 1) + 1) + 1) + 1) v4 v5 hI hR H
                        · have H := H.2 c_170
                          refine k_iconst C (pc := 173) (v := (1 : Int32)) dL_law_173 rfl ?_
                          refine k_goto C (pc := 174) (tgt := 178) dL_law_174 (by decide) ?_
                          refine k_lv (pc := 178) [5, 3, 2, 1, 0] (lv' := [(0, .ref b), (2, .int (0 : Int32)), (3, .ref (h 0)), (4, .ref v4), (5, .ref v5)]) rfl ?_
                          exact B178  _ _ S167 mu6 (((((((((((u0 + 1) + q4) + q6) + 2) + 1) + 1) + 1) + 1) + 1) + 1) + 1) v4 v5 (1 : Int32) hI hR H
