theorem dL_agrees_365 : decode cL_agrees 365 = .ok (.goto (-130), 3) := by decide +kernel
theorem dL_agrees_368 : decode cL_agrees 368 = .ok (.iconst 0, 1) := by decide +kernel
theorem dL_agrees_369 : decode cL_agrees 369 = .ok (.istore 11, 2) := by decide +kernel
theorem dL_agrees_371 : decode cL_agrees 371 = .ok (.iconst 0, 1) := by decide +kernel
theorem dL_agrees_372 : decode cL_agrees 372 = .ok (.istore 12, 2) := by decide +kernel
theorem dL_agrees_374 : decode cL_agrees 374 = .ok (.iload 12, 2) := by decide +kernel
theorem dL_agrees_376 : decode cL_agrees 376 = .ok (.iload_n 3, 1) := by decide +kernel
theorem dL_agrees_377 : decode cL_agrees 377 = .ok (.if_icmp .ge 104, 3) := by decide +kernel
theorem dL_agrees_380 : decode cL_agrees 380 = .ok (.aload_n 0, 1) := by decide +kernel
theorem dL_agrees_381 : decode cL_agrees 381 = .ok (.iload 8, 2) := by decide +kernel
theorem dL_agrees_383 : decode cL_agrees 383 = .ok (.iload 12, 2) := by decide +kernel
theorem dL_agrees_385 : decode cL_agrees 385 = .ok (.invokevirtual 32, 3) := by decide +kernel
theorem dL_agrees_388 : decode cL_agrees 388 = .ok (.istore 13, 2) := by decide +kernel
theorem dL_agrees_390 : decode cL_agrees 390 = .ok (.iload 11, 2) := by decide +kernel
theorem dL_agrees_392 : decode cL_agrees 392 = .ok (.iload 13, 2) := by decide +kernel
theorem dL_agrees_394 : decode cL_agrees 394 = .ok (.ifCond .le 7, 3) := by decide +kernel
theorem dL_agrees_397 : decode cL_agrees 397 = .ok (.iconst 1, 1) := by decide +kernel
theorem dL_agrees_398 : decode cL_agrees 398 = .ok (.goto 4, 3) := by decide +kernel
theorem dL_agrees_401 : decode cL_agrees 401 = .ok (.iconst 0, 1) := by decide +kernel
theorem dL_agrees_402 : decode cL_agrees 402 = .ok (.iadd, 1) := by decide +kernel
theorem dL_agrees_403 : decode cL_agrees 403 = .ok (.istore 11, 2) := by decide +kernel
theorem dL_agrees_405 : decode cL_agrees 405 = .ok (.iload 13, 2) := by decide +kernel
theorem dL_agrees_407 : decode cL_agrees 407 = .ok (.ifCond .le 42, 3) := by decide +kernel
theorem dL_agrees_410 : decode cL_agrees 410 = .ok (.aload_n 0, 1) := by decide +kernel
theorem dL_agrees_411 : decode cL_agrees 411 = .ok (.iload 8, 2) := by decide +kernel
theorem dL_agrees_413 : decode cL_agrees 413 = .ok (.iconst 0, 1) := by decide +kernel
theorem dL_agrees_414 : decode cL_agrees 414 = .ok (.invokevirtual 25, 3) := by decide +kernel
theorem dL_agrees_417 : decode cL_agrees 417 = .ok (.iload 12, 2) := by decide +kernel
theorem dL_agrees_419 : decode cL_agrees 419 = .ok (.if_icmp .ne 54, 3) := by decide +kernel
theorem dL_agrees_422 : decode cL_agrees 422 = .ok (.aload_n 0, 1) := by decide +kernel
theorem dL_agrees_423 : decode cL_agrees 423 = .ok (.iload 8, 2) := by decide +kernel
theorem dL_agrees_425 : decode cL_agrees 425 = .ok (.iload 9, 2) := by decide +kernel
theorem dL_agrees_427 : decode cL_agrees 427 = .ok (.invokevirtual 32, 3) := by decide +kernel
theorem dL_agrees_430 : decode cL_agrees 430 = .ok (.iload 13, 2) := by decide +kernel
theorem dL_agrees_432 : decode cL_agrees 432 = .ok (.if_icmp .ne 41, 3) := by decide +kernel
theorem dL_agrees_435 : decode cL_agrees 435 = .ok (.aload_n 0, 1) := by decide +kernel
theorem dL_agrees_436 : decode cL_agrees 436 = .ok (.invokevirtual 82, 3) := by decide +kernel
theorem dL_agrees_439 : decode cL_agrees 439 = .ok (.ifCond .lt 34, 3) := by decide +kernel
theorem dL_agrees_442 : decode cL_agrees 442 = .ok (.aload_n 0, 1) := by decide +kernel
theorem dL_agrees_443 : decode cL_agrees 443 = .ok (.invokevirtual 82, 3) := by decide +kernel
theorem dL_agrees_446 : decode cL_agrees 446 = .ok (.ifCond .lt 27, 3) := by decide +kernel
theorem dL_agrees_449 : decode cL_agrees 449 = .ok (.iload 13, 2) := by decide +kernel
theorem dL_agrees_451 : decode cL_agrees 451 = .ok (.ifCond .gt 10, 3) := by decide +kernel
theorem dL_agrees_454 : decode cL_agrees 454 = .ok (.iload 13, 2) := by decide +kernel
theorem dL_agrees_456 : decode cL_agrees 456 = .ok (.bipush (-2), 2) := by decide +kernel
theorem dL_agrees_458 : decode cL_agrees 458 = .ok (.if_icmp .ne 15, 3) := by decide +kernel
theorem dL_agrees_461 : decode cL_agrees 461 = .ok (.aload_n 0, 1) := by decide +kernel
theorem dL_agrees_462 : decode cL_agrees 462 = .ok (.iload 8, 2) := by decide +kernel
theorem dL_agrees_464 : decode cL_agrees 464 = .ok (.iconst 0, 1) := by decide +kernel
theorem dL_agrees_465 : decode cL_agrees 465 = .ok (.invokevirtual 25, 3) := by decide +kernel
theorem dL_agrees_468 : decode cL_agrees 468 = .ok (.iload 9, 2) := by decide +kernel
theorem dL_agrees_470 : decode cL_agrees 470 = .ok (.if_icmp .eq 5, 3) := by decide +kernel
theorem dL_agrees_473 : decode cL_agrees 473 = .ok (.iconst 0, 1) := by decide +kernel
theorem dL_agrees_474 : decode cL_agrees 474 = .ok (.ireturn, 1) := by decide +kernel
theorem dL_agrees_475 : decode cL_agrees 475 = .ok (.iinc 12 1, 3) := by decide +kernel
theorem dL_agrees_478 : decode cL_agrees 478 = .ok (.goto (-104), 3) := by decide +kernel
theorem dL_agrees_481 : decode cL_agrees 481 = .ok (.aload_n 0, 1) := by decide +kernel
theorem dL_agrees_482 : decode cL_agrees 482 = .ok (.iload 8, 2) := by decide +kernel
theorem dL_agrees_484 : decode cL_agrees 484 = .ok (.iconst 4, 1) := by decide +kernel
theorem dL_agrees_485 : decode cL_agrees 485 = .ok (.invokevirtual 25, 3) := by decide +kernel
theorem dL_agrees_488 : decode cL_agrees 488 = .ok (.iload 10, 2) := by decide +kernel
theorem dL_agrees_490 : decode cL_agrees 490 = .ok (.if_icmp .ne 38, 3) := by decide +kernel
theorem dL_agrees_493 : decode cL_agrees 493 = .ok (.aload_n 0, 1) := by decide +kernel
theorem dL_agrees_494 : decode cL_agrees 494 = .ok (.iload 8, 2) := by decide +kernel
theorem dL_agrees_496 : decode cL_agrees 496 = .ok (.iconst 5, 1) := by decide +kernel
theorem dL_agrees_497 : decode cL_agrees 497 = .ok (.invokevirtual 25, 3) := by decide +kernel
theorem dL_agrees_500 : decode cL_agrees 500 = .ok (.iload 11, 2) := by decide +kernel
theorem dL_agrees_502 : decode cL_agrees 502 = .ok (.if_icmp .ne 26, 3) := by decide +kernel
theorem dL_agrees_505 : decode cL_agrees 505 = .ok (.iload 10, 2) := by decide +kernel
theorem dL_agrees_507 : decode cL_agrees 507 = .ok (.ifCond .ne 7, 3) := by decide +kernel
theorem dL_agrees_510 : decode cL_agrees 510 = .ok (.iconst 1, 1) := by decide +kernel
theorem dL_agrees_511 : decode cL_agrees 511 = .ok (.goto 4, 3) := by decide +kernel
theorem dL_agrees_514 : decode cL_agrees 514 = .ok (.iconst 0, 1) := by decide +kernel
theorem dL_agrees_515 : decode cL_agrees 515 = .ok (.iload 11, 2) := by decide +kernel
theorem dL_agrees_517 : decode cL_agrees 517 = .ok (.ifCond .ne 7, 3) := by decide +kernel
theorem dL_agrees_520 : decode cL_agrees 520 = .ok (.iconst 1, 1) := by decide +kernel
theorem dL_agrees_521 : decode cL_agrees 521 = .ok (.goto 4, 3) := by decide +kernel
theorem dL_agrees_524 : decode cL_agrees 524 = .ok (.iconst 0, 1) := by decide +kernel
theorem dL_agrees_525 : decode cL_agrees 525 = .ok (.if_icmp .eq 5, 3) := by decide +kernel
theorem dL_agrees_528 : decode cL_agrees 528 = .ok (.iconst 0, 1) := by decide +kernel
theorem dL_agrees_529 : decode cL_agrees 529 = .ok (.ireturn, 1) := by decide +kernel
theorem dL_agrees_530 : decode cL_agrees 530 = .ok (.iinc 8 1, 3) := by decide +kernel
theorem dL_agrees_533 : decode cL_agrees 533 = .ok (.goto (-409), 3) := by decide +kernel
theorem dL_agrees_536 : decode cL_agrees 536 = .ok (.iload 4, 2) := by decide +kernel
theorem dL_agrees_538 : decode cL_agrees 538 = .ok (.aload_n 0, 1) := by decide +kernel
theorem dL_agrees_539 : decode cL_agrees 539 = .ok (.iconst 3, 1) := by decide +kernel
theorem dL_agrees_540 : decode cL_agrees 540 = .ok (.invokevirtual 15, 3) := by decide +kernel
theorem dL_agrees_543 : decode cL_agrees 543 = .ok (.if_icmp .ne 17, 3) := by decide +kernel
theorem dL_agrees_546 : decode cL_agrees 546 = .ok (.aload_n 0, 1) := by decide +kernel
theorem dL_agrees_547 : decode cL_agrees 547 = .ok (.invokevirtual 9, 3) := by decide +kernel
theorem dL_agrees_550 : decode cL_agrees 550 = .ok (.lload 6, 2) := by decide +kernel
theorem dL_agrees_552 : decode cL_agrees 552 = .ok (.lcmp, 1) := by decide +kernel
theorem dL_agrees_553 : decode cL_agrees 553 = .ok (.ifCond .ne 7, 3) := by decide +kernel
theorem dL_agrees_556 : decode cL_agrees 556 = .ok (.iconst 1, 1) := by decide +kernel
theorem dL_agrees_557 : decode cL_agrees 557 = .ok (.goto 4, 3) := by decide +kernel
theorem dL_agrees_560 : decode cL_agrees 560 = .ok (.iconst 0, 1) := by decide +kernel
theorem dL_agrees_561 : decode cL_agrees 561 = .ok (.ireturn, 1) := by decide +kernel
theorem dL_ends_0 : decode cL_ends 0 = .ok (.aload_n 0, 1) := by decide +kernel
theorem dL_ends_1 : decode cL_ends 1 = .ok (.iload_n 1, 1) := by decide +kernel
theorem dL_ends_2 : decode cL_ends 2 = .ok (.invokevirtual 49, 3) := by decide +kernel
theorem dL_ends_5 : decode cL_ends 5 = .ok (.istore_n 3, 1) := by decide +kernel
theorem dL_ends_6 : decode cL_ends 6 = .ok (.aload_n 0, 1) := by decide +kernel
theorem dL_ends_7 : decode cL_ends 7 = .ok (.iload_n 1, 1) := by decide +kernel
theorem dL_ends_8 : decode cL_ends 8 = .ok (.ifCond .ne 7, 3) := by decide +kernel
theorem dL_ends_11 : decode cL_ends 11 = .ok (.iconst 1, 1) := by decide +kernel
theorem dL_ends_12 : decode cL_ends 12 = .ok (.goto 4, 3) := by decide +kernel
theorem dL_ends_15 : decode cL_ends 15 = .ok (.iconst 0, 1) := by decide +kernel
theorem dL_ends_16 : decode cL_ends 16 = .ok (.invokevirtual 49, 3) := by decide +kernel
theorem dL_ends_19 : decode cL_ends 19 = .ok (.istore 4, 2) := by decide +kernel
theorem dL_ends_21 : decode cL_ends 21 = .ok (.aload_n 0, 1) := by decide +kernel
theorem dL_ends_22 : decode cL_ends 22 = .ok (.invokevirtual 85, 3) := by decide +kernel
theorem dL_ends_25 : decode cL_ends 25 = .ok (.istore 5, 2) := by decide +kernel
theorem dL_ends_27 : decode cL_ends 27 = .ok (.iload 5, 2) := by decide +kernel
theorem dL_ends_29 : decode cL_ends 29 = .ok (.bipush (-3), 2) := by decide +kernel
theorem dL_ends_31 : decode cL_ends 31 = .ok (.if_icmp .ne 64, 3) := by decide +kernel
theorem dL_ends_34 : decode cL_ends 34 = .ok (.iload_n 3, 1) := by decide +kernel
theorem dL_ends_35 : decode cL_ends 35 = .ok (.bipush (-3), 2) := by decide +kernel
theorem dL_ends_37 : decode cL_ends 37 = .ok (.if_icmp .ne 56, 3) := by decide +kernel
theorem dL_ends_40 : decode cL_ends 40 = .ok (.aload_n 0, 1) := by decide +kernel
theorem dL_ends_41 : decode cL_ends 41 = .ok (.iload_n 1, 1) := by decide +kernel
theorem dL_ends_42 : decode cL_ends 42 = .ok (.invokevirtual 59, 3) := by decide +kernel
theorem dL_ends_45 : decode cL_ends 45 = .ok (.bipush (-3), 2) := by decide +kernel
theorem dL_ends_47 : decode cL_ends 47 = .ok (.if_icmp .ne 46, 3) := by decide +kernel
theorem dL_ends_50 : decode cL_ends 50 = .ok (.aload_n 0, 1) := by decide +kernel
theorem dL_ends_51 : decode cL_ends 51 = .ok (.iload_n 1, 1) := by decide +kernel
theorem dL_ends_52 : decode cL_ends 52 = .ok (.invokevirtual 53, 3) := by decide +kernel
theorem dL_ends_55 : decode cL_ends 55 = .ok (.bipush (-3), 2) := by decide +kernel
theorem dL_ends_57 : decode cL_ends 57 = .ok (.if_icmp .ne 36, 3) := by decide +kernel
theorem dL_ends_60 : decode cL_ends 60 = .ok (.aload_n 0, 1) := by decide +kernel
theorem dL_ends_61 : decode cL_ends 61 = .ok (.iload_n 1, 1) := by decide +kernel
theorem dL_ends_62 : decode cL_ends 62 = .ok (.invokevirtual 56, 3) := by decide +kernel
theorem dL_ends_65 : decode cL_ends 65 = .ok (.bipush (-2), 2) := by decide +kernel
theorem dL_ends_67 : decode cL_ends 67 = .ok (.if_icmp .ne 26, 3) := by decide +kernel
theorem dL_ends_70 : decode cL_ends 70 = .ok (.aload_n 0, 1) := by decide +kernel
theorem dL_ends_71 : decode cL_ends 71 = .ok (.invokevirtual 45, 3) := by decide +kernel
theorem dL_ends_74 : decode cL_ends 74 = .ok (.bipush (-3), 2) := by decide +kernel
theorem dL_ends_76 : decode cL_ends 76 = .ok (.if_icmp .ne 17, 3) := by decide +kernel
theorem dL_ends_79 : decode cL_ends 79 = .ok (.aload_n 0, 1) := by decide +kernel
theorem dL_ends_80 : decode cL_ends 80 = .ok (.iconst 0, 1) := by decide +kernel
theorem dL_ends_81 : decode cL_ends 81 = .ok (.invokevirtual 38, 3) := by decide +kernel
theorem dL_ends_84 : decode cL_ends 84 = .ok (.bipush (-3), 2) := by decide +kernel
theorem dL_ends_86 : decode cL_ends 86 = .ok (.if_icmp .ne 7, 3) := by decide +kernel
theorem dL_ends_89 : decode cL_ends 89 = .ok (.iconst 1, 1) := by decide +kernel
theorem dL_ends_90 : decode cL_ends 90 = .ok (.goto 4, 3) := by decide +kernel
theorem dL_ends_93 : decode cL_ends 93 = .ok (.iconst 0, 1) := by decide +kernel
theorem dL_ends_94 : decode cL_ends 94 = .ok (.ireturn, 1) := by decide +kernel
theorem dL_ends_95 : decode cL_ends 95 = .ok (.aload_n 0, 1) := by decide +kernel
theorem dL_ends_96 : decode cL_ends 96 = .ok (.invokevirtual 45, 3) := by decide +kernel
theorem dL_ends_99 : decode cL_ends 99 = .ok (.istore 6, 2) := by decide +kernel
theorem dL_ends_101 : decode cL_ends 101 = .ok (.iload 5, 2) := by decide +kernel
theorem dL_ends_103 : decode cL_ends 103 = .ok (.iconst 1, 1) := by decide +kernel
theorem dL_ends_104 : decode cL_ends 104 = .ok (.if_icmp .lt 68, 3) := by decide +kernel
theorem dL_ends_107 : decode cL_ends 107 = .ok (.iload 5, 2) := by decide +kernel
theorem dL_ends_109 : decode cL_ends 109 = .ok (.sipush 2000, 3) := by decide +kernel
theorem dL_ends_112 : decode cL_ends 112 = .ok (.if_icmp .gt 60, 3) := by decide +kernel
theorem dL_ends_115 : decode cL_ends 115 = .ok (.iload 6, 2) := by decide +kernel
theorem dL_ends_117 : decode cL_ends 117 = .ok (.iload 5, 2) := by decide +kernel
theorem dL_ends_119 : decode cL_ends 119 = .ok (.if_icmp .gt 53, 3) := by decide +kernel
theorem dL_ends_122 : decode cL_ends 122 = .ok (.iload 6, 2) := by decide +kernel
theorem dL_ends_124 : decode cL_ends 124 = .ok (.ifCond .ne 7, 3) := by decide +kernel
theorem dL_ends_127 : decode cL_ends 127 = .ok (.iconst 1, 1) := by decide +kernel
theorem dL_ends_128 : decode cL_ends 128 = .ok (.goto 4, 3) := by decide +kernel
theorem dL_ends_131 : decode cL_ends 131 = .ok (.iconst 0, 1) := by decide +kernel
theorem dL_ends_132 : decode cL_ends 132 = .ok (.iload_n 3, 1) := by decide +kernel
theorem dL_ends_133 : decode cL_ends 133 = .ok (.bipush (-9), 2) := by decide +kernel
theorem dL_ends_135 : decode cL_ends 135 = .ok (.if_icmp .ne 7, 3) := by decide +kernel
theorem dL_ends_138 : decode cL_ends 138 = .ok (.iconst 1, 1) := by decide +kernel
theorem dL_ends_139 : decode cL_ends 139 = .ok (.goto 4, 3) := by decide +kernel
theorem dL_ends_142 : decode cL_ends 142 = .ok (.iconst 0, 1) := by decide +kernel
theorem dL_ends_143 : decode cL_ends 143 = .ok (.if_icmp .ne 29, 3) := by decide +kernel
theorem dL_ends_146 : decode cL_ends 146 = .ok (.iload 4, 2) := by decide +kernel
theorem dL_ends_148 : decode cL_ends 148 = .ok (.bipush (-9), 2) := by decide +kernel
theorem dL_ends_150 : decode cL_ends 150 = .ok (.if_icmp .ne 7, 3) := by decide +kernel
theorem dL_ends_153 : decode cL_ends 153 = .ok (.iconst 1, 1) := by decide +kernel
theorem dL_ends_154 : decode cL_ends 154 = .ok (.goto 4, 3) := by decide +kernel
theorem dL_ends_157 : decode cL_ends 157 = .ok (.iconst 0, 1) := by decide +kernel
theorem dL_ends_158 : decode cL_ends 158 = .ok (.iload_n 3, 1) := by decide +kernel
theorem dL_ends_159 : decode cL_ends 159 = .ok (.bipush (-9), 2) := by decide +kernel
theorem dL_ends_161 : decode cL_ends 161 = .ok (.if_icmp .ne 7, 3) := by decide +kernel
theorem dL_ends_164 : decode cL_ends 164 = .ok (.iconst 1, 1) := by decide +kernel
theorem dL_ends_165 : decode cL_ends 165 = .ok (.goto 4, 3) := by decide +kernel
theorem dL_ends_168 : decode cL_ends 168 = .ok (.iconst 0, 1) := by decide +kernel
theorem dL_ends_169 : decode cL_ends 169 = .ok (.if_icmp .eq 5, 3) := by decide +kernel
theorem dL_ends_172 : decode cL_ends 172 = .ok (.iconst 0, 1) := by decide +kernel
theorem dL_ends_173 : decode cL_ends 173 = .ok (.ireturn, 1) := by decide +kernel
theorem dL_ends_174 : decode cL_ends 174 = .ok (.iload_n 3, 1) := by decide +kernel
theorem dL_ends_175 : decode cL_ends 175 = .ok (.bipush (-9), 2) := by decide +kernel
theorem dL_ends_177 : decode cL_ends 177 = .ok (.if_icmp .ne 60, 3) := by decide +kernel
theorem dL_ends_180 : decode cL_ends 180 = .ok (.aload_n 0, 1) := by decide +kernel
theorem dL_ends_181 : decode cL_ends 181 = .ok (.iload_n 1, 1) := by decide +kernel
theorem dL_ends_182 : decode cL_ends 182 = .ok (.invokevirtual 59, 3) := by decide +kernel
theorem dL_ends_185 : decode cL_ends 185 = .ok (.bipush (-9), 2) := by decide +kernel
theorem dL_ends_187 : decode cL_ends 187 = .ok (.if_icmp .ne 48, 3) := by decide +kernel
theorem dL_ends_190 : decode cL_ends 190 = .ok (.aload_n 0, 1) := by decide +kernel
theorem dL_ends_191 : decode cL_ends 191 = .ok (.iload_n 1, 1) := by decide +kernel
theorem dL_ends_192 : decode cL_ends 192 = .ok (.invokevirtual 53, 3) := by decide +kernel
theorem dL_ends_195 : decode cL_ends 195 = .ok (.bipush (-9), 2) := by decide +kernel
theorem dL_ends_197 : decode cL_ends 197 = .ok (.if_icmp .ne 38, 3) := by decide +kernel
theorem dL_ends_200 : decode cL_ends 200 = .ok (.aload_n 0, 1) := by decide +kernel
theorem dL_ends_201 : decode cL_ends 201 = .ok (.iload_n 1, 1) := by decide +kernel
theorem dL_ends_202 : decode cL_ends 202 = .ok (.invokevirtual 56, 3) := by decide +kernel
theorem dL_ends_205 : decode cL_ends 205 = .ok (.bipush (-2), 2) := by decide +kernel
theorem dL_ends_207 : decode cL_ends 207 = .ok (.if_icmp .ne 28, 3) := by decide +kernel
theorem dL_ends_210 : decode cL_ends 210 = .ok (.aload_n 0, 1) := by decide +kernel
theorem dL_ends_211 : decode cL_ends 211 = .ok (.iload_n 1, 1) := by decide +kernel
theorem dL_ends_212 : decode cL_ends 212 = .ok (.invokevirtual 65, 3) := by decide +kernel
theorem dL_ends_215 : decode cL_ends 215 = .ok (.ldc 69, 2) := by decide +kernel
theorem dL_ends_217 : decode cL_ends 217 = .ok (.fcmp .l, 1) := by decide +kernel
theorem dL_ends_218 : decode cL_ends 218 = .ok (.ifCond .ne 17, 3) := by decide +kernel
theorem dL_ends_221 : decode cL_ends 221 = .ok (.aload_n 0, 1) := by decide +kernel
theorem dL_ends_222 : decode cL_ends 222 = .ok (.iload_n 1, 1) := by decide +kernel
theorem dL_ends_223 : decode cL_ends 223 = .ok (.invokevirtual 62, 3) := by decide +kernel
theorem dL_ends_226 : decode cL_ends 226 = .ok (.bipush (-2), 2) := by decide +kernel
theorem dL_ends_228 : decode cL_ends 228 = .ok (.if_icmp .ne 7, 3) := by decide +kernel
theorem dL_ends_231 : decode cL_ends 231 = .ok (.iconst 1, 1) := by decide +kernel
theorem dL_ends_232 : decode cL_ends 232 = .ok (.goto 4, 3) := by decide +kernel
theorem dL_ends_235 : decode cL_ends 235 = .ok (.iconst 0, 1) := by decide +kernel
theorem dL_ends_236 : decode cL_ends 236 = .ok (.ireturn, 1) := by decide +kernel
theorem dL_ends_237 : decode cL_ends 237 = .ok (.aload_n 0, 1) := by decide +kernel
theorem dL_ends_238 : decode cL_ends 238 = .ok (.iload_n 1, 1) := by decide +kernel
theorem dL_ends_239 : decode cL_ends 239 = .ok (.invokevirtual 59, 3) := by decide +kernel
theorem dL_ends_242 : decode cL_ends 242 = .ok (.istore 7, 2) := by decide +kernel
theorem dL_ends_244 : decode cL_ends 244 = .ok (.aload_n 0, 1) := by decide +kernel
theorem dL_ends_245 : decode cL_ends 245 = .ok (.iload_n 1, 1) := by decide +kernel
theorem dL_ends_246 : decode cL_ends 246 = .ok (.invokevirtual 65, 3) := by decide +kernel
theorem dL_ends_249 : decode cL_ends 249 = .ok (.fstore 8, 2) := by decide +kernel
theorem dL_ends_251 : decode cL_ends 251 = .ok (.iload_n 3, 1) := by decide +kernel
theorem dL_ends_252 : decode cL_ends 252 = .ok (.iload 7, 2) := by decide +kernel
theorem dL_ends_254 : decode cL_ends 254 = .ok (.if_icmp .gt 114, 3) := by decide +kernel
theorem dL_ends_257 : decode cL_ends 257 = .ok (.iload_n 3, 1) := by decide +kernel
theorem dL_ends_258 : decode cL_ends 258 = .ok (.ifCond .ne 7, 3) := by decide +kernel
theorem dL_ends_261 : decode cL_ends 261 = .ok (.iconst 1, 1) := by decide +kernel
theorem dL_ends_262 : decode cL_ends 262 = .ok (.goto 4, 3) := by decide +kernel
theorem dL_ends_265 : decode cL_ends 265 = .ok (.iconst 0, 1) := by decide +kernel
theorem dL_ends_266 : decode cL_ends 266 = .ok (.aload_n 0, 1) := by decide +kernel
theorem dL_ends_267 : decode cL_ends 267 = .ok (.bipush 8, 2) := by decide +kernel
theorem dL_ends_269 : decode cL_ends 269 = .ok (.invokevirtual 15, 3) := by decide +kernel
theorem dL_ends_272 : decode cL_ends 272 = .ok (.iconst 1, 1) := by decide +kernel
theorem dL_ends_273 : decode cL_ends 273 = .ok (.if_icmp .ne 7, 3) := by decide +kernel
theorem dL_ends_276 : decode cL_ends 276 = .ok (.iconst 1, 1) := by decide +kernel
theorem dL_ends_277 : decode cL_ends 277 = .ok (.goto 4, 3) := by decide +kernel
theorem dL_ends_280 : decode cL_ends 280 = .ok (.iconst 0, 1) := by decide +kernel
theorem dL_ends_281 : decode cL_ends 281 = .ok (.if_icmp .ne 87, 3) := by decide +kernel
theorem dL_ends_284 : decode cL_ends 284 = .ok (.iload_n 1, 1) := by decide +kernel
theorem dL_ends_285 : decode cL_ends 285 = .ok (.ifCond .eq 12, 3) := by decide +kernel
theorem dL_ends_288 : decode cL_ends 288 = .ok (.iload 4, 2) := by decide +kernel
theorem dL_ends_290 : decode cL_ends 290 = .ok (.iload_n 3, 1) := by decide +kernel
theorem dL_ends_291 : decode cL_ends 291 = .ok (.if_icmp .ge 12, 3) := by decide +kernel
theorem dL_ends_294 : decode cL_ends 294 = .ok (.goto 74, 3) := by decide +kernel
theorem dL_ends_297 : decode cL_ends 297 = .ok (.iload_n 3, 1) := by decide +kernel
theorem dL_ends_298 : decode cL_ends 298 = .ok (.iload 4, 2) := by decide +kernel
theorem dL_ends_300 : decode cL_ends 300 = .ok (.if_icmp .lt 68, 3) := by decide +kernel
theorem dL_ends_303 : decode cL_ends 303 = .ok (.fload 8, 2) := by decide +kernel
theorem dL_ends_305 : decode cL_ends 305 = .ok (.iload 7, 2) := by decide +kernel
theorem dL_ends_307 : decode cL_ends 307 = .ok (.i2f, 1) := by decide +kernel
theorem dL_ends_308 : decode cL_ends 308 = .ok (.fcmp .l, 1) := by decide +kernel
theorem dL_ends_309 : decode cL_ends 309 = .ok (.ifCond .gt 59, 3) := by decide +kernel
theorem dL_ends_312 : decode cL_ends 312 = .ok (.fload 8, 2) := by decide +kernel
theorem dL_ends_314 : decode cL_ends 314 = .ok (.fconst 0, 1) := by decide +kernel
theorem dL_ends_315 : decode cL_ends 315 = .ok (.fcmp .g, 1) := by decide +kernel
theorem dL_ends_316 : decode cL_ends 316 = .ok (.ifCond .lt 52, 3) := by decide +kernel
theorem dL_ends_319 : decode cL_ends 319 = .ok (.aload_n 0, 1) := by decide +kernel
theorem dL_ends_320 : decode cL_ends 320 = .ok (.iload_n 1, 1) := by decide +kernel
theorem dL_ends_321 : decode cL_ends 321 = .ok (.invokevirtual 53, 3) := by decide +kernel
theorem dL_ends_324 : decode cL_ends 324 = .ok (.bipush (-9), 2) := by decide +kernel
theorem dL_ends_326 : decode cL_ends 326 = .ok (.if_icmp .ne 7, 3) := by decide +kernel
theorem dL_ends_329 : decode cL_ends 329 = .ok (.iconst 1, 1) := by decide +kernel
theorem dL_ends_330 : decode cL_ends 330 = .ok (.goto 4, 3) := by decide +kernel
theorem dL_ends_333 : decode cL_ends 333 = .ok (.iconst 0, 1) := by decide +kernel
theorem dL_ends_334 : decode cL_ends 334 = .ok (.iload_n 3, 1) := by decide +kernel
theorem dL_ends_335 : decode cL_ends 335 = .ok (.ifCond .ne 7, 3) := by decide +kernel
theorem dL_ends_338 : decode cL_ends 338 = .ok (.iconst 1, 1) := by decide +kernel
theorem dL_ends_339 : decode cL_ends 339 = .ok (.goto 4, 3) := by decide +kernel
theorem dL_ends_342 : decode cL_ends 342 = .ok (.iconst 0, 1) := by decide +kernel
theorem dL_ends_343 : decode cL_ends 343 = .ok (.if_icmp .ne 25, 3) := by decide +kernel
theorem dL_ends_346 : decode cL_ends 346 = .ok (.aload_n 0, 1) := by decide +kernel
theorem dL_ends_347 : decode cL_ends 347 = .ok (.aload_n 0, 1) := by decide +kernel
theorem dL_ends_348 : decode cL_ends 348 = .ok (.bipush 6, 2) := by decide +kernel
theorem dL_ends_350 : decode cL_ends 350 = .ok (.invokevirtual 15, 3) := by decide +kernel
theorem dL_ends_353 : decode cL_ends 353 = .ok (.invokevirtual 38, 3) := by decide +kernel
theorem dL_ends_356 : decode cL_ends 356 = .ok (.aload_n 0, 1) := by decide +kernel
theorem dL_ends_357 : decode cL_ends 357 = .ok (.bipush 7, 2) := by decide +kernel
theorem dL_ends_359 : decode cL_ends 359 = .ok (.invokevirtual 15, 3) := by decide +kernel
theorem dL_ends_362 : decode cL_ends 362 = .ok (.ishr, 1) := by decide +kernel
theorem dL_ends_363 : decode cL_ends 363 = .ok (.iconst 1, 1) := by decide +kernel
theorem dL_ends_364 : decode cL_ends 364 = .ok (.iand, 1) := by decide +kernel
theorem dL_ends_365 : decode cL_ends 365 = .ok (.ifCond .ne 5, 3) := by decide +kernel
theorem dL_ends_368 : decode cL_ends 368 = .ok (.iconst 0, 1) := by decide +kernel
theorem dL_ends_369 : decode cL_ends 369 = .ok (.ireturn, 1) := by decide +kernel
theorem dL_ends_370 : decode cL_ends 370 = .ok (.iconst 0, 1) := by decide +kernel
theorem dL_ends_371 : decode cL_ends 371 = .ok (.istore 9, 2) := by decide +kernel
theorem dL_ends_373 : decode cL_ends 373 = .ok (.iload 9, 2) := by decide +kernel
theorem dL_ends_375 : decode cL_ends 375 = .ok (.aload_n 0, 1) := by decide +kernel
theorem dL_ends_376 : decode cL_ends 376 = .ok (.iconst 2, 1) := by decide +kernel
theorem dL_ends_377 : decode cL_ends 377 = .ok (.invokevirtual 15, 3) := by decide +kernel
theorem dL_ends_380 : decode cL_ends 380 = .ok (.if_icmp .ge 59, 3) := by decide +kernel
theorem dL_ends_383 : decode cL_ends 383 = .ok (.aload_n 0, 1) := by decide +kernel
theorem dL_ends_384 : decode cL_ends 384 = .ok (.iload 9, 2) := by decide +kernel
theorem dL_ends_386 : decode cL_ends 386 = .ok (.iload_n 1, 1) := by decide +kernel
theorem dL_ends_387 : decode cL_ends 387 = .ok (.invokevirtual 41, 3) := by decide +kernel
theorem dL_ends_390 : decode cL_ends 390 = .ok (.istore 10, 2) := by decide +kernel
theorem dL_ends_392 : decode cL_ends 392 = .ok (.iload 9, 2) := by decide +kernel
theorem dL_ends_394 : decode cL_ends 394 = .ok (.aload_n 0, 1) := by decide +kernel
theorem dL_ends_395 : decode cL_ends 395 = .ok (.bipush 6, 2) := by decide +kernel
theorem dL_ends_397 : decode cL_ends 397 = .ok (.invokevirtual 15, 3) := by decide +kernel
theorem dL_ends_400 : decode cL_ends 400 = .ok (.if_icmp .ne 13, 3) := by decide +kernel
theorem dL_ends_403 : decode cL_ends 403 = .ok (.iload 10, 2) := by decide +kernel
theorem dL_ends_405 : decode cL_ends 405 = .ok (.bipush (-2), 2) := by decide +kernel
theorem dL_ends_407 : decode cL_ends 407 = .ok (.if_icmp .eq 26, 3) := by decide +kernel
theorem dL_ends_410 : decode cL_ends 410 = .ok (.goto 21, 3) := by decide +kernel
theorem dL_ends_413 : decode cL_ends 413 = .ok (.iload 10, 2) := by decide +kernel
theorem dL_ends_415 : decode cL_ends 415 = .ok (.bipush (-3), 2) := by decide +kernel
theorem dL_ends_417 : decode cL_ends 417 = .ok (.if_icmp .eq 16, 3) := by decide +kernel
theorem dL_ends_420 : decode cL_ends 420 = .ok (.iload 10, 2) := by decide +kernel
theorem dL_ends_422 : decode cL_ends 422 = .ok (.ifCond .lt 9, 3) := by decide +kernel
theorem dL_ends_425 : decode cL_ends 425 = .ok (.iload 10, 2) := by decide +kernel
theorem dL_ends_427 : decode cL_ends 427 = .ok (.iload_n 3, 1) := by decide +kernel
theorem dL_ends_428 : decode cL_ends 428 = .ok (.if_icmp .le 5, 3) := by decide +kernel
theorem dL_ends_431 : decode cL_ends 431 = .ok (.iconst 0, 1) := by decide +kernel
theorem dL_ends_432 : decode cL_ends 432 = .ok (.ireturn, 1) := by decide +kernel
theorem dL_ends_433 : decode cL_ends 433 = .ok (.iinc 9 1, 3) := by decide +kernel
theorem dL_ends_436 : decode cL_ends 436 = .ok (.goto (-63), 3) := by decide +kernel
theorem dL_ends_439 : decode cL_ends 439 = .ok (.aload_n 0, 1) := by decide +kernel
theorem dL_ends_440 : decode cL_ends 440 = .ok (.iload_n 1, 1) := by decide +kernel
theorem dL_ends_441 : decode cL_ends 441 = .ok (.ifCond .eq 7, 3) := by decide +kernel
theorem dL_ends_444 : decode cL_ends 444 = .ok (.iconst 5, 1) := by decide +kernel
theorem dL_ends_445 : decode cL_ends 445 = .ok (.goto 4, 3) := by decide +kernel
theorem dL_ends_448 : decode cL_ends 448 = .ok (.iconst 4, 1) := by decide +kernel
theorem dL_ends_449 : decode cL_ends 449 = .ok (.invokevirtual 15, 3) := by decide +kernel
theorem dL_ends_452 : decode cL_ends 452 = .ok (.istore 9, 2) := by decide +kernel
theorem dL_ends_454 : decode cL_ends 454 = .ok (.iload_n 3, 1) := by decide +kernel
theorem dL_ends_455 : decode cL_ends 455 = .ok (.istore 10, 2) := by decide +kernel
theorem dL_ends_457 : decode cL_ends 457 = .ok (.iload 10, 2) := by decide +kernel
theorem dL_ends_459 : decode cL_ends 459 = .ok (.ifCond .le 110, 3) := by decide +kernel
theorem dL_ends_462 : decode cL_ends 462 = .ok (.iload 10, 2) := by decide +kernel
theorem dL_ends_464 : decode cL_ends 464 = .ok (.iload_n 3, 1) := by decide +kernel
theorem dL_ends_465 : decode cL_ends 465 = .ok (.iload_n 2, 1) := by decide +kernel
theorem dL_ends_466 : decode cL_ends 466 = .ok (.isub, 1) := by decide +kernel
theorem dL_ends_467 : decode cL_ends 467 = .ok (.if_icmp .le 102, 3) := by decide +kernel
theorem dL_ends_470 : decode cL_ends 470 = .ok (.aload_n 0, 1) := by decide +kernel
theorem dL_ends_471 : decode cL_ends 471 = .ok (.iload_n 1, 1) := by decide +kernel
theorem dL_ends_472 : decode cL_ends 472 = .ok (.invokevirtual 53, 3) := by decide +kernel
theorem dL_ends_475 : decode cL_ends 475 = .ok (.istore 11, 2) := by decide +kernel
theorem dL_ends_477 : decode cL_ends 477 = .ok (.iload 11, 2) := by decide +kernel
theorem dL_ends_479 : decode cL_ends 479 = .ok (.bipush 100, 2) := by decide +kernel
theorem dL_ends_481 : decode cL_ends 481 = .ok (.idiv, 1) := by decide +kernel
theorem dL_ends_482 : decode cL_ends 482 = .ok (.istore 12, 2) := by decide +kernel
theorem dL_ends_484 : decode cL_ends 484 = .ok (.aload_n 0, 1) := by decide +kernel
theorem dL_ends_485 : decode cL_ends 485 = .ok (.iload 12, 2) := by decide +kernel
theorem dL_ends_487 : decode cL_ends 487 = .ok (.iconst 0, 1) := by decide +kernel
theorem dL_ends_488 : decode cL_ends 488 = .ok (.invokevirtual 25, 3) := by decide +kernel
theorem dL_ends_491 : decode cL_ends 491 = .ok (.iload 11, 2) := by decide +kernel
theorem dL_ends_493 : decode cL_ends 493 = .ok (.bipush 100, 2) := by decide +kernel
theorem dL_ends_495 : decode cL_ends 495 = .ok (.irem, 1) := by decide +kernel
theorem dL_ends_496 : decode cL_ends 496 = .ok (.if_icmp .eq 42, 3) := by decide +kernel
theorem dL_ends_499 : decode cL_ends 499 = .ok (.aload_n 0, 1) := by decide +kernel
theorem dL_ends_500 : decode cL_ends 500 = .ok (.iload_n 1, 1) := by decide +kernel
theorem dL_ends_501 : decode cL_ends 501 = .ok (.invokevirtual 56, 3) := by decide +kernel
theorem dL_ends_504 : decode cL_ends 504 = .ok (.iload 10, 2) := by decide +kernel
theorem dL_ends_506 : decode cL_ends 506 = .ok (.iconst 1, 1) := by decide +kernel
theorem dL_ends_507 : decode cL_ends 507 = .ok (.isub, 1) := by decide +kernel
theorem dL_ends_508 : decode cL_ends 508 = .ok (.if_icmp .ne 30, 3) := by decide +kernel
theorem dL_ends_511 : decode cL_ends 511 = .ok (.aload_n 0, 1) := by decide +kernel
theorem dL_ends_512 : decode cL_ends 512 = .ok (.iload 12, 2) := by decide +kernel
theorem dL_ends_514 : decode cL_ends 514 = .ok (.iconst 0, 1) := by decide +kernel
theorem dL_ends_515 : decode cL_ends 515 = .ok (.invokevirtual 25, 3) := by decide +kernel
theorem dL_ends_518 : decode cL_ends 518 = .ok (.iload 11, 2) := by decide +kernel
theorem dL_ends_520 : decode cL_ends 520 = .ok (.bipush 100, 2) := by decide +kernel
theorem dL_ends_522 : decode cL_ends 522 = .ok (.irem, 1) := by decide +kernel
theorem dL_ends_523 : decode cL_ends 523 = .ok (.if_icmp .ne 15, 3) := by decide +kernel
theorem dL_ends_526 : decode cL_ends 526 = .ok (.aload_n 0, 1) := by decide +kernel
theorem dL_ends_527 : decode cL_ends 527 = .ok (.iload_n 1, 1) := by decide +kernel
theorem dL_ends_528 : decode cL_ends 528 = .ok (.invokevirtual 49, 3) := by decide +kernel
theorem dL_ends_531 : decode cL_ends 531 = .ok (.iload 10, 2) := by decide +kernel
theorem dL_ends_533 : decode cL_ends 533 = .ok (.iconst 1, 1) := by decide +kernel
theorem dL_ends_534 : decode cL_ends 534 = .ok (.isub, 1) := by decide +kernel
theorem dL_ends_535 : decode cL_ends 535 = .ok (.if_icmp .eq 5, 3) := by decide +kernel
theorem dL_ends_538 : decode cL_ends 538 = .ok (.iconst 0, 1) := by decide +kernel
theorem dL_ends_539 : decode cL_ends 539 = .ok (.ireturn, 1) := by decide +kernel
theorem dL_ends_540 : decode cL_ends 540 = .ok (.iinc 9 1, 3) := by decide +kernel
theorem dL_ends_543 : decode cL_ends 543 = .ok (.aload_n 0, 1) := by decide +kernel
theorem dL_ends_544 : decode cL_ends 544 = .ok (.iload_n 1, 1) := by decide +kernel
theorem dL_ends_545 : decode cL_ends 545 = .ok (.ifCond .eq 7, 3) := by decide +kernel
theorem dL_ends_548 : decode cL_ends 548 = .ok (.iconst 5, 1) := by decide +kernel
theorem dL_ends_549 : decode cL_ends 549 = .ok (.goto 4, 3) := by decide +kernel
theorem dL_ends_552 : decode cL_ends 552 = .ok (.iconst 4, 1) := by decide +kernel
theorem dL_ends_553 : decode cL_ends 553 = .ok (.invokevirtual 15, 3) := by decide +kernel
theorem dL_ends_556 : decode cL_ends 556 = .ok (.iload 9, 2) := by decide +kernel
theorem dL_ends_558 : decode cL_ends 558 = .ok (.if_icmp .eq 5, 3) := by decide +kernel
theorem dL_ends_561 : decode cL_ends 561 = .ok (.iconst 0, 1) := by decide +kernel
theorem dL_ends_562 : decode cL_ends 562 = .ok (.ireturn, 1) := by decide +kernel
theorem dL_ends_563 : decode cL_ends 563 = .ok (.iinc 10 (-1), 3) := by decide +kernel
theorem dL_ends_566 : decode cL_ends 566 = .ok (.goto (-109), 3) := by decide +kernel
theorem dL_ends_569 : decode cL_ends 569 = .ok (.aload_n 0, 1) := by decide +kernel
theorem dL_ends_570 : decode cL_ends 570 = .ok (.iload_n 1, 1) := by decide +kernel
theorem dL_ends_571 : decode cL_ends 571 = .ok (.invokevirtual 62, 3) := by decide +kernel
theorem dL_ends_574 : decode cL_ends 574 = .ok (.iload 7, 2) := by decide +kernel
theorem dL_ends_576 : decode cL_ends 576 = .ok (.if_icmp .ne 65, 3) := by decide +kernel
theorem dL_ends_579 : decode cL_ends 579 = .ok (.aload_n 0, 1) := by decide +kernel
theorem dL_ends_580 : decode cL_ends 580 = .ok (.iload_n 1, 1) := by decide +kernel
theorem dL_ends_581 : decode cL_ends 581 = .ok (.invokevirtual 49, 3) := by decide +kernel
theorem dL_ends_584 : decode cL_ends 584 = .ok (.iload 7, 2) := by decide +kernel
theorem dL_ends_586 : decode cL_ends 586 = .ok (.if_icmp .ne 55, 3) := by decide +kernel
theorem dL_ends_589 : decode cL_ends 589 = .ok (.aload_n 0, 1) := by decide +kernel
theorem dL_ends_590 : decode cL_ends 590 = .ok (.iconst 4, 1) := by decide +kernel
theorem dL_ends_591 : decode cL_ends 591 = .ok (.invokevirtual 15, 3) := by decide +kernel
theorem dL_ends_594 : decode cL_ends 594 = .ok (.ifCond .ne 47, 3) := by decide +kernel
theorem dL_ends_597 : decode cL_ends 597 = .ok (.aload_n 0, 1) := by decide +kernel
theorem dL_ends_598 : decode cL_ends 598 = .ok (.iconst 5, 1) := by decide +kernel
theorem dL_ends_599 : decode cL_ends 599 = .ok (.invokevirtual 15, 3) := by decide +kernel
theorem dL_ends_602 : decode cL_ends 602 = .ok (.ifCond .ne 39, 3) := by decide +kernel
theorem dL_ends_605 : decode cL_ends 605 = .ok (.aload_n 0, 1) := by decide +kernel
theorem dL_ends_606 : decode cL_ends 606 = .ok (.invokevirtual 85, 3) := by decide +kernel
theorem dL_ends_609 : decode cL_ends 609 = .ok (.iload 5, 2) := by decide +kernel
theorem dL_ends_611 : decode cL_ends 611 = .ok (.if_icmp .ne 30, 3) := by decide +kernel
theorem dL_ends_614 : decode cL_ends 614 = .ok (.aload_n 0, 1) := by decide +kernel
theorem dL_ends_615 : decode cL_ends 615 = .ok (.iload_n 1, 1) := by decide +kernel
theorem dL_ends_616 : decode cL_ends 616 = .ok (.ifCond .ne 7, 3) := by decide +kernel
theorem dL_ends_619 : decode cL_ends 619 = .ok (.iconst 1, 1) := by decide +kernel
theorem dL_ends_620 : decode cL_ends 620 = .ok (.goto 4, 3) := by decide +kernel
theorem dL_ends_623 : decode cL_ends 623 = .ok (.iconst 0, 1) := by decide +kernel
theorem dL_ends_624 : decode cL_ends 624 = .ok (.invokevirtual 59, 3) := by decide +kernel
theorem dL_ends_627 : decode cL_ends 627 = .ok (.ifCond .lt 14, 3) := by decide +kernel
theorem dL_ends_630 : decode cL_ends 630 = .ok (.aload_n 0, 1) := by decide +kernel
theorem dL_ends_631 : decode cL_ends 631 = .ok (.invokevirtual 82, 3) := by decide +kernel
theorem dL_ends_634 : decode cL_ends 634 = .ok (.ifCond .lt 7, 3) := by decide +kernel
theorem dL_ends_637 : decode cL_ends 637 = .ok (.iconst 1, 1) := by decide +kernel
theorem dL_ends_638 : decode cL_ends 638 = .ok (.goto 4, 3) := by decide +kernel
theorem dL_ends_641 : decode cL_ends 641 = .ok (.iconst 0, 1) := by decide +kernel
theorem dL_ends_642 : decode cL_ends 642 = .ok (.ireturn, 1) := by decide +kernel
theorem dL_law_0 : decode cL_law 0 = .ok (.new 10, 3) := by decide +kernel
theorem dL_law_3 : decode cL_law 3 = .ok (.dup, 1) := by decide +kernel
theorem dL_law_4 : decode cL_law 4 = .ok (.invokespecial 88, 3) := by decide +kernel
theorem dL_law_7 : decode cL_law 7 = .ok (.astore_n 1, 1) := by decide +kernel
theorem dL_law_8 : decode cL_law 8 = .ok (.aload_n 1, 1) := by decide +kernel
theorem dL_law_9 : decode cL_law 9 = .ok (.invokevirtual 82, 3) := by decide +kernel
theorem dL_law_12 : decode cL_law 12 = .ok (.bipush (-9), 2) := by decide +kernel
theorem dL_law_14 : decode cL_law 14 = .ok (.if_icmp .ne 54, 3) := by decide +kernel
theorem dL_law_17 : decode cL_law 17 = .ok (.aload_n 1, 1) := by decide +kernel
theorem dL_law_18 : decode cL_law 18 = .ok (.iconst 0, 1) := by decide +kernel
theorem dL_law_19 : decode cL_law 19 = .ok (.invokevirtual 15, 3) := by decide +kernel
theorem dL_law_22 : decode cL_law 22 = .ok (.iconst 1, 1) := by decide +kernel
theorem dL_law_23 : decode cL_law 23 = .ok (.if_icmp .ne 45, 3) := by decide +kernel
theorem dL_law_26 : decode cL_law 26 = .ok (.aload_n 1, 1) := by decide +kernel
theorem dL_law_27 : decode cL_law 27 = .ok (.iconst 2, 1) := by decide +kernel
theorem dL_law_28 : decode cL_law 28 = .ok (.invokevirtual 15, 3) := by decide +kernel
theorem dL_law_31 : decode cL_law 31 = .ok (.ifCond .ne 37, 3) := by decide +kernel
theorem dL_law_34 : decode cL_law 34 = .ok (.aload_n 1, 1) := by decide +kernel
theorem dL_law_35 : decode cL_law 35 = .ok (.iconst 3, 1) := by decide +kernel
theorem dL_law_36 : decode cL_law 36 = .ok (.invokevirtual 15, 3) := by decide +kernel
theorem dL_law_39 : decode cL_law 39 = .ok (.iconst 1, 1) := by decide +kernel
theorem dL_law_40 : decode cL_law 40 = .ok (.if_icmp .ne 28, 3) := by decide +kernel
theorem dL_law_43 : decode cL_law 43 = .ok (.aload_n 1, 1) := by decide +kernel
theorem dL_law_44 : decode cL_law 44 = .ok (.iconst 0, 1) := by decide +kernel
theorem dL_law_45 : decode cL_law 45 = .ok (.invokevirtual 22, 3) := by decide +kernel
theorem dL_law_48 : decode cL_law 48 = .ok (.bipush (-9), 2) := by decide +kernel
theorem dL_law_50 : decode cL_law 50 = .ok (.if_icmp .ne 18, 3) := by decide +kernel
theorem dL_law_53 : decode cL_law 53 = .ok (.aload_n 1, 1) := by decide +kernel
theorem dL_law_54 : decode cL_law 54 = .ok (.invokevirtual 85, 3) := by decide +kernel
theorem dL_law_57 : decode cL_law 57 = .ok (.iconst 1, 1) := by decide +kernel
theorem dL_law_58 : decode cL_law 58 = .ok (.if_icmp .ne 10, 3) := by decide +kernel
theorem dL_law_61 : decode cL_law 61 = .ok (.aload_n 1, 1) := by decide +kernel
theorem dL_law_62 : decode cL_law 62 = .ok (.invokestatic 89, 3) := by decide +kernel
theorem dL_law_65 : decode cL_law 65 = .ok (.ifCond .ne 5, 3) := by decide +kernel
theorem dL_law_68 : decode cL_law 68 = .ok (.iconst 0, 1) := by decide +kernel
theorem dL_law_69 : decode cL_law 69 = .ok (.ireturn, 1) := by decide +kernel
theorem dL_law_70 : decode cL_law 70 = .ok (.iconst 2, 1) := by decide +kernel
theorem dL_law_71 : decode cL_law 71 = .ok (.aload_n 0, 1) := by decide +kernel
theorem dL_law_72 : decode cL_law 72 = .ok (.iconst 0, 1) := by decide +kernel
theorem dL_law_73 : decode cL_law 73 = .ok (.invokestatic 70, 3) := by decide +kernel
theorem dL_law_76 : decode cL_law 76 = .ok (.iconst 3, 1) := by decide +kernel
theorem dL_law_77 : decode cL_law 77 = .ok (.invokestatic 75, 3) := by decide +kernel
theorem dL_law_80 : decode cL_law 80 = .ok (.iadd, 1) := by decide +kernel
theorem dL_law_81 : decode cL_law 81 = .ok (.istore_n 2, 1) := by decide +kernel
theorem dL_law_82 : decode cL_law 82 = .ok (.iconst 2, 1) := by decide +kernel
theorem dL_law_83 : decode cL_law 83 = .ok (.aload_n 0, 1) := by decide +kernel
theorem dL_law_84 : decode cL_law 84 = .ok (.iconst 0, 1) := by decide +kernel
theorem dL_law_85 : decode cL_law 85 = .ok (.invokestatic 70, 3) := by decide +kernel
theorem dL_law_88 : decode cL_law 88 = .ok (.iconst 2, 1) := by decide +kernel
theorem dL_law_89 : decode cL_law 89 = .ok (.ishr, 1) := by decide +kernel
theorem dL_law_90 : decode cL_law 90 = .ok (.iconst 2, 1) := by decide +kernel
theorem dL_law_91 : decode cL_law 91 = .ok (.invokestatic 75, 3) := by decide +kernel
theorem dL_law_94 : decode cL_law 94 = .ok (.iadd, 1) := by decide +kernel
theorem dL_law_95 : decode cL_law 95 = .ok (.istore_n 3, 1) := by decide +kernel
theorem dL_law_96 : decode cL_law 96 = .ok (.aload_n 1, 1) := by decide +kernel
theorem dL_law_97 : decode cL_law 97 = .ok (.aload_n 0, 1) := by decide +kernel
theorem dL_law_98 : decode cL_law 98 = .ok (.iload_n 2, 1) := by decide +kernel
theorem dL_law_99 : decode cL_law 99 = .ok (.iload_n 3, 1) := by decide +kernel
theorem dL_law_100 : decode cL_law 100 = .ok (.invokestatic 93, 3) := by decide +kernel
theorem dL_law_103 : decode cL_law 103 = .ok (.istore 4, 2) := by decide +kernel
theorem dL_law_105 : decode cL_law 105 = .ok (.aload_n 1, 1) := by decide +kernel
theorem dL_law_106 : decode cL_law 106 = .ok (.invokevirtual 96, 3) := by decide +kernel
theorem dL_law_109 : decode cL_law 109 = .ok (.iload 4, 2) := by decide +kernel
theorem dL_law_111 : decode cL_law 111 = .ok (.if_icmp .ne 52, 3) := by decide +kernel
theorem dL_law_114 : decode cL_law 114 = .ok (.aload_n 1, 1) := by decide +kernel
theorem dL_law_115 : decode cL_law 115 = .ok (.invokevirtual 99, 3) := by decide +kernel
theorem dL_law_118 : decode cL_law 118 = .ok (.ifCond .ne 45, 3) := by decide +kernel
theorem dL_law_121 : decode cL_law 121 = .ok (.aload_n 1, 1) := by decide +kernel
theorem dL_law_122 : decode cL_law 122 = .ok (.iconst 2, 1) := by decide +kernel
theorem dL_law_123 : decode cL_law 123 = .ok (.invokevirtual 15, 3) := by decide +kernel
theorem dL_law_126 : decode cL_law 126 = .ok (.iload 4, 2) := by decide +kernel
theorem dL_law_128 : decode cL_law 128 = .ok (.if_icmp .ne 35, 3) := by decide +kernel
theorem dL_law_131 : decode cL_law 131 = .ok (.aload_n 1, 1) := by decide +kernel
theorem dL_law_132 : decode cL_law 132 = .ok (.iconst 0, 1) := by decide +kernel
theorem dL_law_133 : decode cL_law 133 = .ok (.invokevirtual 15, 3) := by decide +kernel
theorem dL_law_136 : decode cL_law 136 = .ok (.iload_n 2, 1) := by decide +kernel
theorem dL_law_137 : decode cL_law 137 = .ok (.if_icmp .ne 26, 3) := by decide +kernel
theorem dL_law_140 : decode cL_law 140 = .ok (.aload_n 1, 1) := by decide +kernel
theorem dL_law_141 : decode cL_law 141 = .ok (.iconst 1, 1) := by decide +kernel
theorem dL_law_142 : decode cL_law 142 = .ok (.invokevirtual 15, 3) := by decide +kernel
theorem dL_law_145 : decode cL_law 145 = .ok (.iload_n 3, 1) := by decide +kernel
theorem dL_law_146 : decode cL_law 146 = .ok (.if_icmp .ne 17, 3) := by decide +kernel
theorem dL_law_149 : decode cL_law 149 = .ok (.aload_n 1, 1) := by decide +kernel
theorem dL_law_150 : decode cL_law 150 = .ok (.invokestatic 102, 3) := by decide +kernel
theorem dL_law_153 : decode cL_law 153 = .ok (.ifCond .eq 10, 3) := by decide +kernel
theorem dL_law_156 : decode cL_law 156 = .ok (.aload_n 1, 1) := by decide +kernel
theorem dL_law_157 : decode cL_law 157 = .ok (.invokestatic 89, 3) := by decide +kernel
theorem dL_law_160 : decode cL_law 160 = .ok (.ifCond .ne 5, 3) := by decide +kernel
theorem dL_law_163 : decode cL_law 163 = .ok (.iconst 0, 1) := by decide +kernel
theorem dL_law_164 : decode cL_law 164 = .ok (.ireturn, 1) := by decide +kernel
theorem dL_law_165 : decode cL_law 165 = .ok (.iconst 0, 1) := by decide +kernel
theorem dL_law_166 : decode cL_law 166 = .ok (.istore 5, 2) := by decide +kernel
theorem dL_law_168 : decode cL_law 168 = .ok (.iload 5, 2) := by decide +kernel
theorem dL_law_170 : decode cL_law 170 = .ok (.iconst 4, 1) := by decide +kernel
theorem dL_law_171 : decode cL_law 171 = .ok (.if_icmp .ge 318, 3) := by decide +kernel
theorem dL_law_174 : decode cL_law 174 = .ok (.iload 4, 2) := by decide +kernel
theorem dL_law_176 : decode cL_law 176 = .ok (.ifCond .le 313, 3) := by decide +kernel
theorem dL_law_179 : decode cL_law 179 = .ok (.aload_n 0, 1) := by decide +kernel
theorem dL_law_180 : decode cL_law 180 = .ok (.bipush 8, 2) := by decide +kernel
theorem dL_law_182 : decode cL_law 182 = .ok (.iload 5, 2) := by decide +kernel
theorem dL_law_184 : decode cL_law 184 = .ok (.iadd, 1) := by decide +kernel
theorem dL_law_185 : decode cL_law 185 = .ok (.invokestatic 70, 3) := by decide +kernel
theorem dL_law_188 : decode cL_law 188 = .ok (.istore 6, 2) := by decide +kernel
theorem dL_law_190 : decode cL_law 190 = .ok (.iload 6, 2) := by decide +kernel
theorem dL_law_192 : decode cL_law 192 = .ok (.iload 4, 2) := by decide +kernel
theorem dL_law_194 : decode cL_law 194 = .ok (.invokestatic 75, 3) := by decide +kernel
theorem dL_law_197 : decode cL_law 197 = .ok (.istore 7, 2) := by decide +kernel
theorem dL_law_199 : decode cL_law 199 = .ok (.iload 6, 2) := by decide +kernel
theorem dL_law_201 : decode cL_law 201 = .ok (.iconst 4, 1) := by decide +kernel
theorem dL_law_202 : decode cL_law 202 = .ok (.ishr, 1) := by decide +kernel
theorem dL_law_203 : decode cL_law 203 = .ok (.iload_n 2, 1) := by decide +kernel
theorem dL_law_204 : decode cL_law 204 = .ok (.iload_n 3, 1) := by decide +kernel
theorem dL_law_205 : decode cL_law 205 = .ok (.imul, 1) := by decide +kernel
theorem dL_law_206 : decode cL_law 206 = .ok (.invokestatic 75, 3) := by decide +kernel
theorem dL_law_209 : decode cL_law 209 = .ok (.istore 8, 2) := by decide +kernel
theorem dL_law_211 : decode cL_law 211 = .ok (.aload_n 1, 1) := by decide +kernel
theorem dL_law_212 : decode cL_law 212 = .ok (.iload 7, 2) := by decide +kernel
theorem dL_law_214 : decode cL_law 214 = .ok (.iload 8, 2) := by decide +kernel
theorem dL_law_216 : decode cL_law 216 = .ok (.invokevirtual 35, 3) := by decide +kernel
theorem dL_law_219 : decode cL_law 219 = .ok (.istore 9, 2) := by decide +kernel
theorem dL_law_221 : decode cL_law 221 = .ok (.iload 8, 2) := by decide +kernel
theorem dL_law_223 : decode cL_law 223 = .ok (.iload_n 2, 1) := by decide +kernel
theorem dL_law_224 : decode cL_law 224 = .ok (.irem, 1) := by decide +kernel
theorem dL_law_225 : decode cL_law 225 = .ok (.aload_n 1, 1) := by decide +kernel
theorem dL_law_226 : decode cL_law 226 = .ok (.iload 7, 2) := by decide +kernel
theorem dL_law_228 : decode cL_law 228 = .ok (.iconst 2, 1) := by decide +kernel
theorem dL_law_229 : decode cL_law 229 = .ok (.invokevirtual 25, 3) := by decide +kernel
theorem dL_law_232 : decode cL_law 232 = .ok (.iadd, 1) := by decide +kernel
theorem dL_law_233 : decode cL_law 233 = .ok (.iload_n 2, 1) := by decide +kernel
theorem dL_law_234 : decode cL_law 234 = .ok (.if_icmp .gt 23, 3) := by decide +kernel
theorem dL_law_237 : decode cL_law 237 = .ok (.iload 8, 2) := by decide +kernel
theorem dL_law_239 : decode cL_law 239 = .ok (.iload_n 2, 1) := by decide +kernel
theorem dL_law_240 : decode cL_law 240 = .ok (.idiv, 1) := by decide +kernel
theorem dL_law_241 : decode cL_law 241 = .ok (.aload_n 1, 1) := by decide +kernel
theorem dL_law_242 : decode cL_law 242 = .ok (.iload 7, 2) := by decide +kernel
theorem dL_law_244 : decode cL_law 244 = .ok (.iconst 3, 1) := by decide +kernel
theorem dL_law_245 : decode cL_law 245 = .ok (.invokevirtual 25, 3) := by decide +kernel
theorem dL_law_248 : decode cL_law 248 = .ok (.iadd, 1) := by decide +kernel
theorem dL_law_249 : decode cL_law 249 = .ok (.iload_n 3, 1) := by decide +kernel
theorem dL_law_250 : decode cL_law 250 = .ok (.if_icmp .gt 7, 3) := by decide +kernel
theorem dL_law_253 : decode cL_law 253 = .ok (.iconst 1, 1) := by decide +kernel
theorem dL_law_254 : decode cL_law 254 = .ok (.goto 4, 3) := by decide +kernel
theorem dL_law_257 : decode cL_law 257 = .ok (.iconst 0, 1) := by decide +kernel
theorem dL_law_258 : decode cL_law 258 = .ok (.istore 10, 2) := by decide +kernel
theorem dL_law_260 : decode cL_law 260 = .ok (.iload 9, 2) := by decide +kernel
theorem dL_law_262 : decode cL_law 262 = .ok (.iload 10, 2) := by decide +kernel
theorem dL_law_264 : decode cL_law 264 = .ok (.ifCond .ne 7, 3) := by decide +kernel
theorem dL_law_267 : decode cL_law 267 = .ok (.iconst (-1), 1) := by decide +kernel
theorem dL_law_268 : decode cL_law 268 = .ok (.goto 20, 3) := by decide +kernel
theorem dL_law_271 : decode cL_law 271 = .ok (.aload_n 1, 1) := by decide +kernel
theorem dL_law_272 : decode cL_law 272 = .ok (.iload 7, 2) := by decide +kernel
theorem dL_law_274 : decode cL_law 274 = .ok (.iconst 0, 1) := by decide +kernel
theorem dL_law_275 : decode cL_law 275 = .ok (.invokevirtual 25, 3) := by decide +kernel
theorem dL_law_278 : decode cL_law 278 = .ok (.iload 8, 2) := by decide +kernel
theorem dL_law_280 : decode cL_law 280 = .ok (.if_icmp .ne 7, 3) := by decide +kernel
theorem dL_law_283 : decode cL_law 283 = .ok (.iconst 1, 1) := by decide +kernel
theorem dL_law_284 : decode cL_law 284 = .ok (.goto 4, 3) := by decide +kernel
theorem dL_law_287 : decode cL_law 287 = .ok (.iconst 0, 1) := by decide +kernel
theorem dL_law_288 : decode cL_law 288 = .ok (.if_icmp .ne 60, 3) := by decide +kernel
theorem dL_law_291 : decode cL_law 291 = .ok (.iload 10, 2) := by decide +kernel
theorem dL_law_293 : decode cL_law 293 = .ok (.ifCond .eq 25, 3) := by decide +kernel
theorem dL_law_296 : decode cL_law 296 = .ok (.aload_n 1, 1) := by decide +kernel
theorem dL_law_297 : decode cL_law 297 = .ok (.bipush 6, 2) := by decide +kernel
theorem dL_law_299 : decode cL_law 299 = .ok (.invokevirtual 15, 3) := by decide +kernel
theorem dL_law_302 : decode cL_law 302 = .ok (.iload 7, 2) := by decide +kernel
theorem dL_law_304 : decode cL_law 304 = .ok (.if_icmp .ne 44, 3) := by decide +kernel
theorem dL_law_307 : decode cL_law 307 = .ok (.aload_n 1, 1) := by decide +kernel
theorem dL_law_308 : decode cL_law 308 = .ok (.bipush 7, 2) := by decide +kernel
theorem dL_law_310 : decode cL_law 310 = .ok (.invokevirtual 15, 3) := by decide +kernel
theorem dL_law_313 : decode cL_law 313 = .ok (.iload 8, 2) := by decide +kernel
theorem dL_law_315 : decode cL_law 315 = .ok (.if_icmp .ne 33, 3) := by decide +kernel
theorem dL_law_318 : decode cL_law 318 = .ok (.iload 10, 2) := by decide +kernel
theorem dL_law_320 : decode cL_law 320 = .ok (.ifCond .eq 30, 3) := by decide +kernel
theorem dL_law_323 : decode cL_law 323 = .ok (.aload_n 1, 1) := by decide +kernel
theorem dL_law_324 : decode cL_law 324 = .ok (.iload 6, 2) := by decide +kernel
theorem dL_law_326 : decode cL_law 326 = .ok (.bipush 10, 2) := by decide +kernel
theorem dL_law_328 : decode cL_law 328 = .ok (.ishr, 1) := by decide +kernel
theorem dL_law_329 : decode cL_law 329 = .ok (.iconst 1, 1) := by decide +kernel
theorem dL_law_330 : decode cL_law 330 = .ok (.iand, 1) := by decide +kernel
theorem dL_law_331 : decode cL_law 331 = .ok (.iconst 1, 1) := by decide +kernel
theorem dL_law_332 : decode cL_law 332 = .ok (.if_icmp .ne 7, 3) := by decide +kernel
theorem dL_law_335 : decode cL_law 335 = .ok (.iconst 1, 1) := by decide +kernel
theorem dL_law_336 : decode cL_law 336 = .ok (.goto 4, 3) := by decide +kernel
theorem dL_law_339 : decode cL_law 339 = .ok (.iconst 0, 1) := by decide +kernel
theorem dL_law_340 : decode cL_law 340 = .ok (.bipush 6, 2) := by decide +kernel
theorem dL_law_342 : decode cL_law 342 = .ok (.invokestatic 105, 3) := by decide +kernel
theorem dL_law_345 : decode cL_law 345 = .ok (.ifCond .ne 5, 3) := by decide +kernel
theorem dL_law_348 : decode cL_law 348 = .ok (.iconst 0, 1) := by decide +kernel
theorem dL_law_349 : decode cL_law 349 = .ok (.ireturn, 1) := by decide +kernel
theorem dL_law_350 : decode cL_law 350 = .ok (.aload_n 1, 1) := by decide +kernel
theorem dL_law_351 : decode cL_law 351 = .ok (.iconst 4, 1) := by decide +kernel
theorem dL_law_352 : decode cL_law 352 = .ok (.invokevirtual 15, 3) := by decide +kernel
theorem dL_law_355 : decode cL_law 355 = .ok (.istore 11, 2) := by decide +kernel
theorem dL_law_357 : decode cL_law 357 = .ok (.aload_n 1, 1) := by decide +kernel
theorem dL_law_358 : decode cL_law 358 = .ok (.iconst 5, 1) := by decide +kernel
theorem dL_law_359 : decode cL_law 359 = .ok (.invokevirtual 15, 3) := by decide +kernel
theorem dL_law_362 : decode cL_law 362 = .ok (.istore 12, 2) := by decide +kernel
theorem dL_law_364 : decode cL_law 364 = .ok (.iconst (-1), 1) := by decide +kernel
theorem dL_law_365 : decode cL_law 365 = .ok (.istore 13, 2) := by decide +kernel
theorem dL_law_367 : decode cL_law 367 = .ok (.iconst 0, 1) := by decide +kernel
theorem dL_law_368 : decode cL_law 368 = .ok (.istore 14, 2) := by decide +kernel
theorem dL_law_370 : decode cL_law 370 = .ok (.iload 14, 2) := by decide +kernel
theorem dL_law_372 : decode cL_law 372 = .ok (.iconst 5, 1) := by decide +kernel
theorem dL_law_373 : decode cL_law 373 = .ok (.if_icmp .ge 110, 3) := by decide +kernel
theorem dL_law_376 : decode cL_law 376 = .ok (.iload 6, 2) := by decide +kernel
theorem dL_law_378 : decode cL_law 378 = .ok (.iconst 3, 1) := by decide +kernel
theorem dL_law_379 : decode cL_law 379 = .ok (.iload 14, 2) := by decide +kernel
theorem dL_law_381 : decode cL_law 381 = .ok (.imul, 1) := by decide +kernel
theorem dL_law_382 : decode cL_law 382 = .ok (.ishr, 1) := by decide +kernel
theorem dL_law_383 : decode cL_law 383 = .ok (.iload 4, 2) := by decide +kernel
theorem dL_law_385 : decode cL_law 385 = .ok (.invokestatic 75, 3) := by decide +kernel
theorem dL_law_388 : decode cL_law 388 = .ok (.istore 15, 2) := by decide +kernel
theorem dL_law_390 : decode cL_law 390 = .ok (.iload 6, 2) := by decide +kernel
theorem dL_law_392 : decode cL_law 392 = .ok (.iconst 5, 1) := by decide +kernel
theorem dL_law_393 : decode cL_law 393 = .ok (.iconst 3, 1) := by decide +kernel
theorem dL_law_394 : decode cL_law 394 = .ok (.iload 14, 2) := by decide +kernel
theorem dL_law_396 : decode cL_law 396 = .ok (.imul, 1) := by decide +kernel
theorem dL_law_397 : decode cL_law 397 = .ok (.iadd, 1) := by decide +kernel
theorem dL_law_398 : decode cL_law 398 = .ok (.ishr, 1) := by decide +kernel
theorem dL_law_399 : decode cL_law 399 = .ok (.iconst 3, 1) := by decide +kernel
theorem dL_law_400 : decode cL_law 400 = .ok (.iand, 1) := by decide +kernel
theorem dL_law_401 : decode cL_law 401 = .ok (.istore 16, 2) := by decide +kernel
theorem dL_law_403 : decode cL_law 403 = .ok (.aload_n 1, 1) := by decide +kernel
theorem dL_law_404 : decode cL_law 404 = .ok (.iload 15, 2) := by decide +kernel
theorem dL_law_406 : decode cL_law 406 = .ok (.iload 16, 2) := by decide +kernel
theorem dL_law_408 : decode cL_law 408 = .ok (.invokevirtual 29, 3) := by decide +kernel
theorem dL_law_411 : decode cL_law 411 = .ok (.ifCond .lt 44, 3) := by decide +kernel
theorem dL_law_414 : decode cL_law 414 = .ok (.iinc 11 1, 3) := by decide +kernel
theorem dL_law_417 : decode cL_law 417 = .ok (.iload 12, 2) := by decide +kernel
theorem dL_law_419 : decode cL_law 419 = .ok (.iload 13, 2) := by decide +kernel
theorem dL_law_421 : decode cL_law 421 = .ok (.iload 15, 2) := by decide +kernel
theorem dL_law_423 : decode cL_law 423 = .ok (.if_icmp .ne 7, 3) := by decide +kernel
theorem dL_law_426 : decode cL_law 426 = .ok (.iconst 0, 1) := by decide +kernel
theorem dL_law_427 : decode cL_law 427 = .ok (.goto 4, 3) := by decide +kernel
theorem dL_law_430 : decode cL_law 430 = .ok (.iconst 1, 1) := by decide +kernel
theorem dL_law_431 : decode cL_law 431 = .ok (.iadd, 1) := by decide +kernel
theorem dL_law_432 : decode cL_law 432 = .ok (.istore 12, 2) := by decide +kernel
theorem dL_law_434 : decode cL_law 434 = .ok (.iload 13, 2) := by decide +kernel
theorem dL_law_436 : decode cL_law 436 = .ok (.ifCond .ge 11, 3) := by decide +kernel
theorem dL_law_439 : decode cL_law 439 = .ok (.aload_n 1, 1) := by decide +kernel
theorem dL_law_440 : decode cL_law 440 = .ok (.iconst 5, 1) := by decide +kernel
theorem dL_law_441 : decode cL_law 441 = .ok (.invokevirtual 15, 3) := by decide +kernel
theorem dL_law_444 : decode cL_law 444 = .ok (.goto 5, 3) := by decide +kernel
theorem dL_law_447 : decode cL_law 447 = .ok (.iload 12, 2) := by decide +kernel
theorem dL_law_449 : decode cL_law 449 = .ok (.istore 12, 2) := by decide +kernel
theorem dL_law_451 : decode cL_law 451 = .ok (.iload 15, 2) := by decide +kernel
theorem dL_law_453 : decode cL_law 453 = .ok (.istore 13, 2) := by decide +kernel
theorem dL_law_455 : decode cL_law 455 = .ok (.aload_n 1, 1) := by decide +kernel
theorem dL_law_456 : decode cL_law 456 = .ok (.iconst 4, 1) := by decide +kernel
theorem dL_law_457 : decode cL_law 457 = .ok (.invokevirtual 15, 3) := by decide +kernel
theorem dL_law_460 : decode cL_law 460 = .ok (.iload 11, 2) := by decide +kernel
theorem dL_law_462 : decode cL_law 462 = .ok (.if_icmp .ne 13, 3) := by decide +kernel
theorem dL_law_465 : decode cL_law 465 = .ok (.aload_n 1, 1) := by decide +kernel
theorem dL_law_466 : decode cL_law 466 = .ok (.iconst 5, 1) := by decide +kernel
theorem dL_law_467 : decode cL_law 467 = .ok (.invokevirtual 15, 3) := by decide +kernel
theorem dL_law_470 : decode cL_law 470 = .ok (.iload 12, 2) := by decide +kernel
theorem dL_law_472 : decode cL_law 472 = .ok (.if_icmp .eq 5, 3) := by decide +kernel
theorem dL_law_475 : decode cL_law 475 = .ok (.iconst 0, 1) := by decide +kernel
theorem dL_law_476 : decode cL_law 476 = .ok (.ireturn, 1) := by decide +kernel
theorem dL_law_477 : decode cL_law 477 = .ok (.iinc 14 1, 3) := by decide +kernel
theorem dL_law_480 : decode cL_law 480 = .ok (.goto (-110), 3) := by decide +kernel
theorem dL_law_483 : decode cL_law 483 = .ok (.iinc 5 1, 3) := by decide +kernel
theorem dL_law_486 : decode cL_law 486 = .ok (.goto (-318), 3) := by decide +kernel
theorem dL_law_489 : decode cL_law 489 = .ok (.aload_n 1, 1) := by decide +kernel
theorem dL_law_490 : decode cL_law 490 = .ok (.invokestatic 102, 3) := by decide +kernel
theorem dL_law_493 : decode cL_law 493 = .ok (.ifCond .eq 14, 3) := by decide +kernel
theorem dL_law_496 : decode cL_law 496 = .ok (.aload_n 1, 1) := by decide +kernel
theorem dL_law_497 : decode cL_law 497 = .ok (.invokestatic 89, 3) := by decide +kernel
theorem dL_law_500 : decode cL_law 500 = .ok (.ifCond .eq 7, 3) := by decide +kernel
theorem dL_law_503 : decode cL_law 503 = .ok (.iconst 1, 1) := by decide +kernel
theorem dL_law_504 : decode cL_law 504 = .ok (.goto 4, 3) := by decide +kernel
theorem dL_law_507 : decode cL_law 507 = .ok (.iconst 0, 1) := by decide +kernel
theorem dL_law_508 : decode cL_law 508 = .ok (.ireturn, 1) := by decide +kernel
