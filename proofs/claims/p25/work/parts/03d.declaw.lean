theorem dL_tables_517 : decode cL_tables 517 = .ok (.iconst 3, 1) := by decide +kernel
theorem dL_tables_518 : decode cL_tables 518 = .ok (.iload 6, 2) := by decide +kernel
theorem dL_tables_520 : decode cL_tables 520 = .ok (.iadd, 1) := by decide +kernel
theorem dL_tables_521 : decode cL_tables 521 = .ok (.iaload, 1) := by decide +kernel
theorem dL_tables_522 : decode cL_tables 522 = .ok (.invokestatic 132, 3) := by decide +kernel
theorem dL_tables_525 : decode cL_tables 525 = .ok (.if_icmp .ne 7, 3) := by decide +kernel
theorem dL_tables_528 : decode cL_tables 528 = .ok (.iconst 1, 1) := by decide +kernel
theorem dL_tables_529 : decode cL_tables 529 = .ok (.goto 4, 3) := by decide +kernel
theorem dL_tables_532 : decode cL_tables 532 = .ok (.iconst 0, 1) := by decide +kernel
theorem dL_tables_533 : decode cL_tables 533 = .ok (.ireturn, 1) := by decide +kernel
theorem dL_tables_534 : decode cL_tables 534 = .ok (.aload 4, 2) := by decide +kernel
theorem dL_tables_536 : decode cL_tables 536 = .ok (.iconst 3, 1) := by decide +kernel
theorem dL_tables_537 : decode cL_tables 537 = .ok (.iload 6, 2) := by decide +kernel
theorem dL_tables_539 : decode cL_tables 539 = .ok (.iadd, 1) := by decide +kernel
theorem dL_tables_540 : decode cL_tables 540 = .ok (.iaload, 1) := by decide +kernel
theorem dL_tables_541 : decode cL_tables 541 = .ok (.iload 7, 2) := by decide +kernel
theorem dL_tables_543 : decode cL_tables 543 = .ok (.ishr, 1) := by decide +kernel
theorem dL_tables_544 : decode cL_tables 544 = .ok (.iconst 1, 1) := by decide +kernel
theorem dL_tables_545 : decode cL_tables 545 = .ok (.iand, 1) := by decide +kernel
theorem dL_tables_546 : decode cL_tables 546 = .ok (.ifCond .ne 39, 3) := by decide +kernel
theorem dL_tables_549 : decode cL_tables 549 = .ok (.aload_n 0, 1) := by decide +kernel
theorem dL_tables_550 : decode cL_tables 550 = .ok (.iload 6, 2) := by decide +kernel
theorem dL_tables_552 : decode cL_tables 552 = .ok (.iload 7, 2) := by decide +kernel
theorem dL_tables_554 : decode cL_tables 554 = .ok (.invokestatic 111, 3) := by decide +kernel
theorem dL_tables_557 : decode cL_tables 557 = .ok (.invokestatic 189, 3) := by decide +kernel
theorem dL_tables_560 : decode cL_tables 560 = .ok (.sipush (-7400), 3) := by decide +kernel
theorem dL_tables_563 : decode cL_tables 563 = .ok (.if_icmp .ne 20, 3) := by decide +kernel
theorem dL_tables_566 : decode cL_tables 566 = .ok (.aload_n 0, 1) := by decide +kernel
theorem dL_tables_567 : decode cL_tables 567 = .ok (.iload 6, 2) := by decide +kernel
theorem dL_tables_569 : decode cL_tables 569 = .ok (.iconst (-1), 1) := by decide +kernel
theorem dL_tables_570 : decode cL_tables 570 = .ok (.invokestatic 189, 3) := by decide +kernel
theorem dL_tables_573 : decode cL_tables 573 = .ok (.sipush (-7400), 3) := by decide +kernel
theorem dL_tables_576 : decode cL_tables 576 = .ok (.if_icmp .ne 7, 3) := by decide +kernel
theorem dL_tables_579 : decode cL_tables 579 = .ok (.iconst 1, 1) := by decide +kernel
theorem dL_tables_580 : decode cL_tables 580 = .ok (.goto 4, 3) := by decide +kernel
theorem dL_tables_583 : decode cL_tables 583 = .ok (.iconst 0, 1) := by decide +kernel
theorem dL_tables_584 : decode cL_tables 584 = .ok (.ireturn, 1) := by decide +kernel
theorem dL_tables_585 : decode cL_tables 585 = .ok (.aload 4, 2) := by decide +kernel
theorem dL_tables_587 : decode cL_tables 587 = .ok (.iconst 3, 1) := by decide +kernel
theorem dL_tables_588 : decode cL_tables 588 = .ok (.iload 6, 2) := by decide +kernel
theorem dL_tables_590 : decode cL_tables 590 = .ok (.iadd, 1) := by decide +kernel
theorem dL_tables_591 : decode cL_tables 591 = .ok (.dup2, 1) := by decide +kernel
theorem dL_tables_592 : decode cL_tables 592 = .ok (.iaload, 1) := by decide +kernel
theorem dL_tables_593 : decode cL_tables 593 = .ok (.iconst 1, 1) := by decide +kernel
theorem dL_tables_594 : decode cL_tables 594 = .ok (.iload 7, 2) := by decide +kernel
theorem dL_tables_596 : decode cL_tables 596 = .ok (.ishl, 1) := by decide +kernel
theorem dL_tables_597 : decode cL_tables 597 = .ok (.iconst (-1), 1) := by decide +kernel
theorem dL_tables_598 : decode cL_tables 598 = .ok (.ixor, 1) := by decide +kernel
theorem dL_tables_599 : decode cL_tables 599 = .ok (.iand, 1) := by decide +kernel
theorem dL_tables_600 : decode cL_tables 600 = .ok (.iastore, 1) := by decide +kernel
theorem dL_tables_601 : decode cL_tables 601 = .ok (.aload_n 0, 1) := by decide +kernel
theorem dL_tables_602 : decode cL_tables 602 = .ok (.iload 6, 2) := by decide +kernel
theorem dL_tables_604 : decode cL_tables 604 = .ok (.iload 7, 2) := by decide +kernel
theorem dL_tables_606 : decode cL_tables 606 = .ok (.invokestatic 111, 3) := by decide +kernel
theorem dL_tables_609 : decode cL_tables 609 = .ok (.invokestatic 189, 3) := by decide +kernel
theorem dL_tables_612 : decode cL_tables 612 = .ok (.aload 4, 2) := by decide +kernel
theorem dL_tables_614 : decode cL_tables 614 = .ok (.iconst 3, 1) := by decide +kernel
theorem dL_tables_615 : decode cL_tables 615 = .ok (.iload 6, 2) := by decide +kernel
theorem dL_tables_617 : decode cL_tables 617 = .ok (.iadd, 1) := by decide +kernel
theorem dL_tables_618 : decode cL_tables 618 = .ok (.iaload, 1) := by decide +kernel
theorem dL_tables_619 : decode cL_tables 619 = .ok (.invokestatic 132, 3) := by decide +kernel
theorem dL_tables_622 : decode cL_tables 622 = .ok (.if_icmp .ne 7, 3) := by decide +kernel
theorem dL_tables_625 : decode cL_tables 625 = .ok (.iconst 1, 1) := by decide +kernel
theorem dL_tables_626 : decode cL_tables 626 = .ok (.goto 4, 3) := by decide +kernel
theorem dL_tables_629 : decode cL_tables 629 = .ok (.iconst 0, 1) := by decide +kernel
theorem dL_tables_630 : decode cL_tables 630 = .ok (.ireturn, 1) := by decide +kernel
theorem dL_drafts_0 : decode cL_drafts 0 = .ok (.iload_n 1, 1) := by decide +kernel
theorem dL_drafts_1 : decode cL_drafts 1 = .ok (.ifCond .ne 70, 3) := by decide +kernel
theorem dL_drafts_4 : decode cL_drafts 4 = .ok (.aload 10, 2) := by decide +kernel
theorem dL_drafts_6 : decode cL_drafts 6 = .ok (.iconst 1, 1) := by decide +kernel
theorem dL_drafts_7 : decode cL_drafts 7 = .ok (.iaload, 1) := by decide +kernel
theorem dL_drafts_8 : decode cL_drafts 8 = .ok (.ifCond .le 63, 3) := by decide +kernel
theorem dL_drafts_11 : decode cL_drafts 11 = .ok (.iload_n 2, 1) := by decide +kernel
theorem dL_drafts_12 : decode cL_drafts 12 = .ok (.aload 10, 2) := by decide +kernel
theorem dL_drafts_14 : decode cL_drafts 14 = .ok (.iconst 1, 1) := by decide +kernel
theorem dL_drafts_15 : decode cL_drafts 15 = .ok (.iaload, 1) := by decide +kernel
theorem dL_drafts_16 : decode cL_drafts 16 = .ok (.invokestatic 180, 3) := by decide +kernel
theorem dL_drafts_19 : decode cL_drafts 19 = .ok (.istore 11, 2) := by decide +kernel
theorem dL_drafts_21 : decode cL_drafts 21 = .ok (.aload 4, 2) := by decide +kernel
theorem dL_drafts_23 : decode cL_drafts 23 = .ok (.aload 5, 2) := by decide +kernel
theorem dL_drafts_25 : decode cL_drafts 25 = .ok (.aload 6, 2) := by decide +kernel
theorem dL_drafts_27 : decode cL_drafts 27 = .ok (.aload 10, 2) := by decide +kernel
theorem dL_drafts_29 : decode cL_drafts 29 = .ok (.invokestatic 121, 3) := by decide +kernel
theorem dL_drafts_32 : decode cL_drafts 32 = .ok (.aload 10, 2) := by decide +kernel
theorem dL_drafts_34 : decode cL_drafts 34 = .ok (.iconst 2, 1) := by decide +kernel
theorem dL_drafts_35 : decode cL_drafts 35 = .ok (.iload 11, 2) := by decide +kernel
theorem dL_drafts_37 : decode cL_drafts 37 = .ok (.iconst 1, 1) := by decide +kernel
theorem dL_drafts_38 : decode cL_drafts 38 = .ok (.iadd, 1) := by decide +kernel
theorem dL_drafts_39 : decode cL_drafts 39 = .ok (.iastore, 1) := by decide +kernel
theorem dL_drafts_40 : decode cL_drafts 40 = .ok (.aload 10, 2) := by decide +kernel
theorem dL_drafts_42 : decode cL_drafts 42 = .ok (.iconst 3, 1) := by decide +kernel
theorem dL_drafts_43 : decode cL_drafts 43 = .ok (.aload 6, 2) := by decide +kernel
theorem dL_drafts_45 : decode cL_drafts 45 = .ok (.iload 11, 2) := by decide +kernel
theorem dL_drafts_47 : decode cL_drafts 47 = .ok (.iaload, 1) := by decide +kernel
theorem dL_drafts_48 : decode cL_drafts 48 = .ok (.iastore, 1) := by decide +kernel
theorem dL_drafts_49 : decode cL_drafts 49 = .ok (.aload_n 0, 1) := by decide +kernel
theorem dL_drafts_50 : decode cL_drafts 50 = .ok (.iload 11, 2) := by decide +kernel
theorem dL_drafts_52 : decode cL_drafts 52 = .ok (.invokestatic 171, 3) := by decide +kernel
theorem dL_drafts_55 : decode cL_drafts 55 = .ok (.aload 10, 2) := by decide +kernel
theorem dL_drafts_57 : decode cL_drafts 57 = .ok (.iconst 3, 1) := by decide +kernel
theorem dL_drafts_58 : decode cL_drafts 58 = .ok (.iaload, 1) := by decide +kernel
theorem dL_drafts_59 : decode cL_drafts 59 = .ok (.invokestatic 132, 3) := by decide +kernel
theorem dL_drafts_62 : decode cL_drafts 62 = .ok (.if_icmp .ne 7, 3) := by decide +kernel
theorem dL_drafts_65 : decode cL_drafts 65 = .ok (.iconst 1, 1) := by decide +kernel
theorem dL_drafts_66 : decode cL_drafts 66 = .ok (.goto 4, 3) := by decide +kernel
theorem dL_drafts_69 : decode cL_drafts 69 = .ok (.iconst 0, 1) := by decide +kernel
theorem dL_drafts_70 : decode cL_drafts 70 = .ok (.ireturn, 1) := by decide +kernel
theorem dL_drafts_71 : decode cL_drafts 71 = .ok (.iload_n 1, 1) := by decide +kernel
theorem dL_drafts_72 : decode cL_drafts 72 = .ok (.iconst 5, 1) := by decide +kernel
theorem dL_drafts_73 : decode cL_drafts 73 = .ok (.if_icmp .ne 236, 3) := by decide +kernel
theorem dL_drafts_76 : decode cL_drafts 76 = .ok (.aload 10, 2) := by decide +kernel
theorem dL_drafts_78 : decode cL_drafts 78 = .ok (.iconst 2, 1) := by decide +kernel
theorem dL_drafts_79 : decode cL_drafts 79 = .ok (.iaload, 1) := by decide +kernel
theorem dL_drafts_80 : decode cL_drafts 80 = .ok (.ifCond .le 18, 3) := by decide +kernel
theorem dL_drafts_83 : decode cL_drafts 83 = .ok (.aload 4, 2) := by decide +kernel
theorem dL_drafts_85 : decode cL_drafts 85 = .ok (.aload 5, 2) := by decide +kernel
theorem dL_drafts_87 : decode cL_drafts 87 = .ok (.aload 6, 2) := by decide +kernel
theorem dL_drafts_89 : decode cL_drafts 89 = .ok (.aload 7, 2) := by decide +kernel
theorem dL_drafts_91 : decode cL_drafts 91 = .ok (.aload 8, 2) := by decide +kernel
theorem dL_drafts_93 : decode cL_drafts 93 = .ok (.aload 10, 2) := by decide +kernel
theorem dL_drafts_95 : decode cL_drafts 95 = .ok (.invokestatic 154, 3) := by decide +kernel
theorem dL_drafts_98 : decode cL_drafts 98 = .ok (.aload 10, 2) := by decide +kernel
theorem dL_drafts_100 : decode cL_drafts 100 = .ok (.iconst 2, 1) := by decide +kernel
theorem dL_drafts_101 : decode cL_drafts 101 = .ok (.iaload, 1) := by decide +kernel
theorem dL_drafts_102 : decode cL_drafts 102 = .ok (.ifCond .eq 10, 3) := by decide +kernel
theorem dL_drafts_105 : decode cL_drafts 105 = .ok (.aload 10, 2) := by decide +kernel
theorem dL_drafts_107 : decode cL_drafts 107 = .ok (.iconst 4, 1) := by decide +kernel
theorem dL_drafts_108 : decode cL_drafts 108 = .ok (.iaload, 1) := by decide +kernel
theorem dL_drafts_109 : decode cL_drafts 109 = .ok (.ifCond .le 19, 3) := by decide +kernel
theorem dL_drafts_112 : decode cL_drafts 112 = .ok (.aload_n 0, 1) := by decide +kernel
theorem dL_drafts_113 : decode cL_drafts 113 = .ok (.invokestatic 192, 3) := by decide +kernel
theorem dL_drafts_116 : decode cL_drafts 116 = .ok (.sipush (-7300), 3) := by decide +kernel
theorem dL_drafts_119 : decode cL_drafts 119 = .ok (.if_icmp .ne 7, 3) := by decide +kernel
theorem dL_drafts_122 : decode cL_drafts 122 = .ok (.iconst 1, 1) := by decide +kernel
theorem dL_drafts_123 : decode cL_drafts 123 = .ok (.goto 4, 3) := by decide +kernel
theorem dL_drafts_126 : decode cL_drafts 126 = .ok (.iconst 0, 1) := by decide +kernel
theorem dL_drafts_127 : decode cL_drafts 127 = .ok (.ireturn, 1) := by decide +kernel
theorem dL_drafts_128 : decode cL_drafts 128 = .ok (.iconst 0, 1) := by decide +kernel
theorem dL_drafts_129 : decode cL_drafts 129 = .ok (.istore 11, 2) := by decide +kernel
theorem dL_drafts_131 : decode cL_drafts 131 = .ok (.aload 10, 2) := by decide +kernel
theorem dL_drafts_133 : decode cL_drafts 133 = .ok (.bipush 6, 2) := by decide +kernel
theorem dL_drafts_135 : decode cL_drafts 135 = .ok (.iaload, 1) := by decide +kernel
theorem dL_drafts_136 : decode cL_drafts 136 = .ok (.iconst 5, 1) := by decide +kernel
theorem dL_drafts_137 : decode cL_drafts 137 = .ok (.if_icmp .ne 40, 3) := by decide +kernel
theorem dL_drafts_140 : decode cL_drafts 140 = .ok (.iconst 0, 1) := by decide +kernel
theorem dL_drafts_141 : decode cL_drafts 141 = .ok (.istore 12, 2) := by decide +kernel
theorem dL_drafts_143 : decode cL_drafts 143 = .ok (.iload 12, 2) := by decide +kernel
theorem dL_drafts_145 : decode cL_drafts 145 = .ok (.bipush 12, 2) := by decide +kernel
theorem dL_drafts_147 : decode cL_drafts 147 = .ok (.if_icmp .ge 21, 3) := by decide +kernel
theorem dL_drafts_150 : decode cL_drafts 150 = .ok (.aload 9, 2) := by decide +kernel
theorem dL_drafts_152 : decode cL_drafts 152 = .ok (.iload 12, 2) := by decide +kernel
theorem dL_drafts_154 : decode cL_drafts 154 = .ok (.aload 9, 2) := by decide +kernel
theorem dL_drafts_156 : decode cL_drafts 156 = .ok (.iload 12, 2) := by decide +kernel
theorem dL_drafts_158 : decode cL_drafts 158 = .ok (.iconst 3, 1) := by decide +kernel
theorem dL_drafts_159 : decode cL_drafts 159 = .ok (.iadd, 1) := by decide +kernel
theorem dL_drafts_160 : decode cL_drafts 160 = .ok (.iaload, 1) := by decide +kernel
theorem dL_drafts_161 : decode cL_drafts 161 = .ok (.iastore, 1) := by decide +kernel
theorem dL_drafts_162 : decode cL_drafts 162 = .ok (.iinc 12 1, 3) := by decide +kernel
theorem dL_drafts_165 : decode cL_drafts 165 = .ok (.goto (-22), 3) := by decide +kernel
theorem dL_drafts_168 : decode cL_drafts 168 = .ok (.aload 10, 2) := by decide +kernel
theorem dL_drafts_170 : decode cL_drafts 170 = .ok (.bipush 6, 2) := by decide +kernel
theorem dL_drafts_172 : decode cL_drafts 172 = .ok (.dup2, 1) := by decide +kernel
theorem dL_drafts_173 : decode cL_drafts 173 = .ok (.iaload, 1) := by decide +kernel
theorem dL_drafts_174 : decode cL_drafts 174 = .ok (.iconst 1, 1) := by decide +kernel
theorem dL_drafts_175 : decode cL_drafts 175 = .ok (.isub, 1) := by decide +kernel
theorem dL_drafts_176 : decode cL_drafts 176 = .ok (.iastore, 1) := by decide +kernel
theorem dL_drafts_177 : decode cL_drafts 177 = .ok (.iconst 0, 1) := by decide +kernel
theorem dL_drafts_178 : decode cL_drafts 178 = .ok (.istore 12, 2) := by decide +kernel
theorem dL_drafts_180 : decode cL_drafts 180 = .ok (.iload 12, 2) := by decide +kernel
theorem dL_drafts_182 : decode cL_drafts 182 = .ok (.iconst 3, 1) := by decide +kernel
theorem dL_drafts_183 : decode cL_drafts 183 = .ok (.if_icmp .ge 62, 3) := by decide +kernel
theorem dL_drafts_186 : decode cL_drafts 186 = .ok (.iload 11, 2) := by decide +kernel
theorem dL_drafts_188 : decode cL_drafts 188 = .ok (.aload 8, 2) := by decide +kernel
theorem dL_drafts_190 : decode cL_drafts 190 = .ok (.iload 12, 2) := by decide +kernel
theorem dL_drafts_192 : decode cL_drafts 192 = .ok (.iaload, 1) := by decide +kernel
theorem dL_drafts_193 : decode cL_drafts 193 = .ok (.aload 4, 2) := by decide +kernel
theorem dL_drafts_195 : decode cL_drafts 195 = .ok (.iconst 3, 1) := by decide +kernel
theorem dL_drafts_196 : decode cL_drafts 196 = .ok (.iload 12, 2) := by decide +kernel
theorem dL_drafts_198 : decode cL_drafts 198 = .ok (.iadd, 1) := by decide +kernel
theorem dL_drafts_199 : decode cL_drafts 199 = .ok (.iaload, 1) := by decide +kernel
theorem dL_drafts_200 : decode cL_drafts 200 = .ok (.ixor, 1) := by decide +kernel
theorem dL_drafts_201 : decode cL_drafts 201 = .ok (.invokestatic 132, 3) := by decide +kernel
theorem dL_drafts_204 : decode cL_drafts 204 = .ok (.iadd, 1) := by decide +kernel
theorem dL_drafts_205 : decode cL_drafts 205 = .ok (.istore 11, 2) := by decide +kernel
theorem dL_drafts_207 : decode cL_drafts 207 = .ok (.aload 9, 2) := by decide +kernel
theorem dL_drafts_209 : decode cL_drafts 209 = .ok (.iconst 3, 1) := by decide +kernel
theorem dL_drafts_210 : decode cL_drafts 210 = .ok (.aload 10, 2) := by decide +kernel
theorem dL_drafts_212 : decode cL_drafts 212 = .ok (.bipush 6, 2) := by decide +kernel
theorem dL_drafts_214 : decode cL_drafts 214 = .ok (.iaload, 1) := by decide +kernel
theorem dL_drafts_215 : decode cL_drafts 215 = .ok (.imul, 1) := by decide +kernel
theorem dL_drafts_216 : decode cL_drafts 216 = .ok (.iload 12, 2) := by decide +kernel
theorem dL_drafts_218 : decode cL_drafts 218 = .ok (.iadd, 1) := by decide +kernel
theorem dL_drafts_219 : decode cL_drafts 219 = .ok (.aload 4, 2) := by decide +kernel
theorem dL_drafts_221 : decode cL_drafts 221 = .ok (.iconst 3, 1) := by decide +kernel
theorem dL_drafts_222 : decode cL_drafts 222 = .ok (.iload 12, 2) := by decide +kernel
theorem dL_drafts_224 : decode cL_drafts 224 = .ok (.iadd, 1) := by decide +kernel
theorem dL_drafts_225 : decode cL_drafts 225 = .ok (.iaload, 1) := by decide +kernel
theorem dL_drafts_226 : decode cL_drafts 226 = .ok (.iastore, 1) := by decide +kernel
theorem dL_drafts_227 : decode cL_drafts 227 = .ok (.aload 4, 2) := by decide +kernel
theorem dL_drafts_229 : decode cL_drafts 229 = .ok (.iconst 3, 1) := by decide +kernel
theorem dL_drafts_230 : decode cL_drafts 230 = .ok (.iload 12, 2) := by decide +kernel
theorem dL_drafts_232 : decode cL_drafts 232 = .ok (.iadd, 1) := by decide +kernel
theorem dL_drafts_233 : decode cL_drafts 233 = .ok (.aload 8, 2) := by decide +kernel
theorem dL_drafts_235 : decode cL_drafts 235 = .ok (.iload 12, 2) := by decide +kernel
theorem dL_drafts_237 : decode cL_drafts 237 = .ok (.iaload, 1) := by decide +kernel
theorem dL_drafts_238 : decode cL_drafts 238 = .ok (.iastore, 1) := by decide +kernel
theorem dL_drafts_239 : decode cL_drafts 239 = .ok (.iinc 12 1, 3) := by decide +kernel
theorem dL_drafts_242 : decode cL_drafts 242 = .ok (.goto (-62), 3) := by decide +kernel
theorem dL_drafts_245 : decode cL_drafts 245 = .ok (.aload 10, 2) := by decide +kernel
theorem dL_drafts_247 : decode cL_drafts 247 = .ok (.bipush 6, 2) := by decide +kernel
theorem dL_drafts_249 : decode cL_drafts 249 = .ok (.dup2, 1) := by decide +kernel
theorem dL_drafts_250 : decode cL_drafts 250 = .ok (.iaload, 1) := by decide +kernel
theorem dL_drafts_251 : decode cL_drafts 251 = .ok (.iconst 1, 1) := by decide +kernel
theorem dL_drafts_252 : decode cL_drafts 252 = .ok (.iadd, 1) := by decide +kernel
theorem dL_drafts_253 : decode cL_drafts 253 = .ok (.iastore, 1) := by decide +kernel
theorem dL_drafts_254 : decode cL_drafts 254 = .ok (.aload 10, 2) := by decide +kernel
theorem dL_drafts_256 : decode cL_drafts 256 = .ok (.iconst 2, 1) := by decide +kernel
theorem dL_drafts_257 : decode cL_drafts 257 = .ok (.iaload, 1) := by decide +kernel
theorem dL_drafts_258 : decode cL_drafts 258 = .ok (.iconst 1, 1) := by decide +kernel
theorem dL_drafts_259 : decode cL_drafts 259 = .ok (.isub, 1) := by decide +kernel
theorem dL_drafts_260 : decode cL_drafts 260 = .ok (.istore 12, 2) := by decide +kernel
theorem dL_drafts_262 : decode cL_drafts 262 = .ok (.aload 10, 2) := by decide +kernel
theorem dL_drafts_264 : decode cL_drafts 264 = .ok (.iconst 3, 1) := by decide +kernel
theorem dL_drafts_265 : decode cL_drafts 265 = .ok (.iaload, 1) := by decide +kernel
theorem dL_drafts_266 : decode cL_drafts 266 = .ok (.istore 13, 2) := by decide +kernel
theorem dL_drafts_268 : decode cL_drafts 268 = .ok (.aload 10, 2) := by decide +kernel
theorem dL_drafts_270 : decode cL_drafts 270 = .ok (.iconst 2, 1) := by decide +kernel
theorem dL_drafts_271 : decode cL_drafts 271 = .ok (.iconst 0, 1) := by decide +kernel
theorem dL_drafts_272 : decode cL_drafts 272 = .ok (.iastore, 1) := by decide +kernel
theorem dL_drafts_273 : decode cL_drafts 273 = .ok (.aload 4, 2) := by decide +kernel
theorem dL_drafts_275 : decode cL_drafts 275 = .ok (.aload 5, 2) := by decide +kernel
theorem dL_drafts_277 : decode cL_drafts 277 = .ok (.aload 6, 2) := by decide +kernel
theorem dL_drafts_279 : decode cL_drafts 279 = .ok (.aload 10, 2) := by decide +kernel
theorem dL_drafts_281 : decode cL_drafts 281 = .ok (.invokestatic 121, 3) := by decide +kernel
theorem dL_drafts_284 : decode cL_drafts 284 = .ok (.aload_n 0, 1) := by decide +kernel
theorem dL_drafts_285 : decode cL_drafts 285 = .ok (.invokestatic 192, 3) := by decide +kernel
theorem dL_drafts_288 : decode cL_drafts 288 = .ok (.iload 11, 2) := by decide +kernel
theorem dL_drafts_290 : decode cL_drafts 290 = .ok (.if_icmp .ne 17, 3) := by decide +kernel
theorem dL_drafts_293 : decode cL_drafts 293 = .ok (.aload 6, 2) := by decide +kernel
theorem dL_drafts_295 : decode cL_drafts 295 = .ok (.iload 12, 2) := by decide +kernel
theorem dL_drafts_297 : decode cL_drafts 297 = .ok (.iaload, 1) := by decide +kernel
theorem dL_drafts_298 : decode cL_drafts 298 = .ok (.iload 13, 2) := by decide +kernel
theorem dL_drafts_300 : decode cL_drafts 300 = .ok (.if_icmp .ne 7, 3) := by decide +kernel
theorem dL_drafts_303 : decode cL_drafts 303 = .ok (.iconst 1, 1) := by decide +kernel
theorem dL_drafts_304 : decode cL_drafts 304 = .ok (.goto 4, 3) := by decide +kernel
theorem dL_drafts_307 : decode cL_drafts 307 = .ok (.iconst 0, 1) := by decide +kernel
theorem dL_drafts_308 : decode cL_drafts 308 = .ok (.ireturn, 1) := by decide +kernel
theorem dL_drafts_309 : decode cL_drafts 309 = .ok (.iload_n 1, 1) := by decide +kernel
theorem dL_drafts_310 : decode cL_drafts 310 = .ok (.bipush 6, 2) := by decide +kernel
theorem dL_drafts_312 : decode cL_drafts 312 = .ok (.if_icmp .ne 89, 3) := by decide +kernel
theorem dL_drafts_315 : decode cL_drafts 315 = .ok (.aload 10, 2) := by decide +kernel
theorem dL_drafts_317 : decode cL_drafts 317 = .ok (.bipush 6, 2) := by decide +kernel
theorem dL_drafts_319 : decode cL_drafts 319 = .ok (.iaload, 1) := by decide +kernel
theorem dL_drafts_320 : decode cL_drafts 320 = .ok (.ifCond .ne 19, 3) := by decide +kernel
theorem dL_drafts_323 : decode cL_drafts 323 = .ok (.aload_n 0, 1) := by decide +kernel
theorem dL_drafts_324 : decode cL_drafts 324 = .ok (.invokestatic 194, 3) := by decide +kernel
theorem dL_drafts_327 : decode cL_drafts 327 = .ok (.sipush (-7300), 3) := by decide +kernel
theorem dL_drafts_330 : decode cL_drafts 330 = .ok (.if_icmp .ne 7, 3) := by decide +kernel
theorem dL_drafts_333 : decode cL_drafts 333 = .ok (.iconst 1, 1) := by decide +kernel
theorem dL_drafts_334 : decode cL_drafts 334 = .ok (.goto 4, 3) := by decide +kernel
theorem dL_drafts_337 : decode cL_drafts 337 = .ok (.iconst 0, 1) := by decide +kernel
theorem dL_drafts_338 : decode cL_drafts 338 = .ok (.ireturn, 1) := by decide +kernel
theorem dL_drafts_339 : decode cL_drafts 339 = .ok (.aload 10, 2) := by decide +kernel
theorem dL_drafts_341 : decode cL_drafts 341 = .ok (.bipush 6, 2) := by decide +kernel
theorem dL_drafts_343 : decode cL_drafts 343 = .ok (.dup2, 1) := by decide +kernel
theorem dL_drafts_344 : decode cL_drafts 344 = .ok (.iaload, 1) := by decide +kernel
theorem dL_drafts_345 : decode cL_drafts 345 = .ok (.iconst 1, 1) := by decide +kernel
theorem dL_drafts_346 : decode cL_drafts 346 = .ok (.isub, 1) := by decide +kernel
theorem dL_drafts_347 : decode cL_drafts 347 = .ok (.iastore, 1) := by decide +kernel
theorem dL_drafts_348 : decode cL_drafts 348 = .ok (.iconst 0, 1) := by decide +kernel
theorem dL_drafts_349 : decode cL_drafts 349 = .ok (.istore 11, 2) := by decide +kernel
theorem dL_drafts_351 : decode cL_drafts 351 = .ok (.iload 11, 2) := by decide +kernel
theorem dL_drafts_353 : decode cL_drafts 353 = .ok (.iconst 3, 1) := by decide +kernel
theorem dL_drafts_354 : decode cL_drafts 354 = .ok (.if_icmp .ge 29, 3) := by decide +kernel
theorem dL_drafts_357 : decode cL_drafts 357 = .ok (.aload 4, 2) := by decide +kernel
theorem dL_drafts_359 : decode cL_drafts 359 = .ok (.iconst 3, 1) := by decide +kernel
theorem dL_drafts_360 : decode cL_drafts 360 = .ok (.iload 11, 2) := by decide +kernel
theorem dL_drafts_362 : decode cL_drafts 362 = .ok (.iadd, 1) := by decide +kernel
theorem dL_drafts_363 : decode cL_drafts 363 = .ok (.aload 9, 2) := by decide +kernel
theorem dL_drafts_365 : decode cL_drafts 365 = .ok (.iconst 3, 1) := by decide +kernel
theorem dL_drafts_366 : decode cL_drafts 366 = .ok (.aload 10, 2) := by decide +kernel
theorem dL_drafts_368 : decode cL_drafts 368 = .ok (.bipush 6, 2) := by decide +kernel
theorem dL_drafts_370 : decode cL_drafts 370 = .ok (.iaload, 1) := by decide +kernel
theorem dL_drafts_371 : decode cL_drafts 371 = .ok (.imul, 1) := by decide +kernel
theorem dL_drafts_372 : decode cL_drafts 372 = .ok (.iload 11, 2) := by decide +kernel
theorem dL_drafts_374 : decode cL_drafts 374 = .ok (.iadd, 1) := by decide +kernel
theorem dL_drafts_375 : decode cL_drafts 375 = .ok (.iaload, 1) := by decide +kernel
theorem dL_drafts_376 : decode cL_drafts 376 = .ok (.iastore, 1) := by decide +kernel
theorem dL_drafts_377 : decode cL_drafts 377 = .ok (.iinc 11 1, 3) := by decide +kernel
theorem dL_drafts_380 : decode cL_drafts 380 = .ok (.goto (-29), 3) := by decide +kernel
theorem dL_drafts_383 : decode cL_drafts 383 = .ok (.aload_n 0, 1) := by decide +kernel
theorem dL_drafts_384 : decode cL_drafts 384 = .ok (.invokestatic 194, 3) := by decide +kernel
theorem dL_drafts_387 : decode cL_drafts 387 = .ok (.aload 10, 2) := by decide +kernel
theorem dL_drafts_389 : decode cL_drafts 389 = .ok (.bipush 6, 2) := by decide +kernel
theorem dL_drafts_391 : decode cL_drafts 391 = .ok (.iaload, 1) := by decide +kernel
theorem dL_drafts_392 : decode cL_drafts 392 = .ok (.if_icmp .ne 7, 3) := by decide +kernel
theorem dL_drafts_395 : decode cL_drafts 395 = .ok (.iconst 1, 1) := by decide +kernel
theorem dL_drafts_396 : decode cL_drafts 396 = .ok (.goto 4, 3) := by decide +kernel
theorem dL_drafts_399 : decode cL_drafts 399 = .ok (.iconst 0, 1) := by decide +kernel
theorem dL_drafts_400 : decode cL_drafts 400 = .ok (.ireturn, 1) := by decide +kernel
theorem dL_drafts_401 : decode cL_drafts 401 = .ok (.aload 10, 2) := by decide +kernel
theorem dL_drafts_403 : decode cL_drafts 403 = .ok (.iconst 2, 1) := by decide +kernel
theorem dL_drafts_404 : decode cL_drafts 404 = .ok (.iaload, 1) := by decide +kernel
theorem dL_drafts_405 : decode cL_drafts 405 = .ok (.ifCond .ne 54, 3) := by decide +kernel
theorem dL_drafts_408 : decode cL_drafts 408 = .ok (.aload_n 0, 1) := by decide +kernel
theorem dL_drafts_409 : decode cL_drafts 409 = .ok (.iconst 0, 1) := by decide +kernel
theorem dL_drafts_410 : decode cL_drafts 410 = .ok (.invokestatic 147, 3) := by decide +kernel
theorem dL_drafts_413 : decode cL_drafts 413 = .ok (.sipush (-7300), 3) := by decide +kernel
theorem dL_drafts_416 : decode cL_drafts 416 = .ok (.if_icmp .ne 41, 3) := by decide +kernel
theorem dL_drafts_419 : decode cL_drafts 419 = .ok (.aload_n 0, 1) := by decide +kernel
theorem dL_drafts_420 : decode cL_drafts 420 = .ok (.iconst 0, 1) := by decide +kernel
theorem dL_drafts_421 : decode cL_drafts 421 = .ok (.invokestatic 149, 3) := by decide +kernel
theorem dL_drafts_424 : decode cL_drafts 424 = .ok (.sipush (-7300), 3) := by decide +kernel
theorem dL_drafts_427 : decode cL_drafts 427 = .ok (.if_icmp .ne 30, 3) := by decide +kernel
theorem dL_drafts_430 : decode cL_drafts 430 = .ok (.aload_n 0, 1) := by decide +kernel
theorem dL_drafts_431 : decode cL_drafts 431 = .ok (.iconst 0, 1) := by decide +kernel
theorem dL_drafts_432 : decode cL_drafts 432 = .ok (.iconst 0, 1) := by decide +kernel
theorem dL_drafts_433 : decode cL_drafts 433 = .ok (.iconst 0, 1) := by decide +kernel
theorem dL_drafts_434 : decode cL_drafts 434 = .ok (.invokestatic 151, 3) := by decide +kernel
theorem dL_drafts_437 : decode cL_drafts 437 = .ok (.sipush (-7300), 3) := by decide +kernel
theorem dL_drafts_440 : decode cL_drafts 440 = .ok (.if_icmp .ne 17, 3) := by decide +kernel
theorem dL_drafts_443 : decode cL_drafts 443 = .ok (.aload_n 0, 1) := by decide +kernel
theorem dL_drafts_444 : decode cL_drafts 444 = .ok (.invokestatic 192, 3) := by decide +kernel
theorem dL_drafts_447 : decode cL_drafts 447 = .ok (.sipush (-7300), 3) := by decide +kernel
theorem dL_drafts_450 : decode cL_drafts 450 = .ok (.if_icmp .ne 7, 3) := by decide +kernel
theorem dL_drafts_453 : decode cL_drafts 453 = .ok (.iconst 1, 1) := by decide +kernel
theorem dL_drafts_454 : decode cL_drafts 454 = .ok (.goto 4, 3) := by decide +kernel
theorem dL_drafts_457 : decode cL_drafts 457 = .ok (.iconst 0, 1) := by decide +kernel
theorem dL_drafts_458 : decode cL_drafts 458 = .ok (.ireturn, 1) := by decide +kernel
theorem dL_drafts_459 : decode cL_drafts 459 = .ok (.aload 5, 2) := by decide +kernel
theorem dL_drafts_461 : decode cL_drafts 461 = .ok (.aload 10, 2) := by decide +kernel
theorem dL_drafts_463 : decode cL_drafts 463 = .ok (.iconst 2, 1) := by decide +kernel
theorem dL_drafts_464 : decode cL_drafts 464 = .ok (.iaload, 1) := by decide +kernel
theorem dL_drafts_465 : decode cL_drafts 465 = .ok (.iconst 1, 1) := by decide +kernel
theorem dL_drafts_466 : decode cL_drafts 466 = .ok (.isub, 1) := by decide +kernel
theorem dL_drafts_467 : decode cL_drafts 467 = .ok (.invokestatic 107, 3) := by decide +kernel
theorem dL_drafts_470 : decode cL_drafts 470 = .ok (.istore 11, 2) := by decide +kernel
theorem dL_drafts_472 : decode cL_drafts 472 = .ok (.iload_n 3, 1) := by decide +kernel
theorem dL_drafts_473 : decode cL_drafts 473 = .ok (.bipush 27, 2) := by decide +kernel
theorem dL_drafts_475 : decode cL_drafts 475 = .ok (.invokestatic 180, 3) := by decide +kernel
theorem dL_drafts_478 : decode cL_drafts 478 = .ok (.iload 11, 2) := by decide +kernel
theorem dL_drafts_480 : decode cL_drafts 480 = .ok (.invokestatic 97, 3) := by decide +kernel
theorem dL_drafts_483 : decode cL_drafts 483 = .ok (.istore 12, 2) := by decide +kernel
theorem dL_drafts_485 : decode cL_drafts 485 = .ok (.iconst 0, 1) := by decide +kernel
theorem dL_drafts_486 : decode cL_drafts 486 = .ok (.istore 13, 2) := by decide +kernel
theorem dL_drafts_488 : decode cL_drafts 488 = .ok (.iload 13, 2) := by decide +kernel
theorem dL_drafts_490 : decode cL_drafts 490 = .ok (.bipush 27, 2) := by decide +kernel
theorem dL_drafts_492 : decode cL_drafts 492 = .ok (.if_icmp .ge 42, 3) := by decide +kernel
theorem dL_drafts_495 : decode cL_drafts 495 = .ok (.iload_n 1, 1) := by decide +kernel
theorem dL_drafts_496 : decode cL_drafts 496 = .ok (.iconst 1, 1) := by decide +kernel
theorem dL_drafts_497 : decode cL_drafts 497 = .ok (.if_icmp .le 37, 3) := by decide +kernel
theorem dL_drafts_500 : decode cL_drafts 500 = .ok (.iload_n 2, 1) := by decide +kernel
theorem dL_drafts_501 : decode cL_drafts 501 = .ok (.bipush 24, 2) := by decide +kernel
theorem dL_drafts_503 : decode cL_drafts 503 = .ok (.iand, 1) := by decide +kernel
theorem dL_drafts_504 : decode cL_drafts 504 = .ok (.ifCond .le 30, 3) := by decide +kernel
theorem dL_drafts_507 : decode cL_drafts 507 = .ok (.aload 10, 2) := by decide +kernel
theorem dL_drafts_509 : decode cL_drafts 509 = .ok (.iconst 3, 1) := by decide +kernel
theorem dL_drafts_510 : decode cL_drafts 510 = .ok (.iaload, 1) := by decide +kernel
theorem dL_drafts_511 : decode cL_drafts 511 = .ok (.iload 12, 2) := by decide +kernel
theorem dL_drafts_513 : decode cL_drafts 513 = .ok (.ishr, 1) := by decide +kernel
theorem dL_drafts_514 : decode cL_drafts 514 = .ok (.iconst 1, 1) := by decide +kernel
theorem dL_drafts_515 : decode cL_drafts 515 = .ok (.iand, 1) := by decide +kernel
theorem dL_drafts_516 : decode cL_drafts 516 = .ok (.ifCond .ne 18, 3) := by decide +kernel
theorem dL_drafts_519 : decode cL_drafts 519 = .ok (.iload 12, 2) := by decide +kernel
theorem dL_drafts_521 : decode cL_drafts 521 = .ok (.iconst 1, 1) := by decide +kernel
theorem dL_drafts_522 : decode cL_drafts 522 = .ok (.iadd, 1) := by decide +kernel
theorem dL_drafts_523 : decode cL_drafts 523 = .ok (.bipush 27, 2) := by decide +kernel
theorem dL_drafts_525 : decode cL_drafts 525 = .ok (.irem, 1) := by decide +kernel
theorem dL_drafts_526 : decode cL_drafts 526 = .ok (.istore 12, 2) := by decide +kernel
theorem dL_drafts_528 : decode cL_drafts 528 = .ok (.iinc 13 1, 3) := by decide +kernel
theorem dL_drafts_531 : decode cL_drafts 531 = .ok (.goto (-43), 3) := by decide +kernel
theorem dL_drafts_534 : decode cL_drafts 534 = .ok (.iload_n 1, 1) := by decide +kernel
theorem dL_drafts_535 : decode cL_drafts 535 = .ok (.iconst 1, 1) := by decide +kernel
theorem dL_drafts_536 : decode cL_drafts 536 = .ok (.if_icmp .ne 121, 3) := by decide +kernel
theorem dL_drafts_539 : decode cL_drafts 539 = .ok (.aload 10, 2) := by decide +kernel
theorem dL_drafts_541 : decode cL_drafts 541 = .ok (.iconst 3, 1) := by decide +kernel
theorem dL_drafts_542 : decode cL_drafts 542 = .ok (.iaload, 1) := by decide +kernel
theorem dL_drafts_543 : decode cL_drafts 543 = .ok (.iload 12, 2) := by decide +kernel
theorem dL_drafts_545 : decode cL_drafts 545 = .ok (.ishr, 1) := by decide +kernel
theorem dL_drafts_546 : decode cL_drafts 546 = .ok (.iconst 1, 1) := by decide +kernel
theorem dL_drafts_547 : decode cL_drafts 547 = .ok (.iand, 1) := by decide +kernel
theorem dL_drafts_548 : decode cL_drafts 548 = .ok (.iconst 1, 1) := by decide +kernel
theorem dL_drafts_549 : decode cL_drafts 549 = .ok (.if_icmp .eq 15, 3) := by decide +kernel
theorem dL_drafts_552 : decode cL_drafts 552 = .ok (.aload 10, 2) := by decide +kernel
theorem dL_drafts_554 : decode cL_drafts 554 = .ok (.iconst 3, 1) := by decide +kernel
theorem dL_drafts_555 : decode cL_drafts 555 = .ok (.iaload, 1) := by decide +kernel
theorem dL_drafts_556 : decode cL_drafts 556 = .ok (.invokestatic 132, 3) := by decide +kernel
theorem dL_drafts_559 : decode cL_drafts 559 = .ok (.bipush 20, 2) := by decide +kernel
theorem dL_drafts_561 : decode cL_drafts 561 = .ok (.if_icmp .ne 24, 3) := by decide +kernel
theorem dL_drafts_564 : decode cL_drafts 564 = .ok (.aload_n 0, 1) := by decide +kernel
theorem dL_drafts_565 : decode cL_drafts 565 = .ok (.iload 12, 2) := by decide +kernel
theorem dL_drafts_567 : decode cL_drafts 567 = .ok (.invokestatic 111, 3) := by decide +kernel
theorem dL_drafts_570 : decode cL_drafts 570 = .ok (.invokestatic 147, 3) := by decide +kernel
theorem dL_drafts_573 : decode cL_drafts 573 = .ok (.sipush (-7300), 3) := by decide +kernel
theorem dL_drafts_576 : decode cL_drafts 576 = .ok (.if_icmp .ne 7, 3) := by decide +kernel
theorem dL_drafts_579 : decode cL_drafts 579 = .ok (.iconst 1, 1) := by decide +kernel
theorem dL_drafts_580 : decode cL_drafts 580 = .ok (.goto 4, 3) := by decide +kernel
theorem dL_drafts_583 : decode cL_drafts 583 = .ok (.iconst 0, 1) := by decide +kernel
theorem dL_drafts_584 : decode cL_drafts 584 = .ok (.ireturn, 1) := by decide +kernel
theorem dL_drafts_585 : decode cL_drafts 585 = .ok (.aload 10, 2) := by decide +kernel
theorem dL_drafts_587 : decode cL_drafts 587 = .ok (.iconst 3, 1) := by decide +kernel
theorem dL_drafts_588 : decode cL_drafts 588 = .ok (.dup2, 1) := by decide +kernel
theorem dL_drafts_589 : decode cL_drafts 589 = .ok (.iaload, 1) := by decide +kernel
theorem dL_drafts_590 : decode cL_drafts 590 = .ok (.iconst 1, 1) := by decide +kernel
theorem dL_drafts_591 : decode cL_drafts 591 = .ok (.iload 12, 2) := by decide +kernel
theorem dL_drafts_593 : decode cL_drafts 593 = .ok (.ishl, 1) := by decide +kernel
theorem dL_drafts_594 : decode cL_drafts 594 = .ok (.ior, 1) := by decide +kernel
theorem dL_drafts_595 : decode cL_drafts 595 = .ok (.iastore, 1) := by decide +kernel
theorem dL_drafts_596 : decode cL_drafts 596 = .ok (.aload_n 0, 1) := by decide +kernel
theorem dL_drafts_597 : decode cL_drafts 597 = .ok (.ldc 191, 2) := by decide +kernel
theorem dL_drafts_599 : decode cL_drafts 599 = .ok (.invokestatic 147, 3) := by decide +kernel
theorem dL_drafts_602 : decode cL_drafts 602 = .ok (.sipush (-7200), 3) := by decide +kernel
theorem dL_drafts_605 : decode cL_drafts 605 = .ok (.if_icmp .ne 50, 3) := by decide +kernel
theorem dL_drafts_608 : decode cL_drafts 608 = .ok (.aload_n 0, 1) := by decide +kernel
theorem dL_drafts_609 : decode cL_drafts 609 = .ok (.iconst (-1), 1) := by decide +kernel
theorem dL_drafts_610 : decode cL_drafts 610 = .ok (.invokestatic 147, 3) := by decide +kernel
theorem dL_drafts_613 : decode cL_drafts 613 = .ok (.sipush (-7200), 3) := by decide +kernel
theorem dL_drafts_616 : decode cL_drafts 616 = .ok (.if_icmp .ne 39, 3) := by decide +kernel
theorem dL_drafts_619 : decode cL_drafts 619 = .ok (.aload_n 0, 1) := by decide +kernel
theorem dL_drafts_620 : decode cL_drafts 620 = .ok (.sipush 1000, 3) := by decide +kernel
theorem dL_drafts_623 : decode cL_drafts 623 = .ok (.invokestatic 147, 3) := by decide +kernel
theorem dL_drafts_626 : decode cL_drafts 626 = .ok (.sipush (-7200), 3) := by decide +kernel
theorem dL_drafts_629 : decode cL_drafts 629 = .ok (.if_icmp .ne 26, 3) := by decide +kernel
theorem dL_drafts_632 : decode cL_drafts 632 = .ok (.aload_n 0, 1) := by decide +kernel
theorem dL_drafts_633 : decode cL_drafts 633 = .ok (.iload 12, 2) := by decide +kernel
theorem dL_drafts_635 : decode cL_drafts 635 = .ok (.invokestatic 111, 3) := by decide +kernel
theorem dL_drafts_638 : decode cL_drafts 638 = .ok (.invokestatic 147, 3) := by decide +kernel
theorem dL_drafts_641 : decode cL_drafts 641 = .ok (.aload 10, 2) := by decide +kernel
theorem dL_drafts_643 : decode cL_drafts 643 = .ok (.iconst 3, 1) := by decide +kernel
theorem dL_drafts_644 : decode cL_drafts 644 = .ok (.iaload, 1) := by decide +kernel
theorem dL_drafts_645 : decode cL_drafts 645 = .ok (.invokestatic 132, 3) := by decide +kernel
theorem dL_drafts_648 : decode cL_drafts 648 = .ok (.if_icmp .ne 7, 3) := by decide +kernel
theorem dL_drafts_651 : decode cL_drafts 651 = .ok (.iconst 1, 1) := by decide +kernel
theorem dL_drafts_652 : decode cL_drafts 652 = .ok (.goto 4, 3) := by decide +kernel
theorem dL_drafts_655 : decode cL_drafts 655 = .ok (.iconst 0, 1) := by decide +kernel
theorem dL_drafts_656 : decode cL_drafts 656 = .ok (.ireturn, 1) := by decide +kernel
theorem dL_drafts_657 : decode cL_drafts 657 = .ok (.iload_n 1, 1) := by decide +kernel
theorem dL_drafts_658 : decode cL_drafts 658 = .ok (.iconst 2, 1) := by decide +kernel
theorem dL_drafts_659 : decode cL_drafts 659 = .ok (.if_icmp .ne 74, 3) := by decide +kernel
theorem dL_drafts_662 : decode cL_drafts 662 = .ok (.aload 10, 2) := by decide +kernel
theorem dL_drafts_664 : decode cL_drafts 664 = .ok (.iconst 3, 1) := by decide +kernel
theorem dL_drafts_665 : decode cL_drafts 665 = .ok (.iaload, 1) := by decide +kernel
theorem dL_drafts_666 : decode cL_drafts 666 = .ok (.iload 12, 2) := by decide +kernel
theorem dL_drafts_668 : decode cL_drafts 668 = .ok (.ishr, 1) := by decide +kernel
theorem dL_drafts_669 : decode cL_drafts 669 = .ok (.iconst 1, 1) := by decide +kernel
theorem dL_drafts_670 : decode cL_drafts 670 = .ok (.iand, 1) := by decide +kernel
theorem dL_drafts_671 : decode cL_drafts 671 = .ok (.ifCond .ne 24, 3) := by decide +kernel
theorem dL_drafts_674 : decode cL_drafts 674 = .ok (.aload_n 0, 1) := by decide +kernel
theorem dL_drafts_675 : decode cL_drafts 675 = .ok (.iload 12, 2) := by decide +kernel
theorem dL_drafts_677 : decode cL_drafts 677 = .ok (.invokestatic 111, 3) := by decide +kernel
theorem dL_drafts_680 : decode cL_drafts 680 = .ok (.invokestatic 149, 3) := by decide +kernel
theorem dL_drafts_683 : decode cL_drafts 683 = .ok (.sipush (-7400), 3) := by decide +kernel
theorem dL_drafts_686 : decode cL_drafts 686 = .ok (.if_icmp .ne 7, 3) := by decide +kernel
theorem dL_drafts_689 : decode cL_drafts 689 = .ok (.iconst 1, 1) := by decide +kernel
theorem dL_drafts_690 : decode cL_drafts 690 = .ok (.goto 4, 3) := by decide +kernel
theorem dL_drafts_693 : decode cL_drafts 693 = .ok (.iconst 0, 1) := by decide +kernel
theorem dL_drafts_694 : decode cL_drafts 694 = .ok (.ireturn, 1) := by decide +kernel
theorem dL_drafts_695 : decode cL_drafts 695 = .ok (.aload 10, 2) := by decide +kernel
theorem dL_drafts_697 : decode cL_drafts 697 = .ok (.iconst 3, 1) := by decide +kernel
theorem dL_drafts_698 : decode cL_drafts 698 = .ok (.dup2, 1) := by decide +kernel
theorem dL_drafts_699 : decode cL_drafts 699 = .ok (.iaload, 1) := by decide +kernel
theorem dL_drafts_700 : decode cL_drafts 700 = .ok (.iconst 1, 1) := by decide +kernel
theorem dL_drafts_701 : decode cL_drafts 701 = .ok (.iload 12, 2) := by decide +kernel
theorem dL_drafts_703 : decode cL_drafts 703 = .ok (.ishl, 1) := by decide +kernel
theorem dL_drafts_704 : decode cL_drafts 704 = .ok (.iconst (-1), 1) := by decide +kernel
theorem dL_drafts_705 : decode cL_drafts 705 = .ok (.ixor, 1) := by decide +kernel
theorem dL_drafts_706 : decode cL_drafts 706 = .ok (.iand, 1) := by decide +kernel
theorem dL_drafts_707 : decode cL_drafts 707 = .ok (.iastore, 1) := by decide +kernel
theorem dL_drafts_708 : decode cL_drafts 708 = .ok (.aload_n 0, 1) := by decide +kernel
theorem dL_drafts_709 : decode cL_drafts 709 = .ok (.iload 12, 2) := by decide +kernel
theorem dL_drafts_711 : decode cL_drafts 711 = .ok (.invokestatic 111, 3) := by decide +kernel
theorem dL_drafts_714 : decode cL_drafts 714 = .ok (.invokestatic 149, 3) := by decide +kernel
theorem dL_drafts_717 : decode cL_drafts 717 = .ok (.aload 10, 2) := by decide +kernel
theorem dL_drafts_719 : decode cL_drafts 719 = .ok (.iconst 3, 1) := by decide +kernel
theorem dL_drafts_720 : decode cL_drafts 720 = .ok (.iaload, 1) := by decide +kernel
theorem dL_drafts_721 : decode cL_drafts 721 = .ok (.invokestatic 132, 3) := by decide +kernel
theorem dL_drafts_724 : decode cL_drafts 724 = .ok (.if_icmp .ne 7, 3) := by decide +kernel
theorem dL_drafts_727 : decode cL_drafts 727 = .ok (.iconst 1, 1) := by decide +kernel
theorem dL_drafts_728 : decode cL_drafts 728 = .ok (.goto 4, 3) := by decide +kernel
theorem dL_drafts_731 : decode cL_drafts 731 = .ok (.iconst 0, 1) := by decide +kernel
theorem dL_drafts_732 : decode cL_drafts 732 = .ok (.ireturn, 1) := by decide +kernel
theorem dL_drafts_733 : decode cL_drafts 733 = .ok (.iload_n 2, 1) := by decide +kernel
theorem dL_drafts_734 : decode cL_drafts 734 = .ok (.iconst 5, 1) := by decide +kernel
theorem dL_drafts_735 : decode cL_drafts 735 = .ok (.ishr, 1) := by decide +kernel
theorem dL_drafts_736 : decode cL_drafts 736 = .ok (.iconst 3, 1) := by decide +kernel
theorem dL_drafts_737 : decode cL_drafts 737 = .ok (.invokestatic 180, 3) := by decide +kernel
theorem dL_drafts_740 : decode cL_drafts 740 = .ok (.istore 13, 2) := by decide +kernel
theorem dL_drafts_742 : decode cL_drafts 742 = .ok (.iload_n 2, 1) := by decide +kernel
theorem dL_drafts_743 : decode cL_drafts 743 = .ok (.bipush 8, 2) := by decide +kernel
theorem dL_drafts_745 : decode cL_drafts 745 = .ok (.ishr, 1) := by decide +kernel
theorem dL_drafts_746 : decode cL_drafts 746 = .ok (.iconst 3, 1) := by decide +kernel
theorem dL_drafts_747 : decode cL_drafts 747 = .ok (.invokestatic 180, 3) := by decide +kernel
theorem dL_drafts_750 : decode cL_drafts 750 = .ok (.istore 14, 2) := by decide +kernel
theorem dL_drafts_752 : decode cL_drafts 752 = .ok (.aload_n 0, 1) := by decide +kernel
theorem dL_drafts_753 : decode cL_drafts 753 = .ok (.iload 12, 2) := by decide +kernel
theorem dL_drafts_755 : decode cL_drafts 755 = .ok (.invokestatic 111, 3) := by decide +kernel
theorem dL_drafts_758 : decode cL_drafts 758 = .ok (.iconst 3, 1) := by decide +kernel
theorem dL_drafts_759 : decode cL_drafts 759 = .ok (.iload 14, 2) := by decide +kernel
theorem dL_drafts_761 : decode cL_drafts 761 = .ok (.invokestatic 151, 3) := by decide +kernel
theorem dL_drafts_764 : decode cL_drafts 764 = .ok (.sipush (-7200), 3) := by decide +kernel
theorem dL_drafts_767 : decode cL_drafts 767 = .ok (.if_icmp .ne 40, 3) := by decide +kernel
theorem dL_drafts_770 : decode cL_drafts 770 = .ok (.aload_n 0, 1) := by decide +kernel
theorem dL_drafts_771 : decode cL_drafts 771 = .ok (.iload 12, 2) := by decide +kernel
theorem dL_drafts_773 : decode cL_drafts 773 = .ok (.invokestatic 111, 3) := by decide +kernel
theorem dL_drafts_776 : decode cL_drafts 776 = .ok (.iload 13, 2) := by decide +kernel
theorem dL_drafts_778 : decode cL_drafts 778 = .ok (.bipush 10, 2) := by decide +kernel
theorem dL_drafts_780 : decode cL_drafts 780 = .ok (.invokestatic 151, 3) := by decide +kernel
theorem dL_drafts_783 : decode cL_drafts 783 = .ok (.sipush (-7200), 3) := by decide +kernel
theorem dL_drafts_786 : decode cL_drafts 786 = .ok (.if_icmp .ne 21, 3) := by decide +kernel
theorem dL_drafts_789 : decode cL_drafts 789 = .ok (.aload_n 0, 1) := by decide +kernel
theorem dL_drafts_790 : decode cL_drafts 790 = .ok (.iload 12, 2) := by decide +kernel
theorem dL_drafts_792 : decode cL_drafts 792 = .ok (.invokestatic 111, 3) := by decide +kernel
theorem dL_drafts_795 : decode cL_drafts 795 = .ok (.iload 13, 2) := by decide +kernel
theorem dL_drafts_797 : decode cL_drafts 797 = .ok (.iconst (-1), 1) := by decide +kernel
theorem dL_drafts_798 : decode cL_drafts 798 = .ok (.invokestatic 151, 3) := by decide +kernel
theorem dL_drafts_801 : decode cL_drafts 801 = .ok (.sipush (-7200), 3) := by decide +kernel
theorem dL_drafts_804 : decode cL_drafts 804 = .ok (.if_icmp .eq 5, 3) := by decide +kernel
theorem dL_drafts_807 : decode cL_drafts 807 = .ok (.iconst 0, 1) := by decide +kernel
theorem dL_drafts_808 : decode cL_drafts 808 = .ok (.ireturn, 1) := by decide +kernel
theorem dL_drafts_809 : decode cL_drafts 809 = .ok (.iload 11, 2) := by decide +kernel
theorem dL_drafts_811 : decode cL_drafts 811 = .ok (.iload 13, 2) := by decide +kernel
theorem dL_drafts_813 : decode cL_drafts 813 = .ok (.ishr, 1) := by decide +kernel
theorem dL_drafts_814 : decode cL_drafts 814 = .ok (.iconst 1, 1) := by decide +kernel
theorem dL_drafts_815 : decode cL_drafts 815 = .ok (.iand, 1) := by decide +kernel
theorem dL_drafts_816 : decode cL_drafts 816 = .ok (.ifCond .ne 28, 3) := by decide +kernel
theorem dL_drafts_819 : decode cL_drafts 819 = .ok (.aload_n 0, 1) := by decide +kernel
theorem dL_drafts_820 : decode cL_drafts 820 = .ok (.iload 12, 2) := by decide +kernel
theorem dL_drafts_822 : decode cL_drafts 822 = .ok (.invokestatic 111, 3) := by decide +kernel
theorem dL_drafts_825 : decode cL_drafts 825 = .ok (.iload 13, 2) := by decide +kernel
theorem dL_drafts_827 : decode cL_drafts 827 = .ok (.iload 14, 2) := by decide +kernel
theorem dL_drafts_829 : decode cL_drafts 829 = .ok (.invokestatic 151, 3) := by decide +kernel
theorem dL_drafts_832 : decode cL_drafts 832 = .ok (.sipush (-7200), 3) := by decide +kernel
theorem dL_drafts_835 : decode cL_drafts 835 = .ok (.if_icmp .ne 7, 3) := by decide +kernel
theorem dL_drafts_838 : decode cL_drafts 838 = .ok (.iconst 1, 1) := by decide +kernel
theorem dL_drafts_839 : decode cL_drafts 839 = .ok (.goto 4, 3) := by decide +kernel
theorem dL_drafts_842 : decode cL_drafts 842 = .ok (.iconst 0, 1) := by decide +kernel
theorem dL_drafts_843 : decode cL_drafts 843 = .ok (.ireturn, 1) := by decide +kernel
theorem dL_drafts_844 : decode cL_drafts 844 = .ok (.iload 12, 2) := by decide +kernel
theorem dL_drafts_846 : decode cL_drafts 846 = .ok (.iload 14, 2) := by decide +kernel
theorem dL_drafts_848 : decode cL_drafts 848 = .ok (.iload 12, 2) := by decide +kernel
theorem dL_drafts_850 : decode cL_drafts 850 = .ok (.iload 13, 2) := by decide +kernel
theorem dL_drafts_852 : decode cL_drafts 852 = .ok (.invokestatic 89, 3) := by decide +kernel
theorem dL_drafts_855 : decode cL_drafts 855 = .ok (.isub, 1) := by decide +kernel
theorem dL_drafts_856 : decode cL_drafts 856 = .ok (.iload 13, 2) := by decide +kernel
theorem dL_drafts_858 : decode cL_drafts 858 = .ok (.invokestatic 94, 3) := by decide +kernel
theorem dL_drafts_861 : decode cL_drafts 861 = .ok (.imul, 1) := by decide +kernel
theorem dL_drafts_862 : decode cL_drafts 862 = .ok (.iadd, 1) := by decide +kernel
theorem dL_drafts_863 : decode cL_drafts 863 = .ok (.istore 15, 2) := by decide +kernel
theorem dL_drafts_865 : decode cL_drafts 865 = .ok (.aload 10, 2) := by decide +kernel
theorem dL_drafts_867 : decode cL_drafts 867 = .ok (.iconst 3, 1) := by decide +kernel
theorem dL_drafts_868 : decode cL_drafts 868 = .ok (.iaload, 1) := by decide +kernel
theorem dL_drafts_869 : decode cL_drafts 869 = .ok (.iload 12, 2) := by decide +kernel
theorem dL_drafts_871 : decode cL_drafts 871 = .ok (.ishr, 1) := by decide +kernel
theorem dL_drafts_872 : decode cL_drafts 872 = .ok (.iconst 1, 1) := by decide +kernel
theorem dL_drafts_873 : decode cL_drafts 873 = .ok (.iand, 1) := by decide +kernel
theorem dL_drafts_874 : decode cL_drafts 874 = .ok (.ifCond .eq 23, 3) := by decide +kernel
theorem dL_drafts_877 : decode cL_drafts 877 = .ok (.iload 15, 2) := by decide +kernel
theorem dL_drafts_879 : decode cL_drafts 879 = .ok (.iload 12, 2) := by decide +kernel
theorem dL_drafts_881 : decode cL_drafts 881 = .ok (.if_icmp .eq 41, 3) := by decide +kernel
theorem dL_drafts_884 : decode cL_drafts 884 = .ok (.aload 10, 2) := by decide +kernel
theorem dL_drafts_886 : decode cL_drafts 886 = .ok (.iconst 3, 1) := by decide +kernel
theorem dL_drafts_887 : decode cL_drafts 887 = .ok (.iaload, 1) := by decide +kernel
theorem dL_drafts_888 : decode cL_drafts 888 = .ok (.iload 15, 2) := by decide +kernel
theorem dL_drafts_890 : decode cL_drafts 890 = .ok (.ishr, 1) := by decide +kernel
theorem dL_drafts_891 : decode cL_drafts 891 = .ok (.iconst 1, 1) := by decide +kernel
theorem dL_drafts_892 : decode cL_drafts 892 = .ok (.iand, 1) := by decide +kernel
theorem dL_drafts_893 : decode cL_drafts 893 = .ok (.iconst 1, 1) := by decide +kernel
theorem dL_drafts_894 : decode cL_drafts 894 = .ok (.if_icmp .ne 28, 3) := by decide +kernel
theorem dL_drafts_897 : decode cL_drafts 897 = .ok (.aload_n 0, 1) := by decide +kernel
theorem dL_drafts_898 : decode cL_drafts 898 = .ok (.iload 12, 2) := by decide +kernel
theorem dL_drafts_900 : decode cL_drafts 900 = .ok (.invokestatic 111, 3) := by decide +kernel
theorem dL_drafts_903 : decode cL_drafts 903 = .ok (.iload 13, 2) := by decide +kernel
theorem dL_drafts_905 : decode cL_drafts 905 = .ok (.iload 14, 2) := by decide +kernel
theorem dL_drafts_907 : decode cL_drafts 907 = .ok (.invokestatic 151, 3) := by decide +kernel
theorem dL_drafts_910 : decode cL_drafts 910 = .ok (.sipush (-7400), 3) := by decide +kernel
theorem dL_drafts_913 : decode cL_drafts 913 = .ok (.if_icmp .ne 7, 3) := by decide +kernel
theorem dL_drafts_916 : decode cL_drafts 916 = .ok (.iconst 1, 1) := by decide +kernel
theorem dL_drafts_917 : decode cL_drafts 917 = .ok (.goto 4, 3) := by decide +kernel
theorem dL_drafts_920 : decode cL_drafts 920 = .ok (.iconst 0, 1) := by decide +kernel
theorem dL_drafts_921 : decode cL_drafts 921 = .ok (.ireturn, 1) := by decide +kernel
theorem dL_drafts_922 : decode cL_drafts 922 = .ok (.aload 10, 2) := by decide +kernel
theorem dL_drafts_924 : decode cL_drafts 924 = .ok (.iconst 3, 1) := by decide +kernel
theorem dL_drafts_925 : decode cL_drafts 925 = .ok (.aload 10, 2) := by decide +kernel
theorem dL_drafts_927 : decode cL_drafts 927 = .ok (.iconst 3, 1) := by decide +kernel
theorem dL_drafts_928 : decode cL_drafts 928 = .ok (.iaload, 1) := by decide +kernel
theorem dL_drafts_929 : decode cL_drafts 929 = .ok (.iconst 1, 1) := by decide +kernel
theorem dL_drafts_930 : decode cL_drafts 930 = .ok (.iload 12, 2) := by decide +kernel
theorem dL_drafts_932 : decode cL_drafts 932 = .ok (.ishl, 1) := by decide +kernel
theorem dL_drafts_933 : decode cL_drafts 933 = .ok (.iconst (-1), 1) := by decide +kernel
theorem dL_drafts_934 : decode cL_drafts 934 = .ok (.ixor, 1) := by decide +kernel
theorem dL_drafts_935 : decode cL_drafts 935 = .ok (.iand, 1) := by decide +kernel
theorem dL_drafts_936 : decode cL_drafts 936 = .ok (.iconst 1, 1) := by decide +kernel
theorem dL_drafts_937 : decode cL_drafts 937 = .ok (.iload 15, 2) := by decide +kernel
theorem dL_drafts_939 : decode cL_drafts 939 = .ok (.ishl, 1) := by decide +kernel
theorem dL_drafts_940 : decode cL_drafts 940 = .ok (.ior, 1) := by decide +kernel
theorem dL_drafts_941 : decode cL_drafts 941 = .ok (.iastore, 1) := by decide +kernel
theorem dL_drafts_942 : decode cL_drafts 942 = .ok (.aload_n 0, 1) := by decide +kernel
theorem dL_drafts_943 : decode cL_drafts 943 = .ok (.iload 12, 2) := by decide +kernel
theorem dL_drafts_945 : decode cL_drafts 945 = .ok (.invokestatic 111, 3) := by decide +kernel
theorem dL_drafts_948 : decode cL_drafts 948 = .ok (.iload 13, 2) := by decide +kernel
theorem dL_drafts_950 : decode cL_drafts 950 = .ok (.iload 14, 2) := by decide +kernel
theorem dL_drafts_952 : decode cL_drafts 952 = .ok (.invokestatic 151, 3) := by decide +kernel
theorem dL_drafts_955 : decode cL_drafts 955 = .ok (.iload 15, 2) := by decide +kernel
theorem dL_drafts_957 : decode cL_drafts 957 = .ok (.invokestatic 111, 3) := by decide +kernel
theorem dL_drafts_960 : decode cL_drafts 960 = .ok (.if_icmp .ne 7, 3) := by decide +kernel
theorem dL_drafts_963 : decode cL_drafts 963 = .ok (.iconst 1, 1) := by decide +kernel
theorem dL_drafts_964 : decode cL_drafts 964 = .ok (.goto 4, 3) := by decide +kernel
theorem dL_drafts_967 : decode cL_drafts 967 = .ok (.iconst 0, 1) := by decide +kernel
theorem dL_drafts_968 : decode cL_drafts 968 = .ok (.ireturn, 1) := by decide +kernel
theorem dL_law_0 : decode cL_law 0 = .ok (.new 9, 3) := by decide +kernel
theorem dL_law_3 : decode cL_law 3 = .ok (.dup, 1) := by decide +kernel
theorem dL_law_4 : decode cL_law 4 = .ok (.invokespecial 196, 3) := by decide +kernel
theorem dL_law_7 : decode cL_law 7 = .ok (.astore_n 1, 1) := by decide +kernel
theorem dL_law_8 : decode cL_law 8 = .ok (.bipush 6, 2) := by decide +kernel
theorem dL_law_10 : decode cL_law 10 = .ok (.newarray .int, 2) := by decide +kernel
theorem dL_law_12 : decode cL_law 12 = .ok (.astore_n 2, 1) := by decide +kernel
theorem dL_law_13 : decode cL_law 13 = .ok (.bipush 10, 2) := by decide +kernel
theorem dL_law_15 : decode cL_law 15 = .ok (.newarray .int, 2) := by decide +kernel
theorem dL_law_17 : decode cL_law 17 = .ok (.astore_n 3, 1) := by decide +kernel
theorem dL_law_18 : decode cL_law 18 = .ok (.bipush 10, 2) := by decide +kernel
theorem dL_law_20 : decode cL_law 20 = .ok (.newarray .int, 2) := by decide +kernel
theorem dL_law_22 : decode cL_law 22 = .ok (.astore 4, 2) := by decide +kernel
theorem dL_law_24 : decode cL_law 24 = .ok (.bipush 10, 2) := by decide +kernel
theorem dL_law_26 : decode cL_law 26 = .ok (.newarray .int, 2) := by decide +kernel
theorem dL_law_28 : decode cL_law 28 = .ok (.astore 5, 2) := by decide +kernel
theorem dL_law_30 : decode cL_law 30 = .ok (.iconst 3, 1) := by decide +kernel
theorem dL_law_31 : decode cL_law 31 = .ok (.newarray .int, 2) := by decide +kernel
theorem dL_law_33 : decode cL_law 33 = .ok (.astore 6, 2) := by decide +kernel
theorem dL_law_35 : decode cL_law 35 = .ok (.bipush 15, 2) := by decide +kernel
theorem dL_law_37 : decode cL_law 37 = .ok (.newarray .int, 2) := by decide +kernel
theorem dL_law_39 : decode cL_law 39 = .ok (.astore 7, 2) := by decide +kernel
theorem dL_law_41 : decode cL_law 41 = .ok (.bipush 7, 2) := by decide +kernel
theorem dL_law_43 : decode cL_law 43 = .ok (.newarray .int, 2) := by decide +kernel
theorem dL_law_45 : decode cL_law 45 = .ok (.astore 8, 2) := by decide +kernel
theorem dL_law_47 : decode cL_law 47 = .ok (.iconst 0, 1) := by decide +kernel
theorem dL_law_48 : decode cL_law 48 = .ok (.istore 9, 2) := by decide +kernel
theorem dL_law_50 : decode cL_law 50 = .ok (.iload 9, 2) := by decide +kernel
theorem dL_law_52 : decode cL_law 52 = .ok (.sipush 140, 3) := by decide +kernel
theorem dL_law_55 : decode cL_law 55 = .ok (.if_icmp .ge 330, 3) := by decide +kernel
theorem dL_law_58 : decode cL_law 58 = .ok (.iload 9, 2) := by decide +kernel
theorem dL_law_60 : decode cL_law 60 = .ok (.iconst 3, 1) := by decide +kernel
theorem dL_law_61 : decode cL_law 61 = .ok (.if_icmp .ge 7, 3) := by decide +kernel
theorem dL_law_64 : decode cL_law 64 = .ok (.iconst 0, 1) := by decide +kernel
theorem dL_law_65 : decode cL_law 65 = .ok (.goto 28, 3) := by decide +kernel
theorem dL_law_68 : decode cL_law 68 = .ok (.aload_n 0, 1) := by decide +kernel
theorem dL_law_69 : decode cL_law 69 = .ok (.iconst 3, 1) := by decide +kernel
theorem dL_law_70 : decode cL_law 70 = .ok (.iload 9, 2) := by decide +kernel
theorem dL_law_72 : decode cL_law 72 = .ok (.imul, 1) := by decide +kernel
theorem dL_law_73 : decode cL_law 73 = .ok (.invokestatic 197, 3) := by decide +kernel
theorem dL_law_76 : decode cL_law 76 = .ok (.iload 9, 2) := by decide +kernel
theorem dL_law_78 : decode cL_law 78 = .ok (.bipush 20, 2) := by decide +kernel
theorem dL_law_80 : decode cL_law 80 = .ok (.if_icmp .ge 8, 3) := by decide +kernel
theorem dL_law_83 : decode cL_law 83 = .ok (.bipush 21, 2) := by decide +kernel
theorem dL_law_85 : decode cL_law 85 = .ok (.goto 5, 3) := by decide +kernel
theorem dL_law_88 : decode cL_law 88 = .ok (.bipush 44, 2) := by decide +kernel
theorem dL_law_90 : decode cL_law 90 = .ok (.invokestatic 180, 3) := by decide +kernel
theorem dL_law_93 : decode cL_law 93 = .ok (.istore 10, 2) := by decide +kernel
theorem dL_law_95 : decode cL_law 95 = .ok (.aload_n 0, 1) := by decide +kernel
theorem dL_law_96 : decode cL_law 96 = .ok (.iconst 3, 1) := by decide +kernel
theorem dL_law_97 : decode cL_law 97 = .ok (.iload 9, 2) := by decide +kernel
theorem dL_law_99 : decode cL_law 99 = .ok (.imul, 1) := by decide +kernel
theorem dL_law_100 : decode cL_law 100 = .ok (.iconst 1, 1) := by decide +kernel
theorem dL_law_101 : decode cL_law 101 = .ok (.iadd, 1) := by decide +kernel
theorem dL_law_102 : decode cL_law 102 = .ok (.invokestatic 197, 3) := by decide +kernel
theorem dL_law_105 : decode cL_law 105 = .ok (.istore 11, 2) := by decide +kernel
theorem dL_law_107 : decode cL_law 107 = .ok (.aload_n 0, 1) := by decide +kernel
theorem dL_law_108 : decode cL_law 108 = .ok (.iconst 3, 1) := by decide +kernel
theorem dL_law_109 : decode cL_law 109 = .ok (.iload 9, 2) := by decide +kernel
theorem dL_law_111 : decode cL_law 111 = .ok (.imul, 1) := by decide +kernel
theorem dL_law_112 : decode cL_law 112 = .ok (.iconst 2, 1) := by decide +kernel
theorem dL_law_113 : decode cL_law 113 = .ok (.iadd, 1) := by decide +kernel
theorem dL_law_114 : decode cL_law 114 = .ok (.invokestatic 197, 3) := by decide +kernel
theorem dL_law_117 : decode cL_law 117 = .ok (.istore 12, 2) := by decide +kernel
theorem dL_law_119 : decode cL_law 119 = .ok (.iload 10, 2) := by decide +kernel
theorem dL_law_121 : decode cL_law 121 = .ok (.iconst 1, 1) := by decide +kernel
theorem dL_law_122 : decode cL_law 122 = .ok (.if_icmp .ge 20, 3) := by decide +kernel
theorem dL_law_125 : decode cL_law 125 = .ok (.aload_n 1, 1) := by decide +kernel
theorem dL_law_126 : decode cL_law 126 = .ok (.iconst 0, 1) := by decide +kernel
theorem dL_law_127 : decode cL_law 127 = .ok (.iload 11, 2) := by decide +kernel
theorem dL_law_129 : decode cL_law 129 = .ok (.iload 12, 2) := by decide +kernel
theorem dL_law_131 : decode cL_law 131 = .ok (.aload_n 2, 1) := by decide +kernel
theorem dL_law_132 : decode cL_law 132 = .ok (.aload 8, 2) := by decide +kernel
theorem dL_law_134 : decode cL_law 134 = .ok (.invokestatic 200, 3) := by decide +kernel
theorem dL_law_137 : decode cL_law 137 = .ok (.istore 13, 2) := by decide +kernel
theorem dL_law_139 : decode cL_law 139 = .ok (.goto 175, 3) := by decide +kernel
theorem dL_law_142 : decode cL_law 142 = .ok (.iload 10, 2) := by decide +kernel
theorem dL_law_144 : decode cL_law 144 = .ok (.bipush 12, 2) := by decide +kernel
theorem dL_law_146 : decode cL_law 146 = .ok (.if_icmp .ge 31, 3) := by decide +kernel
theorem dL_law_149 : decode cL_law 149 = .ok (.aload_n 1, 1) := by decide +kernel
theorem dL_law_150 : decode cL_law 150 = .ok (.iload 10, 2) := by decide +kernel
theorem dL_law_152 : decode cL_law 152 = .ok (.bipush 11, 2) := by decide +kernel
theorem dL_law_154 : decode cL_law 154 = .ok (.if_icmp .ge 7, 3) := by decide +kernel
theorem dL_law_157 : decode cL_law 157 = .ok (.iconst 1, 1) := by decide +kernel
theorem dL_law_158 : decode cL_law 158 = .ok (.goto 4, 3) := by decide +kernel
theorem dL_law_161 : decode cL_law 161 = .ok (.iconst 2, 1) := by decide +kernel
theorem dL_law_162 : decode cL_law 162 = .ok (.iload 11, 2) := by decide +kernel
theorem dL_law_164 : decode cL_law 164 = .ok (.iload 12, 2) := by decide +kernel
theorem dL_law_166 : decode cL_law 166 = .ok (.aload_n 2, 1) := by decide +kernel
theorem dL_law_167 : decode cL_law 167 = .ok (.aload 8, 2) := by decide +kernel
theorem dL_law_169 : decode cL_law 169 = .ok (.invokestatic 200, 3) := by decide +kernel
theorem dL_law_172 : decode cL_law 172 = .ok (.istore 13, 2) := by decide +kernel
theorem dL_law_174 : decode cL_law 174 = .ok (.goto 140, 3) := by decide +kernel
theorem dL_law_177 : decode cL_law 177 = .ok (.iload 10, 2) := by decide +kernel
theorem dL_law_179 : decode cL_law 179 = .ok (.bipush 21, 2) := by decide +kernel
theorem dL_law_181 : decode cL_law 181 = .ok (.if_icmp .ge 54, 3) := by decide +kernel
theorem dL_law_184 : decode cL_law 184 = .ok (.aload_n 1, 1) := by decide +kernel
theorem dL_law_185 : decode cL_law 185 = .ok (.iload 10, 2) := by decide +kernel
theorem dL_law_187 : decode cL_law 187 = .ok (.bipush 14, 2) := by decide +kernel
theorem dL_law_189 : decode cL_law 189 = .ok (.if_icmp .ge 7, 3) := by decide +kernel
theorem dL_law_192 : decode cL_law 192 = .ok (.iconst 0, 1) := by decide +kernel
theorem dL_law_193 : decode cL_law 193 = .ok (.goto 26, 3) := by decide +kernel
theorem dL_law_196 : decode cL_law 196 = .ok (.iload 10, 2) := by decide +kernel
theorem dL_law_198 : decode cL_law 198 = .ok (.bipush 16, 2) := by decide +kernel
theorem dL_law_200 : decode cL_law 200 = .ok (.if_icmp .ge 7, 3) := by decide +kernel
theorem dL_law_203 : decode cL_law 203 = .ok (.iconst 1, 1) := by decide +kernel
theorem dL_law_204 : decode cL_law 204 = .ok (.goto 15, 3) := by decide +kernel
theorem dL_law_207 : decode cL_law 207 = .ok (.iload 10, 2) := by decide +kernel
theorem dL_law_209 : decode cL_law 209 = .ok (.bipush 18, 2) := by decide +kernel
theorem dL_law_211 : decode cL_law 211 = .ok (.if_icmp .ge 7, 3) := by decide +kernel
theorem dL_law_214 : decode cL_law 214 = .ok (.iconst 2, 1) := by decide +kernel
theorem dL_law_215 : decode cL_law 215 = .ok (.goto 4, 3) := by decide +kernel
theorem dL_law_218 : decode cL_law 218 = .ok (.iconst 3, 1) := by decide +kernel
theorem dL_law_219 : decode cL_law 219 = .ok (.iload 11, 2) := by decide +kernel
theorem dL_law_221 : decode cL_law 221 = .ok (.iload 12, 2) := by decide +kernel
theorem dL_law_223 : decode cL_law 223 = .ok (.aload_n 2, 1) := by decide +kernel
theorem dL_law_224 : decode cL_law 224 = .ok (.aload_n 3, 1) := by decide +kernel
theorem dL_law_225 : decode cL_law 225 = .ok (.aload 8, 2) := by decide +kernel
theorem dL_law_227 : decode cL_law 227 = .ok (.invokestatic 204, 3) := by decide +kernel
theorem dL_law_230 : decode cL_law 230 = .ok (.istore 13, 2) := by decide +kernel
theorem dL_law_232 : decode cL_law 232 = .ok (.goto 82, 3) := by decide +kernel
theorem dL_law_235 : decode cL_law 235 = .ok (.aload_n 1, 1) := by decide +kernel
theorem dL_law_236 : decode cL_law 236 = .ok (.iload 10, 2) := by decide +kernel
theorem dL_law_238 : decode cL_law 238 = .ok (.bipush 25, 2) := by decide +kernel
theorem dL_law_240 : decode cL_law 240 = .ok (.if_icmp .ge 7, 3) := by decide +kernel
theorem dL_law_243 : decode cL_law 243 = .ok (.iconst 0, 1) := by decide +kernel
theorem dL_law_244 : decode cL_law 244 = .ok (.goto 49, 3) := by decide +kernel
theorem dL_law_247 : decode cL_law 247 = .ok (.iload 10, 2) := by decide +kernel
theorem dL_law_249 : decode cL_law 249 = .ok (.bipush 31, 2) := by decide +kernel
theorem dL_law_251 : decode cL_law 251 = .ok (.if_icmp .ge 7, 3) := by decide +kernel
theorem dL_law_254 : decode cL_law 254 = .ok (.iconst 1, 1) := by decide +kernel
theorem dL_law_255 : decode cL_law 255 = .ok (.goto 38, 3) := by decide +kernel
theorem dL_law_258 : decode cL_law 258 = .ok (.iload 10, 2) := by decide +kernel
theorem dL_law_260 : decode cL_law 260 = .ok (.bipush 34, 2) := by decide +kernel
theorem dL_law_262 : decode cL_law 262 = .ok (.if_icmp .ge 7, 3) := by decide +kernel
theorem dL_law_265 : decode cL_law 265 = .ok (.iconst 2, 1) := by decide +kernel
theorem dL_law_266 : decode cL_law 266 = .ok (.goto 27, 3) := by decide +kernel
theorem dL_law_269 : decode cL_law 269 = .ok (.iload 10, 2) := by decide +kernel
theorem dL_law_271 : decode cL_law 271 = .ok (.bipush 38, 2) := by decide +kernel
theorem dL_law_273 : decode cL_law 273 = .ok (.if_icmp .ge 7, 3) := by decide +kernel
theorem dL_law_276 : decode cL_law 276 = .ok (.iconst 3, 1) := by decide +kernel
theorem dL_law_277 : decode cL_law 277 = .ok (.goto 16, 3) := by decide +kernel
theorem dL_law_280 : decode cL_law 280 = .ok (.iload 10, 2) := by decide +kernel
theorem dL_law_282 : decode cL_law 282 = .ok (.bipush 42, 2) := by decide +kernel
theorem dL_law_284 : decode cL_law 284 = .ok (.if_icmp .ge 7, 3) := by decide +kernel
theorem dL_law_287 : decode cL_law 287 = .ok (.iconst 5, 1) := by decide +kernel
theorem dL_law_288 : decode cL_law 288 = .ok (.goto 5, 3) := by decide +kernel
theorem dL_law_291 : decode cL_law 291 = .ok (.bipush 6, 2) := by decide +kernel
theorem dL_law_293 : decode cL_law 293 = .ok (.iload 11, 2) := by decide +kernel
theorem dL_law_295 : decode cL_law 295 = .ok (.iload 12, 2) := by decide +kernel
theorem dL_law_297 : decode cL_law 297 = .ok (.aload_n 2, 1) := by decide +kernel
theorem dL_law_298 : decode cL_law 298 = .ok (.aload_n 3, 1) := by decide +kernel
theorem dL_law_299 : decode cL_law 299 = .ok (.aload 4, 2) := by decide +kernel
theorem dL_law_301 : decode cL_law 301 = .ok (.aload 5, 2) := by decide +kernel
theorem dL_law_303 : decode cL_law 303 = .ok (.aload 6, 2) := by decide +kernel
theorem dL_law_305 : decode cL_law 305 = .ok (.aload 7, 2) := by decide +kernel
theorem dL_law_307 : decode cL_law 307 = .ok (.aload 8, 2) := by decide +kernel
theorem dL_law_309 : decode cL_law 309 = .ok (.invokestatic 208, 3) := by decide +kernel
theorem dL_law_312 : decode cL_law 312 = .ok (.istore 13, 2) := by decide +kernel
theorem dL_law_314 : decode cL_law 314 = .ok (.iload 13, 2) := by decide +kernel
theorem dL_law_316 : decode cL_law 316 = .ok (.ifCond .eq 61, 3) := by decide +kernel
theorem dL_law_319 : decode cL_law 319 = .ok (.iload 9, 2) := by decide +kernel
theorem dL_law_321 : decode cL_law 321 = .ok (.iconst 4, 1) := by decide +kernel
theorem dL_law_322 : decode cL_law 322 = .ok (.irem, 1) := by decide +kernel
theorem dL_law_323 : decode cL_law 323 = .ok (.iconst 3, 1) := by decide +kernel
theorem dL_law_324 : decode cL_law 324 = .ok (.if_icmp .ne 16, 3) := by decide +kernel
theorem dL_law_327 : decode cL_law 327 = .ok (.aload_n 1, 1) := by decide +kernel
theorem dL_law_328 : decode cL_law 328 = .ok (.aload_n 2, 1) := by decide +kernel
theorem dL_law_329 : decode cL_law 329 = .ok (.aload_n 3, 1) := by decide +kernel
theorem dL_law_330 : decode cL_law 330 = .ok (.aload 4, 2) := by decide +kernel
theorem dL_law_332 : decode cL_law 332 = .ok (.aload 8, 2) := by decide +kernel
theorem dL_law_334 : decode cL_law 334 = .ok (.invokestatic 212, 3) := by decide +kernel
theorem dL_law_337 : decode cL_law 337 = .ok (.ifCond .eq 40, 3) := by decide +kernel
theorem dL_law_340 : decode cL_law 340 = .ok (.iload 9, 2) := by decide +kernel
theorem dL_law_342 : decode cL_law 342 = .ok (.iconst 2, 1) := by decide +kernel
theorem dL_law_343 : decode cL_law 343 = .ok (.irem, 1) := by decide +kernel
theorem dL_law_344 : decode cL_law 344 = .ok (.ifCond .ne 35, 3) := by decide +kernel
theorem dL_law_347 : decode cL_law 347 = .ok (.aload_n 1, 1) := by decide +kernel
theorem dL_law_348 : decode cL_law 348 = .ok (.aload_n 2, 1) := by decide +kernel
theorem dL_law_349 : decode cL_law 349 = .ok (.aload_n 3, 1) := by decide +kernel
theorem dL_law_350 : decode cL_law 350 = .ok (.aload 4, 2) := by decide +kernel
theorem dL_law_352 : decode cL_law 352 = .ok (.aload 5, 2) := by decide +kernel
theorem dL_law_354 : decode cL_law 354 = .ok (.aload 6, 2) := by decide +kernel
theorem dL_law_356 : decode cL_law 356 = .ok (.aload 8, 2) := by decide +kernel
theorem dL_law_358 : decode cL_law 358 = .ok (.iload 9, 2) := by decide +kernel
theorem dL_law_360 : decode cL_law 360 = .ok (.bipush 20, 2) := by decide +kernel
theorem dL_law_362 : decode cL_law 362 = .ok (.irem, 1) := by decide +kernel
theorem dL_law_363 : decode cL_law 363 = .ok (.ifCond .ne 7, 3) := by decide +kernel
theorem dL_law_366 : decode cL_law 366 = .ok (.iconst 1, 1) := by decide +kernel
theorem dL_law_367 : decode cL_law 367 = .ok (.goto 4, 3) := by decide +kernel
theorem dL_law_370 : decode cL_law 370 = .ok (.iconst 0, 1) := by decide +kernel
theorem dL_law_371 : decode cL_law 371 = .ok (.invokestatic 216, 3) := by decide +kernel
theorem dL_law_374 : decode cL_law 374 = .ok (.ifCond .ne 5, 3) := by decide +kernel
theorem dL_law_377 : decode cL_law 377 = .ok (.iconst 0, 1) := by decide +kernel
theorem dL_law_378 : decode cL_law 378 = .ok (.ireturn, 1) := by decide +kernel
theorem dL_law_379 : decode cL_law 379 = .ok (.iinc 9 1, 3) := by decide +kernel
theorem dL_law_382 : decode cL_law 382 = .ok (.goto (-332), 3) := by decide +kernel
theorem dL_law_385 : decode cL_law 385 = .ok (.iconst 1, 1) := by decide +kernel
theorem dL_law_386 : decode cL_law 386 = .ok (.ireturn, 1) := by decide +kernel
