theorem dX11_init_0 : decode cX11_init 0 = .ok (.aload_n 0, 1) := by decide +kernel
theorem dX11_init_1 : decode cX11_init 1 = .ok (.invokespecial 1, 3) := by decide +kernel
theorem dX11_init_4 : decode cX11_init 4 = .ok (.aload_n 0, 1) := by decide +kernel
theorem dX11_init_5 : decode cX11_init 5 = .ok (.bipush 6, 2) := by decide +kernel
theorem dX11_init_7 : decode cX11_init 7 = .ok (.newarray .int, 2) := by decide +kernel
theorem dX11_init_9 : decode cX11_init 9 = .ok (.dup, 1) := by decide +kernel
theorem dX11_init_10 : decode cX11_init 10 = .ok (.iconst 0, 1) := by decide +kernel
theorem dX11_init_11 : decode cX11_init 11 = .ok (.iconst 1, 1) := by decide +kernel
theorem dX11_init_12 : decode cX11_init 12 = .ok (.iastore, 1) := by decide +kernel
theorem dX11_init_13 : decode cX11_init 13 = .ok (.dup, 1) := by decide +kernel
theorem dX11_init_14 : decode cX11_init 14 = .ok (.iconst 1, 1) := by decide +kernel
theorem dX11_init_15 : decode cX11_init 15 = .ok (.bipush 10, 2) := by decide +kernel
theorem dX11_init_17 : decode cX11_init 17 = .ok (.iastore, 1) := by decide +kernel
theorem dX11_init_18 : decode cX11_init 18 = .ok (.dup, 1) := by decide +kernel
theorem dX11_init_19 : decode cX11_init 19 = .ok (.iconst 2, 1) := by decide +kernel
theorem dX11_init_20 : decode cX11_init 20 = .ok (.bipush 100, 2) := by decide +kernel
theorem dX11_init_22 : decode cX11_init 22 = .ok (.iastore, 1) := by decide +kernel
theorem dX11_init_23 : decode cX11_init 23 = .ok (.dup, 1) := by decide +kernel
theorem dX11_init_24 : decode cX11_init 24 = .ok (.iconst 3, 1) := by decide +kernel
theorem dX11_init_25 : decode cX11_init 25 = .ok (.sipush 1000, 3) := by decide +kernel
theorem dX11_init_28 : decode cX11_init 28 = .ok (.iastore, 1) := by decide +kernel
theorem dX11_init_29 : decode cX11_init 29 = .ok (.dup, 1) := by decide +kernel
theorem dX11_init_30 : decode cX11_init 30 = .ok (.iconst 4, 1) := by decide +kernel
theorem dX11_init_31 : decode cX11_init 31 = .ok (.sipush 10000, 3) := by decide +kernel
theorem dX11_init_34 : decode cX11_init 34 = .ok (.iastore, 1) := by decide +kernel
theorem dX11_init_35 : decode cX11_init 35 = .ok (.dup, 1) := by decide +kernel
theorem dX11_init_36 : decode cX11_init 36 = .ok (.iconst 5, 1) := by decide +kernel
theorem dX11_init_37 : decode cX11_init 37 = .ok (.ldc 7, 2) := by decide +kernel
theorem dX11_init_39 : decode cX11_init 39 = .ok (.iastore, 1) := by decide +kernel
theorem dX11_init_40 : decode cX11_init 40 = .ok (.putfield 8, 3) := by decide +kernel
theorem dX11_init_43 : decode cX11_init 43 = .ok (.aload_n 0, 1) := by decide +kernel
theorem dX11_init_44 : decode cX11_init 44 = .ok (.iconst 3, 1) := by decide +kernel
theorem dX11_init_45 : decode cX11_init 45 = .ok (.newarray .int, 2) := by decide +kernel
theorem dX11_init_47 : decode cX11_init 47 = .ok (.putfield 14, 3) := by decide +kernel
theorem dX11_init_50 : decode cX11_init 50 = .ok (.aload_n 0, 1) := by decide +kernel
theorem dX11_init_51 : decode cX11_init 51 = .ok (.iconst 3, 1) := by decide +kernel
theorem dX11_init_52 : decode cX11_init 52 = .ok (.newarray .int, 2) := by decide +kernel
theorem dX11_init_54 : decode cX11_init 54 = .ok (.putfield 17, 3) := by decide +kernel
theorem dX11_init_57 : decode cX11_init 57 = .ok (.aload_n 0, 1) := by decide +kernel
theorem dX11_init_58 : decode cX11_init 58 = .ok (.iconst 3, 1) := by decide +kernel
theorem dX11_init_59 : decode cX11_init 59 = .ok (.newarray .int, 2) := by decide +kernel
theorem dX11_init_61 : decode cX11_init 61 = .ok (.putfield 20, 3) := by decide +kernel
theorem dX11_init_64 : decode cX11_init 64 = .ok (.aload_n 0, 1) := by decide +kernel
theorem dX11_init_65 : decode cX11_init 65 = .ok (.bipush 36, 2) := by decide +kernel
theorem dX11_init_67 : decode cX11_init 67 = .ok (.newarray .int, 2) := by decide +kernel
theorem dX11_init_69 : decode cX11_init 69 = .ok (.putfield 23, 3) := by decide +kernel
theorem dX11_init_72 : decode cX11_init 72 = .ok (.aload_n 0, 1) := by decide +kernel
theorem dX11_init_73 : decode cX11_init 73 = .ok (.bipush 10, 2) := by decide +kernel
theorem dX11_init_75 : decode cX11_init 75 = .ok (.newarray .int, 2) := by decide +kernel
theorem dX11_init_77 : decode cX11_init 77 = .ok (.putfield 26, 3) := by decide +kernel
theorem dX11_init_80 : decode cX11_init 80 = .ok (.aload_n 0, 1) := by decide +kernel
theorem dX11_init_81 : decode cX11_init 81 = .ok (.bipush 10, 2) := by decide +kernel
theorem dX11_init_83 : decode cX11_init 83 = .ok (.newarray .int, 2) := by decide +kernel
theorem dX11_init_85 : decode cX11_init 85 = .ok (.putfield 29, 3) := by decide +kernel
theorem dX11_init_88 : decode cX11_init 88 = .ok (.aload_n 0, 1) := by decide +kernel
theorem dX11_init_89 : decode cX11_init 89 = .ok (.bipush 10, 2) := by decide +kernel
theorem dX11_init_91 : decode cX11_init 91 = .ok (.newarray .int, 2) := by decide +kernel
theorem dX11_init_93 : decode cX11_init 93 = .ok (.putfield 32, 3) := by decide +kernel
theorem dX11_init_96 : decode cX11_init 96 = .ok (.aload_n 0, 1) := by decide +kernel
theorem dX11_init_97 : decode cX11_init 97 = .ok (.bipush 10, 2) := by decide +kernel
theorem dX11_init_99 : decode cX11_init 99 = .ok (.newarray .int, 2) := by decide +kernel
theorem dX11_init_101 : decode cX11_init 101 = .ok (.putfield 35, 3) := by decide +kernel
theorem dX11_init_104 : decode cX11_init 104 = .ok (.aload_n 0, 1) := by decide +kernel
theorem dX11_init_105 : decode cX11_init 105 = .ok (.bipush 10, 2) := by decide +kernel
theorem dX11_init_107 : decode cX11_init 107 = .ok (.newarray .int, 2) := by decide +kernel
theorem dX11_init_109 : decode cX11_init 109 = .ok (.putfield 38, 3) := by decide +kernel
theorem dX11_init_112 : decode cX11_init 112 = .ok (.aload_n 0, 1) := by decide +kernel
theorem dX11_init_113 : decode cX11_init 113 = .ok (.bipush 10, 2) := by decide +kernel
theorem dX11_init_115 : decode cX11_init 115 = .ok (.newarray .boolean, 2) := by decide +kernel
theorem dX11_init_117 : decode cX11_init 117 = .ok (.putfield 41, 3) := by decide +kernel
theorem dX11_init_120 : decode cX11_init 120 = .ok (.aload_n 0, 1) := by decide +kernel
theorem dX11_init_121 : decode cX11_init 121 = .ok (.bipush 10, 2) := by decide +kernel
theorem dX11_init_123 : decode cX11_init 123 = .ok (.newarray .int, 2) := by decide +kernel
theorem dX11_init_125 : decode cX11_init 125 = .ok (.putfield 45, 3) := by decide +kernel
theorem dX11_init_128 : decode cX11_init 128 = .ok (.aload_n 0, 1) := by decide +kernel
theorem dX11_init_129 : decode cX11_init 129 = .ok (.bipush 10, 2) := by decide +kernel
theorem dX11_init_131 : decode cX11_init 131 = .ok (.newarray .int, 2) := by decide +kernel
theorem dX11_init_133 : decode cX11_init 133 = .ok (.putfield 48, 3) := by decide +kernel
theorem dX11_init_136 : decode cX11_init 136 = .ok (.aload_n 0, 1) := by decide +kernel
theorem dX11_init_137 : decode cX11_init 137 = .ok (.bipush 10, 2) := by decide +kernel
theorem dX11_init_139 : decode cX11_init 139 = .ok (.newarray .int, 2) := by decide +kernel
theorem dX11_init_141 : decode cX11_init 141 = .ok (.putfield 51, 3) := by decide +kernel
theorem dX11_init_144 : decode cX11_init 144 = .ok (.aload_n 0, 1) := by decide +kernel
theorem dX11_init_145 : decode cX11_init 145 = .ok (.bipush 10, 2) := by decide +kernel
theorem dX11_init_147 : decode cX11_init 147 = .ok (.newarray .int, 2) := by decide +kernel
theorem dX11_init_149 : decode cX11_init 149 = .ok (.putfield 54, 3) := by decide +kernel
theorem dX11_init_152 : decode cX11_init 152 = .ok (.aload_n 0, 1) := by decide +kernel
theorem dX11_init_153 : decode cX11_init 153 = .ok (.sipush 400, 3) := by decide +kernel
theorem dX11_init_156 : decode cX11_init 156 = .ok (.newarray .int, 2) := by decide +kernel
theorem dX11_init_158 : decode cX11_init 158 = .ok (.putfield 57, 3) := by decide +kernel
theorem dX11_init_161 : decode cX11_init 161 = .ok (.aload_n 0, 1) := by decide +kernel
theorem dX11_init_162 : decode cX11_init 162 = .ok (.bipush 10, 2) := by decide +kernel
theorem dX11_init_164 : decode cX11_init 164 = .ok (.newarray .int, 2) := by decide +kernel
theorem dX11_init_166 : decode cX11_init 166 = .ok (.putfield 60, 3) := by decide +kernel
theorem dX11_init_169 : decode cX11_init 169 = .ok (.aload_n 0, 1) := by decide +kernel
theorem dX11_init_170 : decode cX11_init 170 = .ok (.sipush 400, 3) := by decide +kernel
theorem dX11_init_173 : decode cX11_init 173 = .ok (.newarray .int, 2) := by decide +kernel
theorem dX11_init_175 : decode cX11_init 175 = .ok (.putfield 63, 3) := by decide +kernel
theorem dX11_init_178 : decode cX11_init 178 = .ok (.aload_n 0, 1) := by decide +kernel
theorem dX11_init_179 : decode cX11_init 179 = .ok (.bipush 20, 2) := by decide +kernel
theorem dX11_init_181 : decode cX11_init 181 = .ok (.newarray .int, 2) := by decide +kernel
theorem dX11_init_183 : decode cX11_init 183 = .ok (.putfield 66, 3) := by decide +kernel
theorem dX11_init_186 : decode cX11_init 186 = .ok (.aload_n 0, 1) := by decide +kernel
theorem dX11_init_187 : decode cX11_init 187 = .ok (.iconst 3, 1) := by decide +kernel
theorem dX11_init_188 : decode cX11_init 188 = .ok (.newarray .int, 2) := by decide +kernel
theorem dX11_init_190 : decode cX11_init 190 = .ok (.putfield 69, 3) := by decide +kernel
theorem dX11_init_193 : decode cX11_init 193 = .ok (.aload_n 0, 1) := by decide +kernel
theorem dX11_init_194 : decode cX11_init 194 = .ok (.bipush 36, 2) := by decide +kernel
theorem dX11_init_196 : decode cX11_init 196 = .ok (.newarray .int, 2) := by decide +kernel
theorem dX11_init_198 : decode cX11_init 198 = .ok (.putfield 72, 3) := by decide +kernel
theorem dX11_init_201 : decode cX11_init 201 = .ok (.aload_n 0, 1) := by decide +kernel
theorem dX11_init_202 : decode cX11_init 202 = .ok (.bipush 10, 2) := by decide +kernel
theorem dX11_init_204 : decode cX11_init 204 = .ok (.newarray .int, 2) := by decide +kernel
theorem dX11_init_206 : decode cX11_init 206 = .ok (.putfield 75, 3) := by decide +kernel
theorem dX11_init_209 : decode cX11_init 209 = .ok (.aload_n 0, 1) := by decide +kernel
theorem dX11_init_210 : decode cX11_init 210 = .ok (.bipush 15, 2) := by decide +kernel
theorem dX11_init_212 : decode cX11_init 212 = .ok (.newarray .int, 2) := by decide +kernel
theorem dX11_init_214 : decode cX11_init 214 = .ok (.putfield 78, 3) := by decide +kernel
theorem dX11_init_217 : decode cX11_init 217 = .ok (.aload_n 0, 1) := by decide +kernel
theorem dX11_init_218 : decode cX11_init 218 = .ok (.sipush 180, 3) := by decide +kernel
theorem dX11_init_221 : decode cX11_init 221 = .ok (.newarray .int, 2) := by decide +kernel
theorem dX11_init_223 : decode cX11_init 223 = .ok (.putfield 81, 3) := by decide +kernel
theorem dX11_init_226 : decode cX11_init 226 = .ok (.aload_n 0, 1) := by decide +kernel
theorem dX11_init_227 : decode cX11_init 227 = .ok (.bipush 12, 2) := by decide +kernel
theorem dX11_init_229 : decode cX11_init 229 = .ok (.newarray .int, 2) := by decide +kernel
theorem dX11_init_231 : decode cX11_init 231 = .ok (.putfield 84, 3) := by decide +kernel
theorem dX11_init_234 : decode cX11_init 234 = .ok (.return_, 1) := by decide +kernel
theorem dX11_thrown_0 : decode cX11_thrown 0 = .ok (.aload_n 0, 1) := by decide +kernel
theorem dX11_thrown_1 : decode cX11_thrown 1 = .ok (.getfield 87, 3) := by decide +kernel
theorem dX11_thrown_4 : decode cX11_thrown 4 = .ok (.ireturn, 1) := by decide +kernel
theorem dX11_in_0 : decode cX11_in 0 = .ok (.iload_n 0, 1) := by decide +kernel
theorem dX11_in_1 : decode cX11_in 1 = .ok (.iload_n 1, 1) := by decide +kernel
theorem dX11_in_2 : decode cX11_in 2 = .ok (.if_icmp .lt 12, 3) := by decide +kernel
theorem dX11_in_5 : decode cX11_in 5 = .ok (.iload_n 0, 1) := by decide +kernel
theorem dX11_in_6 : decode cX11_in 6 = .ok (.iload_n 2, 1) := by decide +kernel
theorem dX11_in_7 : decode cX11_in 7 = .ok (.if_icmp .gt 7, 3) := by decide +kernel
theorem dX11_in_10 : decode cX11_in 10 = .ok (.iconst 1, 1) := by decide +kernel
theorem dX11_in_11 : decode cX11_in 11 = .ok (.goto 4, 3) := by decide +kernel
theorem dX11_in_14 : decode cX11_in 14 = .ok (.iconst 0, 1) := by decide +kernel
theorem dX11_in_15 : decode cX11_in 15 = .ok (.ireturn, 1) := by decide +kernel
theorem dX11_digit_0 : decode cX11_digit 0 = .ok (.iload_n 1, 1) := by decide +kernel
theorem dX11_digit_1 : decode cX11_digit 1 = .ok (.aload_n 0, 1) := by decide +kernel
theorem dX11_digit_2 : decode cX11_digit 2 = .ok (.getfield 8, 3) := by decide +kernel
theorem dX11_digit_5 : decode cX11_digit 5 = .ok (.iload_n 2, 1) := by decide +kernel
theorem dX11_digit_6 : decode cX11_digit 6 = .ok (.iaload, 1) := by decide +kernel
theorem dX11_digit_7 : decode cX11_digit 7 = .ok (.idiv, 1) := by decide +kernel
theorem dX11_digit_8 : decode cX11_digit 8 = .ok (.bipush 10, 2) := by decide +kernel
theorem dX11_digit_10 : decode cX11_digit 10 = .ok (.irem, 1) := by decide +kernel
theorem dX11_digit_11 : decode cX11_digit 11 = .ok (.ireturn, 1) := by decide +kernel
theorem dX11_part_0 : decode cX11_part 0 = .ok (.iconst 0, 1) := by decide +kernel
theorem dX11_part_1 : decode cX11_part 1 = .ok (.istore_n 3, 1) := by decide +kernel
theorem dX11_part_2 : decode cX11_part 2 = .ok (.iconst 0, 1) := by decide +kernel
theorem dX11_part_3 : decode cX11_part 3 = .ok (.istore 4, 2) := by decide +kernel
theorem dX11_part_5 : decode cX11_part 5 = .ok (.iload 4, 2) := by decide +kernel
theorem dX11_part_7 : decode cX11_part 7 = .ok (.bipush 6, 2) := by decide +kernel
theorem dX11_part_9 : decode cX11_part 9 = .ok (.if_icmp .ge 41, 3) := by decide +kernel
theorem dX11_part_12 : decode cX11_part 12 = .ok (.iload_n 3, 1) := by decide +kernel
theorem dX11_part_13 : decode cX11_part 13 = .ok (.iload_n 2, 1) := by decide +kernel
theorem dX11_part_14 : decode cX11_part 14 = .ok (.iload 4, 2) := by decide +kernel
theorem dX11_part_16 : decode cX11_part 16 = .ok (.ishr, 1) := by decide +kernel
theorem dX11_part_17 : decode cX11_part 17 = .ok (.iconst 1, 1) := by decide +kernel
theorem dX11_part_18 : decode cX11_part 18 = .ok (.iand, 1) := by decide +kernel
theorem dX11_part_19 : decode cX11_part 19 = .ok (.iconst 1, 1) := by decide +kernel
theorem dX11_part_20 : decode cX11_part 20 = .ok (.if_icmp .ne 21, 3) := by decide +kernel
theorem dX11_part_23 : decode cX11_part 23 = .ok (.aload_n 0, 1) := by decide +kernel
theorem dX11_part_24 : decode cX11_part 24 = .ok (.iload_n 1, 1) := by decide +kernel
theorem dX11_part_25 : decode cX11_part 25 = .ok (.iload 4, 2) := by decide +kernel
theorem dX11_part_27 : decode cX11_part 27 = .ok (.invokevirtual 91, 3) := by decide +kernel
theorem dX11_part_30 : decode cX11_part 30 = .ok (.aload_n 0, 1) := by decide +kernel
theorem dX11_part_31 : decode cX11_part 31 = .ok (.getfield 8, 3) := by decide +kernel
theorem dX11_part_34 : decode cX11_part 34 = .ok (.iload 4, 2) := by decide +kernel
theorem dX11_part_36 : decode cX11_part 36 = .ok (.iaload, 1) := by decide +kernel
theorem dX11_part_37 : decode cX11_part 37 = .ok (.imul, 1) := by decide +kernel
theorem dX11_part_38 : decode cX11_part 38 = .ok (.goto 4, 3) := by decide +kernel
theorem dX11_part_41 : decode cX11_part 41 = .ok (.iconst 0, 1) := by decide +kernel
theorem dX11_part_42 : decode cX11_part 42 = .ok (.iadd, 1) := by decide +kernel
theorem dX11_part_43 : decode cX11_part 43 = .ok (.istore_n 3, 1) := by decide +kernel
theorem dX11_part_44 : decode cX11_part 44 = .ok (.iinc 4 1, 3) := by decide +kernel
theorem dX11_part_47 : decode cX11_part 47 = .ok (.goto (-42), 3) := by decide +kernel
theorem dX11_part_50 : decode cX11_part 50 = .ok (.iload_n 3, 1) := by decide +kernel
theorem dX11_part_51 : decode cX11_part 51 = .ok (.ireturn, 1) := by decide +kernel
theorem dX11_isRow_0 : decode cX11_isRow 0 = .ok (.iload_n 1, 1) := by decide +kernel
theorem dX11_isRow_1 : decode cX11_isRow 1 = .ok (.iconst 0, 1) := by decide +kernel
theorem dX11_isRow_2 : decode cX11_isRow 2 = .ok (.ldc 95, 2) := by decide +kernel
theorem dX11_isRow_4 : decode cX11_isRow 4 = .ok (.invokestatic 96, 3) := by decide +kernel
theorem dX11_isRow_7 : decode cX11_isRow 7 = .ok (.ifCond .eq 17, 3) := by decide +kernel
theorem dX11_isRow_10 : decode cX11_isRow 10 = .ok (.aload_n 0, 1) := by decide +kernel
theorem dX11_isRow_11 : decode cX11_isRow 11 = .ok (.iload_n 1, 1) := by decide +kernel
theorem dX11_isRow_12 : decode cX11_isRow 12 = .ok (.iload_n 2, 1) := by decide +kernel
theorem dX11_isRow_13 : decode cX11_isRow 13 = .ok (.invokevirtual 100, 3) := by decide +kernel
theorem dX11_isRow_16 : decode cX11_isRow 16 = .ok (.iload_n 1, 1) := by decide +kernel
theorem dX11_isRow_17 : decode cX11_isRow 17 = .ok (.if_icmp .ne 7, 3) := by decide +kernel
theorem dX11_isRow_20 : decode cX11_isRow 20 = .ok (.iconst 1, 1) := by decide +kernel
theorem dX11_isRow_21 : decode cX11_isRow 21 = .ok (.goto 4, 3) := by decide +kernel
theorem dX11_isRow_24 : decode cX11_isRow 24 = .ok (.iconst 0, 1) := by decide +kernel
theorem dX11_isRow_25 : decode cX11_isRow 25 = .ok (.ireturn, 1) := by decide +kernel
theorem dX11_lays_0 : decode cX11_lays 0 = .ok (.iload_n 2, 1) := by decide +kernel
theorem dX11_lays_1 : decode cX11_lays 1 = .ok (.istore 4, 2) := by decide +kernel
theorem dX11_lays_3 : decode cX11_lays 3 = .ok (.iconst 0, 1) := by decide +kernel
theorem dX11_lays_4 : decode cX11_lays 4 = .ok (.istore 5, 2) := by decide +kernel
theorem dX11_lays_6 : decode cX11_lays 6 = .ok (.iload 5, 2) := by decide +kernel
theorem dX11_lays_8 : decode cX11_lays 8 = .ok (.iload_n 2, 1) := by decide +kernel
theorem dX11_lays_9 : decode cX11_lays 9 = .ok (.if_icmp .ge 21, 3) := by decide +kernel
theorem dX11_lays_12 : decode cX11_lays 12 = .ok (.aload_n 0, 1) := by decide +kernel
theorem dX11_lays_13 : decode cX11_lays 13 = .ok (.iload_n 1, 1) := by decide +kernel
theorem dX11_lays_14 : decode cX11_lays 14 = .ok (.iload 5, 2) := by decide +kernel
theorem dX11_lays_16 : decode cX11_lays 16 = .ok (.iadd, 1) := by decide +kernel
theorem dX11_lays_17 : decode cX11_lays 17 = .ok (.iaload, 1) := by decide +kernel
theorem dX11_lays_18 : decode cX11_lays 18 = .ok (.iload_n 3, 1) := by decide +kernel
theorem dX11_lays_19 : decode cX11_lays 19 = .ok (.if_icmp .ne 5, 3) := by decide +kernel
theorem dX11_lays_22 : decode cX11_lays 22 = .ok (.iload_n 2, 1) := by decide +kernel
theorem dX11_lays_23 : decode cX11_lays 23 = .ok (.ireturn, 1) := by decide +kernel
theorem dX11_lays_24 : decode cX11_lays 24 = .ok (.iinc 5 1, 3) := by decide +kernel
theorem dX11_lays_27 : decode cX11_lays 27 = .ok (.goto (-21), 3) := by decide +kernel
theorem dX11_lays_30 : decode cX11_lays 30 = .ok (.iload 4, 2) := by decide +kernel
theorem dX11_lays_32 : decode cX11_lays 32 = .ok (.ifCond .le 35, 3) := by decide +kernel
theorem dX11_lays_35 : decode cX11_lays 35 = .ok (.aload_n 0, 1) := by decide +kernel
theorem dX11_lays_36 : decode cX11_lays 36 = .ok (.iload_n 1, 1) := by decide +kernel
theorem dX11_lays_37 : decode cX11_lays 37 = .ok (.iload 4, 2) := by decide +kernel
theorem dX11_lays_39 : decode cX11_lays 39 = .ok (.iadd, 1) := by decide +kernel
theorem dX11_lays_40 : decode cX11_lays 40 = .ok (.iconst 1, 1) := by decide +kernel
theorem dX11_lays_41 : decode cX11_lays 41 = .ok (.isub, 1) := by decide +kernel
theorem dX11_lays_42 : decode cX11_lays 42 = .ok (.iaload, 1) := by decide +kernel
theorem dX11_lays_43 : decode cX11_lays 43 = .ok (.iload_n 3, 1) := by decide +kernel
theorem dX11_lays_44 : decode cX11_lays 44 = .ok (.if_icmp .le 23, 3) := by decide +kernel
theorem dX11_lays_47 : decode cX11_lays 47 = .ok (.aload_n 0, 1) := by decide +kernel
theorem dX11_lays_48 : decode cX11_lays 48 = .ok (.iload_n 1, 1) := by decide +kernel
theorem dX11_lays_49 : decode cX11_lays 49 = .ok (.iload 4, 2) := by decide +kernel
theorem dX11_lays_51 : decode cX11_lays 51 = .ok (.iadd, 1) := by decide +kernel
theorem dX11_lays_52 : decode cX11_lays 52 = .ok (.aload_n 0, 1) := by decide +kernel
theorem dX11_lays_53 : decode cX11_lays 53 = .ok (.iload_n 1, 1) := by decide +kernel
theorem dX11_lays_54 : decode cX11_lays 54 = .ok (.iload 4, 2) := by decide +kernel
theorem dX11_lays_56 : decode cX11_lays 56 = .ok (.iadd, 1) := by decide +kernel
theorem dX11_lays_57 : decode cX11_lays 57 = .ok (.iconst 1, 1) := by decide +kernel
theorem dX11_lays_58 : decode cX11_lays 58 = .ok (.isub, 1) := by decide +kernel
theorem dX11_lays_59 : decode cX11_lays 59 = .ok (.iaload, 1) := by decide +kernel
theorem dX11_lays_60 : decode cX11_lays 60 = .ok (.iastore, 1) := by decide +kernel
theorem dX11_lays_61 : decode cX11_lays 61 = .ok (.iinc 4 (-1), 3) := by decide +kernel
theorem dX11_lays_64 : decode cX11_lays 64 = .ok (.goto (-34), 3) := by decide +kernel
theorem dX11_lays_67 : decode cX11_lays 67 = .ok (.aload_n 0, 1) := by decide +kernel
theorem dX11_lays_68 : decode cX11_lays 68 = .ok (.iload_n 1, 1) := by decide +kernel
theorem dX11_lays_69 : decode cX11_lays 69 = .ok (.iload 4, 2) := by decide +kernel
theorem dX11_lays_71 : decode cX11_lays 71 = .ok (.iadd, 1) := by decide +kernel
theorem dX11_lays_72 : decode cX11_lays 72 = .ok (.iload_n 3, 1) := by decide +kernel
theorem dX11_lays_73 : decode cX11_lays 73 = .ok (.iastore, 1) := by decide +kernel
theorem dX11_lays_74 : decode cX11_lays 74 = .ok (.iload_n 2, 1) := by decide +kernel
theorem dX11_lays_75 : decode cX11_lays 75 = .ok (.iconst 1, 1) := by decide +kernel
theorem dX11_lays_76 : decode cX11_lays 76 = .ok (.iadd, 1) := by decide +kernel
theorem dX11_lays_77 : decode cX11_lays 77 = .ok (.ireturn, 1) := by decide +kernel
theorem dX11_placeOf_0 : decode cX11_placeOf 0 = .ok (.iconst (-1), 1) := by decide +kernel
theorem dX11_placeOf_1 : decode cX11_placeOf 1 = .ok (.istore 4, 2) := by decide +kernel
theorem dX11_placeOf_3 : decode cX11_placeOf 3 = .ok (.iconst 0, 1) := by decide +kernel
theorem dX11_placeOf_4 : decode cX11_placeOf 4 = .ok (.istore 5, 2) := by decide +kernel
theorem dX11_placeOf_6 : decode cX11_placeOf 6 = .ok (.iload 5, 2) := by decide +kernel
theorem dX11_placeOf_8 : decode cX11_placeOf 8 = .ok (.iload_n 2, 1) := by decide +kernel
theorem dX11_placeOf_9 : decode cX11_placeOf 9 = .ok (.if_icmp .ge 28, 3) := by decide +kernel
theorem dX11_placeOf_12 : decode cX11_placeOf 12 = .ok (.aload_n 0, 1) := by decide +kernel
theorem dX11_placeOf_13 : decode cX11_placeOf 13 = .ok (.iload_n 1, 1) := by decide +kernel
theorem dX11_placeOf_14 : decode cX11_placeOf 14 = .ok (.iload 5, 2) := by decide +kernel
theorem dX11_placeOf_16 : decode cX11_placeOf 16 = .ok (.iadd, 1) := by decide +kernel
theorem dX11_placeOf_17 : decode cX11_placeOf 17 = .ok (.iaload, 1) := by decide +kernel
theorem dX11_placeOf_18 : decode cX11_placeOf 18 = .ok (.iload_n 3, 1) := by decide +kernel
theorem dX11_placeOf_19 : decode cX11_placeOf 19 = .ok (.if_icmp .ne 8, 3) := by decide +kernel
theorem dX11_placeOf_22 : decode cX11_placeOf 22 = .ok (.iload 5, 2) := by decide +kernel
theorem dX11_placeOf_24 : decode cX11_placeOf 24 = .ok (.goto 5, 3) := by decide +kernel
theorem dX11_placeOf_27 : decode cX11_placeOf 27 = .ok (.iload 4, 2) := by decide +kernel
theorem dX11_placeOf_29 : decode cX11_placeOf 29 = .ok (.istore 4, 2) := by decide +kernel
theorem dX11_placeOf_31 : decode cX11_placeOf 31 = .ok (.iinc 5 1, 3) := by decide +kernel
theorem dX11_placeOf_34 : decode cX11_placeOf 34 = .ok (.goto (-28), 3) := by decide +kernel
theorem dX11_placeOf_37 : decode cX11_placeOf 37 = .ok (.iload 4, 2) := by decide +kernel
theorem dX11_placeOf_39 : decode cX11_placeOf 39 = .ok (.ireturn, 1) := by decide +kernel
theorem dX11_takes_0 : decode cX11_takes 0 = .ok (.iload_n 3, 1) := by decide +kernel
theorem dX11_takes_1 : decode cX11_takes 1 = .ok (.istore 4, 2) := by decide +kernel
theorem dX11_takes_3 : decode cX11_takes 3 = .ok (.iload 4, 2) := by decide +kernel
theorem dX11_takes_5 : decode cX11_takes 5 = .ok (.iload_n 2, 1) := by decide +kernel
theorem dX11_takes_6 : decode cX11_takes 6 = .ok (.iconst 1, 1) := by decide +kernel
theorem dX11_takes_7 : decode cX11_takes 7 = .ok (.isub, 1) := by decide +kernel
theorem dX11_takes_8 : decode cX11_takes 8 = .ok (.if_icmp .ge 23, 3) := by decide +kernel
theorem dX11_takes_11 : decode cX11_takes 11 = .ok (.aload_n 0, 1) := by decide +kernel
theorem dX11_takes_12 : decode cX11_takes 12 = .ok (.iload_n 1, 1) := by decide +kernel
theorem dX11_takes_13 : decode cX11_takes 13 = .ok (.iload 4, 2) := by decide +kernel
theorem dX11_takes_15 : decode cX11_takes 15 = .ok (.iadd, 1) := by decide +kernel
theorem dX11_takes_16 : decode cX11_takes 16 = .ok (.aload_n 0, 1) := by decide +kernel
theorem dX11_takes_17 : decode cX11_takes 17 = .ok (.iload_n 1, 1) := by decide +kernel
theorem dX11_takes_18 : decode cX11_takes 18 = .ok (.iload 4, 2) := by decide +kernel
theorem dX11_takes_20 : decode cX11_takes 20 = .ok (.iadd, 1) := by decide +kernel
theorem dX11_takes_21 : decode cX11_takes 21 = .ok (.iconst 1, 1) := by decide +kernel
theorem dX11_takes_22 : decode cX11_takes 22 = .ok (.iadd, 1) := by decide +kernel
theorem dX11_takes_23 : decode cX11_takes 23 = .ok (.iaload, 1) := by decide +kernel
theorem dX11_takes_24 : decode cX11_takes 24 = .ok (.iastore, 1) := by decide +kernel
theorem dX11_takes_25 : decode cX11_takes 25 = .ok (.iinc 4 1, 3) := by decide +kernel
theorem dX11_takes_28 : decode cX11_takes 28 = .ok (.goto (-25), 3) := by decide +kernel
theorem dX11_takes_31 : decode cX11_takes 31 = .ok (.iload_n 2, 1) := by decide +kernel
theorem dX11_takes_32 : decode cX11_takes 32 = .ok (.iconst 1, 1) := by decide +kernel
theorem dX11_takes_33 : decode cX11_takes 33 = .ok (.isub, 1) := by decide +kernel
theorem dX11_takes_34 : decode cX11_takes 34 = .ok (.ireturn, 1) := by decide +kernel
theorem dX11_rowWith_0 : decode cX11_rowWith 0 = .ok (.iconst (-1), 1) := by decide +kernel
theorem dX11_rowWith_1 : decode cX11_rowWith 1 = .ok (.istore 6, 2) := by decide +kernel
theorem dX11_rowWith_3 : decode cX11_rowWith 3 = .ok (.iload_n 3, 1) := by decide +kernel
theorem dX11_rowWith_4 : decode cX11_rowWith 4 = .ok (.iconst 1, 1) := by decide +kernel
theorem dX11_rowWith_5 : decode cX11_rowWith 5 = .ok (.isub, 1) := by decide +kernel
theorem dX11_rowWith_6 : decode cX11_rowWith 6 = .ok (.istore 7, 2) := by decide +kernel
theorem dX11_rowWith_8 : decode cX11_rowWith 8 = .ok (.iload 7, 2) := by decide +kernel
theorem dX11_rowWith_10 : decode cX11_rowWith 10 = .ok (.ifCond .lt 39, 3) := by decide +kernel
theorem dX11_rowWith_13 : decode cX11_rowWith 13 = .ok (.aload_n 0, 1) := by decide +kernel
theorem dX11_rowWith_14 : decode cX11_rowWith 14 = .ok (.aload_n 1, 1) := by decide +kernel
theorem dX11_rowWith_15 : decode cX11_rowWith 15 = .ok (.iload_n 2, 1) := by decide +kernel
theorem dX11_rowWith_16 : decode cX11_rowWith 16 = .ok (.iload 7, 2) := by decide +kernel
theorem dX11_rowWith_18 : decode cX11_rowWith 18 = .ok (.iadd, 1) := by decide +kernel
theorem dX11_rowWith_19 : decode cX11_rowWith 19 = .ok (.iaload, 1) := by decide +kernel
theorem dX11_rowWith_20 : decode cX11_rowWith 20 = .ok (.iload 4, 2) := by decide +kernel
theorem dX11_rowWith_22 : decode cX11_rowWith 22 = .ok (.invokevirtual 100, 3) := by decide +kernel
theorem dX11_rowWith_25 : decode cX11_rowWith 25 = .ok (.iload 5, 2) := by decide +kernel
theorem dX11_rowWith_27 : decode cX11_rowWith 27 = .ok (.if_icmp .ne 12, 3) := by decide +kernel
theorem dX11_rowWith_30 : decode cX11_rowWith 30 = .ok (.aload_n 1, 1) := by decide +kernel
theorem dX11_rowWith_31 : decode cX11_rowWith 31 = .ok (.iload_n 2, 1) := by decide +kernel
theorem dX11_rowWith_32 : decode cX11_rowWith 32 = .ok (.iload 7, 2) := by decide +kernel
theorem dX11_rowWith_34 : decode cX11_rowWith 34 = .ok (.iadd, 1) := by decide +kernel
theorem dX11_rowWith_35 : decode cX11_rowWith 35 = .ok (.iaload, 1) := by decide +kernel
theorem dX11_rowWith_36 : decode cX11_rowWith 36 = .ok (.goto 5, 3) := by decide +kernel
theorem dX11_rowWith_39 : decode cX11_rowWith 39 = .ok (.iload 6, 2) := by decide +kernel
theorem dX11_rowWith_41 : decode cX11_rowWith 41 = .ok (.istore 6, 2) := by decide +kernel
theorem dX11_rowWith_43 : decode cX11_rowWith 43 = .ok (.iinc 7 (-1), 3) := by decide +kernel
theorem dX11_rowWith_46 : decode cX11_rowWith 46 = .ok (.goto (-38), 3) := by decide +kernel
theorem dX11_rowWith_49 : decode cX11_rowWith 49 = .ok (.iload 6, 2) := by decide +kernel
theorem dX11_rowWith_51 : decode cX11_rowWith 51 = .ok (.ireturn, 1) := by decide +kernel
theorem dX11_isTable_0 : decode cX11_isTable 0 = .ok (.iload_n 1, 1) := by decide +kernel
theorem dX11_isTable_1 : decode cX11_isTable 1 = .ok (.iconst 0, 1) := by decide +kernel
theorem dX11_isTable_2 : decode cX11_isTable 2 = .ok (.aload_n 0, 1) := by decide +kernel
theorem dX11_isTable_3 : decode cX11_isTable 3 = .ok (.getfield 103, 3) := by decide +kernel
theorem dX11_isTable_6 : decode cX11_isTable 6 = .ok (.iconst 1, 1) := by decide +kernel
theorem dX11_isTable_7 : decode cX11_isTable 7 = .ok (.isub, 1) := by decide +kernel
theorem dX11_isTable_8 : decode cX11_isTable 8 = .ok (.invokestatic 96, 3) := by decide +kernel
theorem dX11_isTable_11 : decode cX11_isTable 11 = .ok (.ireturn, 1) := by decide +kernel
theorem dX11_table_0 : decode cX11_table 0 = .ok (.iload_n 1, 1) := by decide +kernel
theorem dX11_table_1 : decode cX11_table 1 = .ok (.iconst 1, 1) := by decide +kernel
theorem dX11_table_2 : decode cX11_table 2 = .ok (.bipush 63, 2) := by decide +kernel
theorem dX11_table_4 : decode cX11_table 4 = .ok (.invokestatic 96, 3) := by decide +kernel
theorem dX11_table_7 : decode cX11_table 7 = .ok (.ifCond .eq 19, 3) := by decide +kernel
theorem dX11_table_10 : decode cX11_table 10 = .ok (.iload_n 2, 1) := by decide +kernel
theorem dX11_table_11 : decode cX11_table 11 = .ok (.ifCond .le 15, 3) := by decide +kernel
theorem dX11_table_14 : decode cX11_table 14 = .ok (.iload_n 2, 1) := by decide +kernel
theorem dX11_table_15 : decode cX11_table 15 = .ok (.iload_n 1, 1) := by decide +kernel
theorem dX11_table_16 : decode cX11_table 16 = .ok (.iconst (-1), 1) := by decide +kernel
theorem dX11_table_17 : decode cX11_table 17 = .ok (.ixor, 1) := by decide +kernel
theorem dX11_table_18 : decode cX11_table 18 = .ok (.iand, 1) := by decide +kernel
theorem dX11_table_19 : decode cX11_table 19 = .ok (.ifCond .ne 7, 3) := by decide +kernel
theorem dX11_table_22 : decode cX11_table 22 = .ok (.iconst 1, 1) := by decide +kernel
theorem dX11_table_23 : decode cX11_table 23 = .ok (.goto 4, 3) := by decide +kernel
theorem dX11_table_26 : decode cX11_table 26 = .ok (.iconst 0, 1) := by decide +kernel
theorem dX11_table_27 : decode cX11_table 27 = .ok (.istore_n 3, 1) := by decide +kernel
theorem dX11_table_28 : decode cX11_table 28 = .ok (.aload_n 0, 1) := by decide +kernel
theorem dX11_table_29 : decode cX11_table 29 = .ok (.iload_n 3, 1) := by decide +kernel
theorem dX11_table_30 : decode cX11_table 30 = .ok (.ifCond .ne 7, 3) := by decide +kernel
theorem dX11_table_33 : decode cX11_table 33 = .ok (.iconst 1, 1) := by decide +kernel
theorem dX11_table_34 : decode cX11_table 34 = .ok (.goto 16, 3) := by decide +kernel
theorem dX11_table_37 : decode cX11_table 37 = .ok (.aload_n 0, 1) := by decide +kernel
theorem dX11_table_38 : decode cX11_table 38 = .ok (.getfield 103, 3) := by decide +kernel
theorem dX11_table_41 : decode cX11_table 41 = .ok (.iconst 3, 1) := by decide +kernel
theorem dX11_table_42 : decode cX11_table 42 = .ok (.if_icmp .ne 7, 3) := by decide +kernel
theorem dX11_table_45 : decode cX11_table 45 = .ok (.iconst 2, 1) := by decide +kernel
theorem dX11_table_46 : decode cX11_table 46 = .ok (.goto 4, 3) := by decide +kernel
theorem dX11_table_49 : decode cX11_table 49 = .ok (.iconst 0, 1) := by decide +kernel
theorem dX11_table_50 : decode cX11_table 50 = .ok (.putfield 87, 3) := by decide +kernel
theorem dX11_table_53 : decode cX11_table 53 = .ok (.aload_n 0, 1) := by decide +kernel
theorem dX11_table_54 : decode cX11_table 54 = .ok (.getfield 87, 3) := by decide +kernel
theorem dX11_table_57 : decode cX11_table 57 = .ok (.ifCond .le 5, 3) := by decide +kernel
theorem dX11_table_60 : decode cX11_table 60 = .ok (.iconst 0, 1) := by decide +kernel
theorem dX11_table_61 : decode cX11_table 61 = .ok (.ireturn, 1) := by decide +kernel
theorem dX11_table_62 : decode cX11_table 62 = .ok (.aload_n 0, 1) := by decide +kernel
theorem dX11_table_63 : decode cX11_table 63 = .ok (.getfield 14, 3) := by decide +kernel
theorem dX11_table_66 : decode cX11_table 66 = .ok (.aload_n 0, 1) := by decide +kernel
theorem dX11_table_67 : decode cX11_table 67 = .ok (.getfield 103, 3) := by decide +kernel
theorem dX11_table_70 : decode cX11_table 70 = .ok (.iload_n 1, 1) := by decide +kernel
theorem dX11_table_71 : decode cX11_table 71 = .ok (.iastore, 1) := by decide +kernel
theorem dX11_table_72 : decode cX11_table 72 = .ok (.aload_n 0, 1) := by decide +kernel
theorem dX11_table_73 : decode cX11_table 73 = .ok (.getfield 17, 3) := by decide +kernel
theorem dX11_table_76 : decode cX11_table 76 = .ok (.aload_n 0, 1) := by decide +kernel
theorem dX11_table_77 : decode cX11_table 77 = .ok (.getfield 103, 3) := by decide +kernel
theorem dX11_table_80 : decode cX11_table 80 = .ok (.iload_n 2, 1) := by decide +kernel
theorem dX11_table_81 : decode cX11_table 81 = .ok (.iastore, 1) := by decide +kernel
theorem dX11_table_82 : decode cX11_table 82 = .ok (.aload_n 0, 1) := by decide +kernel
theorem dX11_table_83 : decode cX11_table 83 = .ok (.getfield 20, 3) := by decide +kernel
theorem dX11_table_86 : decode cX11_table 86 = .ok (.aload_n 0, 1) := by decide +kernel
theorem dX11_table_87 : decode cX11_table 87 = .ok (.getfield 103, 3) := by decide +kernel
theorem dX11_table_90 : decode cX11_table 90 = .ok (.iconst 0, 1) := by decide +kernel
theorem dX11_table_91 : decode cX11_table 91 = .ok (.iastore, 1) := by decide +kernel
theorem dX11_table_92 : decode cX11_table 92 = .ok (.aload_n 0, 1) := by decide +kernel
theorem dX11_table_93 : decode cX11_table 93 = .ok (.dup, 1) := by decide +kernel
theorem dX11_table_94 : decode cX11_table 94 = .ok (.getfield 103, 3) := by decide +kernel
theorem dX11_table_97 : decode cX11_table 97 = .ok (.iconst 1, 1) := by decide +kernel
theorem dX11_table_98 : decode cX11_table 98 = .ok (.iadd, 1) := by decide +kernel
theorem dX11_table_99 : decode cX11_table 99 = .ok (.putfield 103, 3) := by decide +kernel
theorem dX11_table_102 : decode cX11_table 102 = .ok (.aload_n 0, 1) := by decide +kernel
theorem dX11_table_103 : decode cX11_table 103 = .ok (.getfield 103, 3) := by decide +kernel
theorem dX11_table_106 : decode cX11_table 106 = .ok (.iconst 1, 1) := by decide +kernel
theorem dX11_table_107 : decode cX11_table 107 = .ok (.isub, 1) := by decide +kernel
theorem dX11_table_108 : decode cX11_table 108 = .ok (.ireturn, 1) := by decide +kernel
theorem dX11_insert_0 : decode cX11_insert 0 = .ok (.aload_n 0, 1) := by decide +kernel
theorem dX11_insert_1 : decode cX11_insert 1 = .ok (.aload_n 0, 1) := by decide +kernel
theorem dX11_insert_2 : decode cX11_insert 2 = .ok (.iload_n 1, 1) := by decide +kernel
theorem dX11_insert_3 : decode cX11_insert 3 = .ok (.invokevirtual 106, 3) := by decide +kernel
theorem dX11_insert_6 : decode cX11_insert 6 = .ok (.ifCond .ne 7, 3) := by decide +kernel
theorem dX11_insert_9 : decode cX11_insert 9 = .ok (.iconst 1, 1) := by decide +kernel
theorem dX11_insert_10 : decode cX11_insert 10 = .ok (.goto 22, 3) := by decide +kernel
theorem dX11_insert_13 : decode cX11_insert 13 = .ok (.aload_n 0, 1) := by decide +kernel
theorem dX11_insert_14 : decode cX11_insert 14 = .ok (.iload_n 2, 1) := by decide +kernel
theorem dX11_insert_15 : decode cX11_insert 15 = .ok (.aload_n 0, 1) := by decide +kernel
theorem dX11_insert_16 : decode cX11_insert 16 = .ok (.getfield 14, 3) := by decide +kernel
theorem dX11_insert_19 : decode cX11_insert 19 = .ok (.iload_n 1, 1) := by decide +kernel
theorem dX11_insert_20 : decode cX11_insert 20 = .ok (.iaload, 1) := by decide +kernel
theorem dX11_insert_21 : decode cX11_insert 21 = .ok (.invokevirtual 110, 3) := by decide +kernel
theorem dX11_insert_24 : decode cX11_insert 24 = .ok (.ifCond .ne 7, 3) := by decide +kernel
theorem dX11_insert_27 : decode cX11_insert 27 = .ok (.iconst 2, 1) := by decide +kernel
theorem dX11_insert_28 : decode cX11_insert 28 = .ok (.goto 4, 3) := by decide +kernel
theorem dX11_insert_31 : decode cX11_insert 31 = .ok (.iconst 0, 1) := by decide +kernel
theorem dX11_insert_32 : decode cX11_insert 32 = .ok (.putfield 87, 3) := by decide +kernel
theorem dX11_insert_35 : decode cX11_insert 35 = .ok (.aload_n 0, 1) := by decide +kernel
theorem dX11_insert_36 : decode cX11_insert 36 = .ok (.getfield 87, 3) := by decide +kernel
theorem dX11_insert_39 : decode cX11_insert 39 = .ok (.ifCond .ne 72, 3) := by decide +kernel
theorem dX11_insert_42 : decode cX11_insert 42 = .ok (.aload_n 0, 1) := by decide +kernel
theorem dX11_insert_43 : decode cX11_insert 43 = .ok (.aload_n 0, 1) := by decide +kernel
theorem dX11_insert_44 : decode cX11_insert 44 = .ok (.getfield 23, 3) := by decide +kernel
theorem dX11_insert_47 : decode cX11_insert 47 = .ok (.bipush 12, 2) := by decide +kernel
theorem dX11_insert_49 : decode cX11_insert 49 = .ok (.iload_n 1, 1) := by decide +kernel
theorem dX11_insert_50 : decode cX11_insert 50 = .ok (.imul, 1) := by decide +kernel
theorem dX11_insert_51 : decode cX11_insert 51 = .ok (.aload_n 0, 1) := by decide +kernel
theorem dX11_insert_52 : decode cX11_insert 52 = .ok (.getfield 20, 3) := by decide +kernel
theorem dX11_insert_55 : decode cX11_insert 55 = .ok (.iload_n 1, 1) := by decide +kernel
theorem dX11_insert_56 : decode cX11_insert 56 = .ok (.iaload, 1) := by decide +kernel
theorem dX11_insert_57 : decode cX11_insert 57 = .ok (.aload_n 0, 1) := by decide +kernel
theorem dX11_insert_58 : decode cX11_insert 58 = .ok (.getfield 17, 3) := by decide +kernel
theorem dX11_insert_61 : decode cX11_insert 61 = .ok (.iload_n 1, 1) := by decide +kernel
theorem dX11_insert_62 : decode cX11_insert 62 = .ok (.iaload, 1) := by decide +kernel
theorem dX11_insert_63 : decode cX11_insert 63 = .ok (.aload_n 0, 1) := by decide +kernel
theorem dX11_insert_64 : decode cX11_insert 64 = .ok (.iload_n 2, 1) := by decide +kernel
theorem dX11_insert_65 : decode cX11_insert 65 = .ok (.aload_n 0, 1) := by decide +kernel
theorem dX11_insert_66 : decode cX11_insert 66 = .ok (.getfield 17, 3) := by decide +kernel
theorem dX11_insert_69 : decode cX11_insert 69 = .ok (.iload_n 1, 1) := by decide +kernel
theorem dX11_insert_70 : decode cX11_insert 70 = .ok (.iaload, 1) := by decide +kernel
theorem dX11_insert_71 : decode cX11_insert 71 = .ok (.invokevirtual 100, 3) := by decide +kernel
theorem dX11_insert_74 : decode cX11_insert 74 = .ok (.invokevirtual 114, 3) := by decide +kernel
theorem dX11_insert_77 : decode cX11_insert 77 = .ok (.iconst (-1), 1) := by decide +kernel
theorem dX11_insert_78 : decode cX11_insert 78 = .ok (.if_icmp .eq 7, 3) := by decide +kernel
theorem dX11_insert_81 : decode cX11_insert 81 = .ok (.iconst 1, 1) := by decide +kernel
theorem dX11_insert_82 : decode cX11_insert 82 = .ok (.goto 4, 3) := by decide +kernel
theorem dX11_insert_85 : decode cX11_insert 85 = .ok (.iconst 0, 1) := by decide +kernel
theorem dX11_insert_86 : decode cX11_insert 86 = .ok (.istore_n 3, 1) := by decide +kernel
theorem dX11_insert_87 : decode cX11_insert 87 = .ok (.aload_n 0, 1) := by decide +kernel
theorem dX11_insert_88 : decode cX11_insert 88 = .ok (.iload_n 3, 1) := by decide +kernel
theorem dX11_insert_89 : decode cX11_insert 89 = .ok (.ifCond .ne 14, 3) := by decide +kernel
theorem dX11_insert_92 : decode cX11_insert 92 = .ok (.aload_n 0, 1) := by decide +kernel
theorem dX11_insert_93 : decode cX11_insert 93 = .ok (.getfield 20, 3) := by decide +kernel
theorem dX11_insert_96 : decode cX11_insert 96 = .ok (.iload_n 1, 1) := by decide +kernel
theorem dX11_insert_97 : decode cX11_insert 97 = .ok (.iaload, 1) := by decide +kernel
theorem dX11_insert_98 : decode cX11_insert 98 = .ok (.bipush 12, 2) := by decide +kernel
theorem dX11_insert_100 : decode cX11_insert 100 = .ok (.if_icmp .ne 7, 3) := by decide +kernel
theorem dX11_insert_103 : decode cX11_insert 103 = .ok (.iconst 3, 1) := by decide +kernel
theorem dX11_insert_104 : decode cX11_insert 104 = .ok (.goto 4, 3) := by decide +kernel
theorem dX11_insert_107 : decode cX11_insert 107 = .ok (.iconst 0, 1) := by decide +kernel
theorem dX11_insert_108 : decode cX11_insert 108 = .ok (.putfield 87, 3) := by decide +kernel
theorem dX11_insert_111 : decode cX11_insert 111 = .ok (.aload_n 0, 1) := by decide +kernel
theorem dX11_insert_112 : decode cX11_insert 112 = .ok (.getfield 87, 3) := by decide +kernel
theorem dX11_insert_115 : decode cX11_insert 115 = .ok (.ifCond .le 5, 3) := by decide +kernel
theorem dX11_insert_118 : decode cX11_insert 118 = .ok (.iconst 0, 1) := by decide +kernel
theorem dX11_insert_119 : decode cX11_insert 119 = .ok (.ireturn, 1) := by decide +kernel
theorem dX11_insert_120 : decode cX11_insert 120 = .ok (.aload_n 0, 1) := by decide +kernel
theorem dX11_insert_121 : decode cX11_insert 121 = .ok (.getfield 20, 3) := by decide +kernel
theorem dX11_insert_124 : decode cX11_insert 124 = .ok (.iload_n 1, 1) := by decide +kernel
theorem dX11_insert_125 : decode cX11_insert 125 = .ok (.aload_n 0, 1) := by decide +kernel
theorem dX11_insert_126 : decode cX11_insert 126 = .ok (.getfield 23, 3) := by decide +kernel
theorem dX11_insert_129 : decode cX11_insert 129 = .ok (.bipush 12, 2) := by decide +kernel
theorem dX11_insert_131 : decode cX11_insert 131 = .ok (.iload_n 1, 1) := by decide +kernel
theorem dX11_insert_132 : decode cX11_insert 132 = .ok (.imul, 1) := by decide +kernel
theorem dX11_insert_133 : decode cX11_insert 133 = .ok (.aload_n 0, 1) := by decide +kernel
theorem dX11_insert_134 : decode cX11_insert 134 = .ok (.getfield 20, 3) := by decide +kernel
theorem dX11_insert_137 : decode cX11_insert 137 = .ok (.iload_n 1, 1) := by decide +kernel
theorem dX11_insert_138 : decode cX11_insert 138 = .ok (.iaload, 1) := by decide +kernel
theorem dX11_insert_139 : decode cX11_insert 139 = .ok (.iload_n 2, 1) := by decide +kernel
theorem dX11_insert_140 : decode cX11_insert 140 = .ok (.invokestatic 118, 3) := by decide +kernel
theorem dX11_insert_143 : decode cX11_insert 143 = .ok (.iastore, 1) := by decide +kernel
theorem dX11_insert_144 : decode cX11_insert 144 = .ok (.aload_n 0, 1) := by decide +kernel
theorem dX11_insert_145 : decode cX11_insert 145 = .ok (.getfield 20, 3) := by decide +kernel
theorem dX11_insert_148 : decode cX11_insert 148 = .ok (.iload_n 1, 1) := by decide +kernel
theorem dX11_insert_149 : decode cX11_insert 149 = .ok (.iaload, 1) := by decide +kernel
theorem dX11_insert_150 : decode cX11_insert 150 = .ok (.ireturn, 1) := by decide +kernel
theorem dX11_delete_0 : decode cX11_delete 0 = .ok (.aload_n 0, 1) := by decide +kernel
theorem dX11_delete_1 : decode cX11_delete 1 = .ok (.aload_n 0, 1) := by decide +kernel
theorem dX11_delete_2 : decode cX11_delete 2 = .ok (.iload_n 1, 1) := by decide +kernel
theorem dX11_delete_3 : decode cX11_delete 3 = .ok (.invokevirtual 106, 3) := by decide +kernel
theorem dX11_delete_6 : decode cX11_delete 6 = .ok (.ifCond .ne 7, 3) := by decide +kernel
theorem dX11_delete_9 : decode cX11_delete 9 = .ok (.iconst 1, 1) := by decide +kernel
theorem dX11_delete_10 : decode cX11_delete 10 = .ok (.goto 30, 3) := by decide +kernel
theorem dX11_delete_13 : decode cX11_delete 13 = .ok (.aload_n 0, 1) := by decide +kernel
theorem dX11_delete_14 : decode cX11_delete 14 = .ok (.getfield 23, 3) := by decide +kernel
theorem dX11_delete_17 : decode cX11_delete 17 = .ok (.bipush 12, 2) := by decide +kernel
theorem dX11_delete_19 : decode cX11_delete 19 = .ok (.iload_n 1, 1) := by decide +kernel
theorem dX11_delete_20 : decode cX11_delete 20 = .ok (.imul, 1) := by decide +kernel
theorem dX11_delete_21 : decode cX11_delete 21 = .ok (.aload_n 0, 1) := by decide +kernel
theorem dX11_delete_22 : decode cX11_delete 22 = .ok (.getfield 20, 3) := by decide +kernel
theorem dX11_delete_25 : decode cX11_delete 25 = .ok (.iload_n 1, 1) := by decide +kernel
theorem dX11_delete_26 : decode cX11_delete 26 = .ok (.iaload, 1) := by decide +kernel
theorem dX11_delete_27 : decode cX11_delete 27 = .ok (.iload_n 2, 1) := by decide +kernel
theorem dX11_delete_28 : decode cX11_delete 28 = .ok (.invokestatic 122, 3) := by decide +kernel
theorem dX11_delete_31 : decode cX11_delete 31 = .ok (.iconst (-1), 1) := by decide +kernel
theorem dX11_delete_32 : decode cX11_delete 32 = .ok (.if_icmp .ne 7, 3) := by decide +kernel
theorem dX11_delete_35 : decode cX11_delete 35 = .ok (.iconst 2, 1) := by decide +kernel
theorem dX11_delete_36 : decode cX11_delete 36 = .ok (.goto 4, 3) := by decide +kernel
theorem dX11_delete_39 : decode cX11_delete 39 = .ok (.iconst 0, 1) := by decide +kernel
theorem dX11_delete_40 : decode cX11_delete 40 = .ok (.putfield 87, 3) := by decide +kernel
theorem dX11_delete_43 : decode cX11_delete 43 = .ok (.aload_n 0, 1) := by decide +kernel
theorem dX11_delete_44 : decode cX11_delete 44 = .ok (.getfield 87, 3) := by decide +kernel
theorem dX11_delete_47 : decode cX11_delete 47 = .ok (.ifCond .le 5, 3) := by decide +kernel
theorem dX11_delete_50 : decode cX11_delete 50 = .ok (.iconst 0, 1) := by decide +kernel
theorem dX11_delete_51 : decode cX11_delete 51 = .ok (.ireturn, 1) := by decide +kernel
theorem dX11_delete_52 : decode cX11_delete 52 = .ok (.aload_n 0, 1) := by decide +kernel
theorem dX11_delete_53 : decode cX11_delete 53 = .ok (.getfield 20, 3) := by decide +kernel
theorem dX11_delete_56 : decode cX11_delete 56 = .ok (.iload_n 1, 1) := by decide +kernel
theorem dX11_delete_57 : decode cX11_delete 57 = .ok (.aload_n 0, 1) := by decide +kernel
theorem dX11_delete_58 : decode cX11_delete 58 = .ok (.getfield 23, 3) := by decide +kernel
theorem dX11_delete_61 : decode cX11_delete 61 = .ok (.bipush 12, 2) := by decide +kernel
theorem dX11_delete_63 : decode cX11_delete 63 = .ok (.iload_n 1, 1) := by decide +kernel
theorem dX11_delete_64 : decode cX11_delete 64 = .ok (.imul, 1) := by decide +kernel
theorem dX11_delete_65 : decode cX11_delete 65 = .ok (.aload_n 0, 1) := by decide +kernel
theorem dX11_delete_66 : decode cX11_delete 66 = .ok (.getfield 20, 3) := by decide +kernel
theorem dX11_delete_69 : decode cX11_delete 69 = .ok (.iload_n 1, 1) := by decide +kernel
theorem dX11_delete_70 : decode cX11_delete 70 = .ok (.iaload, 1) := by decide +kernel
theorem dX11_delete_71 : decode cX11_delete 71 = .ok (.aload_n 0, 1) := by decide +kernel
theorem dX11_delete_72 : decode cX11_delete 72 = .ok (.getfield 23, 3) := by decide +kernel
theorem dX11_delete_75 : decode cX11_delete 75 = .ok (.bipush 12, 2) := by decide +kernel
theorem dX11_delete_77 : decode cX11_delete 77 = .ok (.iload_n 1, 1) := by decide +kernel
theorem dX11_delete_78 : decode cX11_delete 78 = .ok (.imul, 1) := by decide +kernel
theorem dX11_delete_79 : decode cX11_delete 79 = .ok (.aload_n 0, 1) := by decide +kernel
theorem dX11_delete_80 : decode cX11_delete 80 = .ok (.getfield 20, 3) := by decide +kernel
theorem dX11_delete_83 : decode cX11_delete 83 = .ok (.iload_n 1, 1) := by decide +kernel
theorem dX11_delete_84 : decode cX11_delete 84 = .ok (.iaload, 1) := by decide +kernel
theorem dX11_delete_85 : decode cX11_delete 85 = .ok (.iload_n 2, 1) := by decide +kernel
theorem dX11_delete_86 : decode cX11_delete 86 = .ok (.invokestatic 122, 3) := by decide +kernel
theorem dX11_delete_89 : decode cX11_delete 89 = .ok (.invokestatic 125, 3) := by decide +kernel
theorem dX11_delete_92 : decode cX11_delete 92 = .ok (.iastore, 1) := by decide +kernel
theorem dX11_delete_93 : decode cX11_delete 93 = .ok (.aload_n 0, 1) := by decide +kernel
theorem dX11_delete_94 : decode cX11_delete 94 = .ok (.getfield 20, 3) := by decide +kernel
theorem dX11_delete_97 : decode cX11_delete 97 = .ok (.iload_n 1, 1) := by decide +kernel
theorem dX11_delete_98 : decode cX11_delete 98 = .ok (.iaload, 1) := by decide +kernel
theorem dX11_delete_99 : decode cX11_delete 99 = .ok (.ireturn, 1) := by decide +kernel
theorem dX11_isView_0 : decode cX11_isView 0 = .ok (.iload_n 1, 1) := by decide +kernel
theorem dX11_isView_1 : decode cX11_isView 1 = .ok (.iconst 0, 1) := by decide +kernel
theorem dX11_isView_2 : decode cX11_isView 2 = .ok (.aload_n 0, 1) := by decide +kernel
theorem dX11_isView_3 : decode cX11_isView 3 = .ok (.getfield 128, 3) := by decide +kernel
theorem dX11_isView_6 : decode cX11_isView 6 = .ok (.iconst 1, 1) := by decide +kernel
theorem dX11_isView_7 : decode cX11_isView 7 = .ok (.isub, 1) := by decide +kernel
theorem dX11_isView_8 : decode cX11_isView 8 = .ok (.invokestatic 96, 3) := by decide +kernel
theorem dX11_isView_11 : decode cX11_isView 11 = .ok (.ireturn, 1) := by decide +kernel
theorem dX11_makes_0 : decode cX11_makes 0 = .ok (.aload_n 0, 1) := by decide +kernel
theorem dX11_makes_1 : decode cX11_makes 1 = .ok (.getfield 26, 3) := by decide +kernel
theorem dX11_makes_4 : decode cX11_makes 4 = .ok (.aload_n 0, 1) := by decide +kernel
theorem dX11_makes_5 : decode cX11_makes 5 = .ok (.getfield 128, 3) := by decide +kernel
theorem dX11_makes_8 : decode cX11_makes 8 = .ok (.iload_n 1, 1) := by decide +kernel
theorem dX11_makes_9 : decode cX11_makes 9 = .ok (.iastore, 1) := by decide +kernel
theorem dX11_makes_10 : decode cX11_makes 10 = .ok (.aload_n 0, 1) := by decide +kernel
theorem dX11_makes_11 : decode cX11_makes 11 = .ok (.getfield 29, 3) := by decide +kernel
theorem dX11_makes_14 : decode cX11_makes 14 = .ok (.aload_n 0, 1) := by decide +kernel
theorem dX11_makes_15 : decode cX11_makes 15 = .ok (.getfield 128, 3) := by decide +kernel
theorem dX11_makes_18 : decode cX11_makes 18 = .ok (.iload_n 2, 1) := by decide +kernel
theorem dX11_makes_19 : decode cX11_makes 19 = .ok (.iastore, 1) := by decide +kernel
theorem dX11_makes_20 : decode cX11_makes 20 = .ok (.aload_n 0, 1) := by decide +kernel
theorem dX11_makes_21 : decode cX11_makes 21 = .ok (.getfield 45, 3) := by decide +kernel
theorem dX11_makes_24 : decode cX11_makes 24 = .ok (.aload_n 0, 1) := by decide +kernel
theorem dX11_makes_25 : decode cX11_makes 25 = .ok (.getfield 128, 3) := by decide +kernel
theorem dX11_makes_28 : decode cX11_makes 28 = .ok (.iload_n 3, 1) := by decide +kernel
theorem dX11_makes_29 : decode cX11_makes 29 = .ok (.iastore, 1) := by decide +kernel
theorem dX11_makes_30 : decode cX11_makes 30 = .ok (.aload_n 0, 1) := by decide +kernel
theorem dX11_makes_31 : decode cX11_makes 31 = .ok (.getfield 48, 3) := by decide +kernel
theorem dX11_makes_34 : decode cX11_makes 34 = .ok (.aload_n 0, 1) := by decide +kernel
theorem dX11_makes_35 : decode cX11_makes 35 = .ok (.getfield 128, 3) := by decide +kernel
theorem dX11_makes_38 : decode cX11_makes 38 = .ok (.iload 4, 2) := by decide +kernel
theorem dX11_makes_40 : decode cX11_makes 40 = .ok (.iastore, 1) := by decide +kernel
theorem dX11_makes_41 : decode cX11_makes 41 = .ok (.aload_n 0, 1) := by decide +kernel
theorem dX11_makes_42 : decode cX11_makes 42 = .ok (.getfield 51, 3) := by decide +kernel
theorem dX11_makes_45 : decode cX11_makes 45 = .ok (.aload_n 0, 1) := by decide +kernel
theorem dX11_makes_46 : decode cX11_makes 46 = .ok (.getfield 128, 3) := by decide +kernel
theorem dX11_makes_49 : decode cX11_makes 49 = .ok (.iload 5, 2) := by decide +kernel
theorem dX11_makes_51 : decode cX11_makes 51 = .ok (.iastore, 1) := by decide +kernel
theorem dX11_makes_52 : decode cX11_makes 52 = .ok (.aload_n 0, 1) := by decide +kernel
theorem dX11_makes_53 : decode cX11_makes 53 = .ok (.dup, 1) := by decide +kernel
theorem dX11_makes_54 : decode cX11_makes 54 = .ok (.getfield 128, 3) := by decide +kernel
theorem dX11_makes_57 : decode cX11_makes 57 = .ok (.iconst 1, 1) := by decide +kernel
theorem dX11_makes_58 : decode cX11_makes 58 = .ok (.iadd, 1) := by decide +kernel
theorem dX11_makes_59 : decode cX11_makes 59 = .ok (.putfield 128, 3) := by decide +kernel
theorem dX11_makes_62 : decode cX11_makes 62 = .ok (.aload_n 0, 1) := by decide +kernel
theorem dX11_makes_63 : decode cX11_makes 63 = .ok (.getfield 128, 3) := by decide +kernel
theorem dX11_makes_66 : decode cX11_makes 66 = .ok (.iconst 1, 1) := by decide +kernel
theorem dX11_makes_67 : decode cX11_makes 67 = .ok (.isub, 1) := by decide +kernel
theorem dX11_makes_68 : decode cX11_makes 68 = .ok (.ireturn, 1) := by decide +kernel
theorem dX11_of_0 : decode cX11_of 0 = .ok (.aload_n 0, 1) := by decide +kernel
theorem dX11_of_1 : decode cX11_of 1 = .ok (.aload_n 0, 1) := by decide +kernel
theorem dX11_of_2 : decode cX11_of 2 = .ok (.iload_n 1, 1) := by decide +kernel
theorem dX11_of_3 : decode cX11_of 3 = .ok (.invokevirtual 106, 3) := by decide +kernel
theorem dX11_of_6 : decode cX11_of 6 = .ok (.ifCond .ne 7, 3) := by decide +kernel
theorem dX11_of_9 : decode cX11_of 9 = .ok (.iconst 1, 1) := by decide +kernel
theorem dX11_of_10 : decode cX11_of 10 = .ok (.goto 17, 3) := by decide +kernel
theorem dX11_of_13 : decode cX11_of 13 = .ok (.aload_n 0, 1) := by decide +kernel
theorem dX11_of_14 : decode cX11_of 14 = .ok (.getfield 128, 3) := by decide +kernel
theorem dX11_of_17 : decode cX11_of 17 = .ok (.bipush 10, 2) := by decide +kernel
theorem dX11_of_19 : decode cX11_of 19 = .ok (.if_icmp .ne 7, 3) := by decide +kernel
theorem dX11_of_22 : decode cX11_of 22 = .ok (.iconst 2, 1) := by decide +kernel
theorem dX11_of_23 : decode cX11_of 23 = .ok (.goto 4, 3) := by decide +kernel
theorem dX11_of_26 : decode cX11_of 26 = .ok (.iconst 0, 1) := by decide +kernel
theorem dX11_of_27 : decode cX11_of 27 = .ok (.putfield 87, 3) := by decide +kernel
theorem dX11_of_30 : decode cX11_of 30 = .ok (.aload_n 0, 1) := by decide +kernel
theorem dX11_of_31 : decode cX11_of 31 = .ok (.getfield 87, 3) := by decide +kernel
theorem dX11_of_34 : decode cX11_of 34 = .ok (.ifCond .le 7, 3) := by decide +kernel
theorem dX11_of_37 : decode cX11_of 37 = .ok (.iconst 0, 1) := by decide +kernel
theorem dX11_of_38 : decode cX11_of 38 = .ok (.goto 24, 3) := by decide +kernel
theorem dX11_of_41 : decode cX11_of 41 = .ok (.aload_n 0, 1) := by decide +kernel
theorem dX11_of_42 : decode cX11_of 42 = .ok (.iconst 0, 1) := by decide +kernel
theorem dX11_of_43 : decode cX11_of 43 = .ok (.iload_n 1, 1) := by decide +kernel
theorem dX11_of_44 : decode cX11_of 44 = .ok (.aload_n 0, 1) := by decide +kernel
theorem dX11_of_45 : decode cX11_of 45 = .ok (.getfield 14, 3) := by decide +kernel
theorem dX11_of_48 : decode cX11_of 48 = .ok (.iload_n 1, 1) := by decide +kernel
theorem dX11_of_49 : decode cX11_of 49 = .ok (.iaload, 1) := by decide +kernel
theorem dX11_of_50 : decode cX11_of 50 = .ok (.aload_n 0, 1) := by decide +kernel
theorem dX11_of_51 : decode cX11_of 51 = .ok (.getfield 17, 3) := by decide +kernel
theorem dX11_of_54 : decode cX11_of 54 = .ok (.iload_n 1, 1) := by decide +kernel
theorem dX11_of_55 : decode cX11_of 55 = .ok (.iaload, 1) := by decide +kernel
theorem dX11_of_56 : decode cX11_of 56 = .ok (.iconst 1, 1) := by decide +kernel
theorem dX11_of_57 : decode cX11_of 57 = .ok (.iload_n 1, 1) := by decide +kernel
theorem dX11_of_58 : decode cX11_of 58 = .ok (.ishl, 1) := by decide +kernel
theorem dX11_of_59 : decode cX11_of 59 = .ok (.invokevirtual 131, 3) := by decide +kernel
theorem dX11_of_62 : decode cX11_of 62 = .ok (.ireturn, 1) := by decide +kernel
theorem dX11_isOf_0 : decode cX11_isOf 0 = .ok (.iload_n 0, 1) := by decide +kernel
theorem dX11_isOf_1 : decode cX11_isOf 1 = .ok (.iconst 0, 1) := by decide +kernel
theorem dX11_isOf_2 : decode cX11_isOf 2 = .ok (.iconst 5, 1) := by decide +kernel
theorem dX11_isOf_3 : decode cX11_isOf 3 = .ok (.invokestatic 96, 3) := by decide +kernel
theorem dX11_isOf_6 : decode cX11_isOf 6 = .ok (.ifCond .eq 16, 3) := by decide +kernel
theorem dX11_isOf_9 : decode cX11_isOf 9 = .ok (.iload_n 1, 1) := by decide +kernel
theorem dX11_isOf_10 : decode cX11_isOf 10 = .ok (.iload_n 0, 1) := by decide +kernel
theorem dX11_isOf_11 : decode cX11_isOf 11 = .ok (.ishr, 1) := by decide +kernel
theorem dX11_isOf_12 : decode cX11_isOf 12 = .ok (.iconst 1, 1) := by decide +kernel
theorem dX11_isOf_13 : decode cX11_isOf 13 = .ok (.iand, 1) := by decide +kernel
theorem dX11_isOf_14 : decode cX11_isOf 14 = .ok (.iconst 1, 1) := by decide +kernel
theorem dX11_isOf_15 : decode cX11_isOf 15 = .ok (.if_icmp .ne 7, 3) := by decide +kernel
theorem dX11_isOf_18 : decode cX11_isOf 18 = .ok (.iconst 1, 1) := by decide +kernel
theorem dX11_isOf_19 : decode cX11_isOf 19 = .ok (.goto 4, 3) := by decide +kernel
theorem dX11_isOf_22 : decode cX11_isOf 22 = .ok (.iconst 0, 1) := by decide +kernel
theorem dX11_isOf_23 : decode cX11_isOf 23 = .ok (.ireturn, 1) := by decide +kernel
theorem dX11_select_0 : decode cX11_select 0 = .ok (.aload_n 0, 1) := by decide +kernel
theorem dX11_select_1 : decode cX11_select 1 = .ok (.aload_n 0, 1) := by decide +kernel
theorem dX11_select_2 : decode cX11_select 2 = .ok (.iload_n 1, 1) := by decide +kernel
theorem dX11_select_3 : decode cX11_select 3 = .ok (.invokevirtual 135, 3) := by decide +kernel
theorem dX11_select_6 : decode cX11_select 6 = .ok (.ifCond .ne 7, 3) := by decide +kernel
theorem dX11_select_9 : decode cX11_select 9 = .ok (.iconst 1, 1) := by decide +kernel
theorem dX11_select_10 : decode cX11_select 10 = .ok (.goto 44, 3) := by decide +kernel
theorem dX11_select_13 : decode cX11_select 13 = .ok (.iload_n 2, 1) := by decide +kernel
theorem dX11_select_14 : decode cX11_select 14 = .ok (.aload_n 0, 1) := by decide +kernel
theorem dX11_select_15 : decode cX11_select 15 = .ok (.getfield 45, 3) := by decide +kernel
theorem dX11_select_18 : decode cX11_select 18 = .ok (.iload_n 1, 1) := by decide +kernel
theorem dX11_select_19 : decode cX11_select 19 = .ok (.iaload, 1) := by decide +kernel
theorem dX11_select_20 : decode cX11_select 20 = .ok (.invokestatic 138, 3) := by decide +kernel
theorem dX11_select_23 : decode cX11_select 23 = .ok (.ifCond .eq 13, 3) := by decide +kernel
theorem dX11_select_26 : decode cX11_select 26 = .ok (.iload_n 3, 1) := by decide +kernel
theorem dX11_select_27 : decode cX11_select 27 = .ok (.iconst 0, 1) := by decide +kernel
theorem dX11_select_28 : decode cX11_select 28 = .ok (.bipush 9, 2) := by decide +kernel
theorem dX11_select_30 : decode cX11_select 30 = .ok (.invokestatic 96, 3) := by decide +kernel
theorem dX11_select_33 : decode cX11_select 33 = .ok (.ifCond .ne 7, 3) := by decide +kernel
theorem dX11_select_36 : decode cX11_select 36 = .ok (.iconst 2, 1) := by decide +kernel
theorem dX11_select_37 : decode cX11_select 37 = .ok (.goto 17, 3) := by decide +kernel
theorem dX11_select_40 : decode cX11_select 40 = .ok (.aload_n 0, 1) := by decide +kernel
theorem dX11_select_41 : decode cX11_select 41 = .ok (.getfield 128, 3) := by decide +kernel
theorem dX11_select_44 : decode cX11_select 44 = .ok (.bipush 10, 2) := by decide +kernel
theorem dX11_select_46 : decode cX11_select 46 = .ok (.if_icmp .ne 7, 3) := by decide +kernel
theorem dX11_select_49 : decode cX11_select 49 = .ok (.iconst 3, 1) := by decide +kernel
theorem dX11_select_50 : decode cX11_select 50 = .ok (.goto 4, 3) := by decide +kernel
theorem dX11_select_53 : decode cX11_select 53 = .ok (.iconst 0, 1) := by decide +kernel
theorem dX11_select_54 : decode cX11_select 54 = .ok (.putfield 87, 3) := by decide +kernel
theorem dX11_select_57 : decode cX11_select 57 = .ok (.aload_n 0, 1) := by decide +kernel
theorem dX11_select_58 : decode cX11_select 58 = .ok (.getfield 87, 3) := by decide +kernel
theorem dX11_select_61 : decode cX11_select 61 = .ok (.ifCond .le 5, 3) := by decide +kernel
theorem dX11_select_64 : decode cX11_select 64 = .ok (.iconst 0, 1) := by decide +kernel
theorem dX11_select_65 : decode cX11_select 65 = .ok (.ireturn, 1) := by decide +kernel
theorem dX11_select_66 : decode cX11_select 66 = .ok (.aload_n 0, 1) := by decide +kernel
theorem dX11_select_67 : decode cX11_select 67 = .ok (.getfield 35, 3) := by decide +kernel
theorem dX11_select_70 : decode cX11_select 70 = .ok (.aload_n 0, 1) := by decide +kernel
theorem dX11_select_71 : decode cX11_select 71 = .ok (.getfield 128, 3) := by decide +kernel
theorem dX11_select_74 : decode cX11_select 74 = .ok (.iload_n 2, 1) := by decide +kernel
theorem dX11_select_75 : decode cX11_select 75 = .ok (.iastore, 1) := by decide +kernel
theorem dX11_select_76 : decode cX11_select 76 = .ok (.aload_n 0, 1) := by decide +kernel
theorem dX11_select_77 : decode cX11_select 77 = .ok (.getfield 38, 3) := by decide +kernel
theorem dX11_select_80 : decode cX11_select 80 = .ok (.aload_n 0, 1) := by decide +kernel
theorem dX11_select_81 : decode cX11_select 81 = .ok (.getfield 128, 3) := by decide +kernel
theorem dX11_select_84 : decode cX11_select 84 = .ok (.iload_n 3, 1) := by decide +kernel
theorem dX11_select_85 : decode cX11_select 85 = .ok (.iastore, 1) := by decide +kernel
theorem dX11_select_86 : decode cX11_select 86 = .ok (.aload_n 0, 1) := by decide +kernel
theorem dX11_select_87 : decode cX11_select 87 = .ok (.getfield 41, 3) := by decide +kernel
theorem dX11_select_90 : decode cX11_select 90 = .ok (.aload_n 0, 1) := by decide +kernel
theorem dX11_select_91 : decode cX11_select 91 = .ok (.getfield 128, 3) := by decide +kernel
theorem dX11_select_94 : decode cX11_select 94 = .ok (.iload 4, 2) := by decide +kernel
theorem dX11_select_96 : decode cX11_select 96 = .ok (.bastore, 1) := by decide +kernel
theorem dX11_select_97 : decode cX11_select 97 = .ok (.aload_n 0, 1) := by decide +kernel
theorem dX11_select_98 : decode cX11_select 98 = .ok (.iconst 1, 1) := by decide +kernel
theorem dX11_select_99 : decode cX11_select 99 = .ok (.iload_n 1, 1) := by decide +kernel
theorem dX11_select_100 : decode cX11_select 100 = .ok (.aload_n 0, 1) := by decide +kernel
theorem dX11_select_101 : decode cX11_select 101 = .ok (.getfield 45, 3) := by decide +kernel
theorem dX11_select_104 : decode cX11_select 104 = .ok (.iload_n 1, 1) := by decide +kernel
theorem dX11_select_105 : decode cX11_select 105 = .ok (.iaload, 1) := by decide +kernel
theorem dX11_select_106 : decode cX11_select 106 = .ok (.aload_n 0, 1) := by decide +kernel
theorem dX11_select_107 : decode cX11_select 107 = .ok (.getfield 48, 3) := by decide +kernel
theorem dX11_select_110 : decode cX11_select 110 = .ok (.iload_n 1, 1) := by decide +kernel
theorem dX11_select_111 : decode cX11_select 111 = .ok (.iaload, 1) := by decide +kernel
theorem dX11_select_112 : decode cX11_select 112 = .ok (.aload_n 0, 1) := by decide +kernel
theorem dX11_select_113 : decode cX11_select 113 = .ok (.getfield 51, 3) := by decide +kernel
theorem dX11_select_116 : decode cX11_select 116 = .ok (.iload_n 1, 1) := by decide +kernel
theorem dX11_select_117 : decode cX11_select 117 = .ok (.iaload, 1) := by decide +kernel
theorem dX11_select_118 : decode cX11_select 118 = .ok (.invokevirtual 131, 3) := by decide +kernel
theorem dX11_select_121 : decode cX11_select 121 = .ok (.ireturn, 1) := by decide +kernel
theorem dX11_drop_0 : decode cX11_drop 0 = .ok (.aload_n 0, 1) := by decide +kernel
theorem dX11_drop_1 : decode cX11_drop 1 = .ok (.aload_n 0, 1) := by decide +kernel
theorem dX11_drop_2 : decode cX11_drop 2 = .ok (.iload_n 1, 1) := by decide +kernel
theorem dX11_drop_3 : decode cX11_drop 3 = .ok (.invokevirtual 135, 3) := by decide +kernel
theorem dX11_drop_6 : decode cX11_drop 6 = .ok (.ifCond .ne 7, 3) := by decide +kernel
theorem dX11_drop_9 : decode cX11_drop 9 = .ok (.iconst 1, 1) := by decide +kernel
theorem dX11_drop_10 : decode cX11_drop 10 = .ok (.goto 53, 3) := by decide +kernel
theorem dX11_drop_13 : decode cX11_drop 13 = .ok (.iload_n 2, 1) := by decide +kernel
theorem dX11_drop_14 : decode cX11_drop 14 = .ok (.aload_n 0, 1) := by decide +kernel
theorem dX11_drop_15 : decode cX11_drop 15 = .ok (.getfield 45, 3) := by decide +kernel
theorem dX11_drop_18 : decode cX11_drop 18 = .ok (.iload_n 1, 1) := by decide +kernel
theorem dX11_drop_19 : decode cX11_drop 19 = .ok (.iaload, 1) := by decide +kernel
theorem dX11_drop_20 : decode cX11_drop 20 = .ok (.aload_n 0, 1) := by decide +kernel
theorem dX11_drop_21 : decode cX11_drop 21 = .ok (.getfield 48, 3) := by decide +kernel
theorem dX11_drop_24 : decode cX11_drop 24 = .ok (.iload_n 1, 1) := by decide +kernel
theorem dX11_drop_25 : decode cX11_drop 25 = .ok (.iaload, 1) := by decide +kernel
theorem dX11_drop_26 : decode cX11_drop 26 = .ok (.iconst (-1), 1) := by decide +kernel
theorem dX11_drop_27 : decode cX11_drop 27 = .ok (.ixor, 1) := by decide +kernel
theorem dX11_drop_28 : decode cX11_drop 28 = .ok (.iand, 1) := by decide +kernel
theorem dX11_drop_29 : decode cX11_drop 29 = .ok (.invokestatic 138, 3) := by decide +kernel
theorem dX11_drop_32 : decode cX11_drop 32 = .ok (.ifCond .eq 13, 3) := by decide +kernel
theorem dX11_drop_35 : decode cX11_drop 35 = .ok (.iload_n 3, 1) := by decide +kernel
theorem dX11_drop_36 : decode cX11_drop 36 = .ok (.iconst 0, 1) := by decide +kernel
theorem dX11_drop_37 : decode cX11_drop 37 = .ok (.bipush 9, 2) := by decide +kernel
theorem dX11_drop_39 : decode cX11_drop 39 = .ok (.invokestatic 96, 3) := by decide +kernel
theorem dX11_drop_42 : decode cX11_drop 42 = .ok (.ifCond .ne 7, 3) := by decide +kernel
theorem dX11_drop_45 : decode cX11_drop 45 = .ok (.iconst 2, 1) := by decide +kernel
theorem dX11_drop_46 : decode cX11_drop 46 = .ok (.goto 17, 3) := by decide +kernel
theorem dX11_drop_49 : decode cX11_drop 49 = .ok (.aload_n 0, 1) := by decide +kernel
theorem dX11_drop_50 : decode cX11_drop 50 = .ok (.getfield 128, 3) := by decide +kernel
theorem dX11_drop_53 : decode cX11_drop 53 = .ok (.bipush 10, 2) := by decide +kernel
theorem dX11_drop_55 : decode cX11_drop 55 = .ok (.if_icmp .ne 7, 3) := by decide +kernel
theorem dX11_drop_58 : decode cX11_drop 58 = .ok (.iconst 3, 1) := by decide +kernel
theorem dX11_drop_59 : decode cX11_drop 59 = .ok (.goto 4, 3) := by decide +kernel
theorem dX11_drop_62 : decode cX11_drop 62 = .ok (.iconst 0, 1) := by decide +kernel
theorem dX11_drop_63 : decode cX11_drop 63 = .ok (.putfield 87, 3) := by decide +kernel
theorem dX11_drop_66 : decode cX11_drop 66 = .ok (.aload_n 0, 1) := by decide +kernel
theorem dX11_drop_67 : decode cX11_drop 67 = .ok (.getfield 87, 3) := by decide +kernel
theorem dX11_drop_70 : decode cX11_drop 70 = .ok (.ifCond .le 5, 3) := by decide +kernel
theorem dX11_drop_73 : decode cX11_drop 73 = .ok (.iconst 0, 1) := by decide +kernel
theorem dX11_drop_74 : decode cX11_drop 74 = .ok (.ireturn, 1) := by decide +kernel
theorem dX11_drop_75 : decode cX11_drop 75 = .ok (.aload_n 0, 1) := by decide +kernel
theorem dX11_drop_76 : decode cX11_drop 76 = .ok (.getfield 35, 3) := by decide +kernel
theorem dX11_drop_79 : decode cX11_drop 79 = .ok (.aload_n 0, 1) := by decide +kernel
theorem dX11_drop_80 : decode cX11_drop 80 = .ok (.getfield 128, 3) := by decide +kernel
theorem dX11_drop_83 : decode cX11_drop 83 = .ok (.iload_n 2, 1) := by decide +kernel
theorem dX11_drop_84 : decode cX11_drop 84 = .ok (.iastore, 1) := by decide +kernel
theorem dX11_drop_85 : decode cX11_drop 85 = .ok (.aload_n 0, 1) := by decide +kernel
theorem dX11_drop_86 : decode cX11_drop 86 = .ok (.getfield 38, 3) := by decide +kernel
theorem dX11_drop_89 : decode cX11_drop 89 = .ok (.aload_n 0, 1) := by decide +kernel
theorem dX11_drop_90 : decode cX11_drop 90 = .ok (.getfield 128, 3) := by decide +kernel
theorem dX11_drop_93 : decode cX11_drop 93 = .ok (.iload_n 3, 1) := by decide +kernel
theorem dX11_drop_94 : decode cX11_drop 94 = .ok (.iastore, 1) := by decide +kernel
theorem dX11_drop_95 : decode cX11_drop 95 = .ok (.aload_n 0, 1) := by decide +kernel
theorem dX11_drop_96 : decode cX11_drop 96 = .ok (.iconst 2, 1) := by decide +kernel
theorem dX11_drop_97 : decode cX11_drop 97 = .ok (.iload_n 1, 1) := by decide +kernel
theorem dX11_drop_98 : decode cX11_drop 98 = .ok (.aload_n 0, 1) := by decide +kernel
theorem dX11_drop_99 : decode cX11_drop 99 = .ok (.getfield 45, 3) := by decide +kernel
theorem dX11_drop_102 : decode cX11_drop 102 = .ok (.iload_n 1, 1) := by decide +kernel
theorem dX11_drop_103 : decode cX11_drop 103 = .ok (.iaload, 1) := by decide +kernel
theorem dX11_drop_104 : decode cX11_drop 104 = .ok (.iconst 1, 1) := by decide +kernel
theorem dX11_drop_105 : decode cX11_drop 105 = .ok (.iload_n 2, 1) := by decide +kernel
theorem dX11_drop_106 : decode cX11_drop 106 = .ok (.ishl, 1) := by decide +kernel
theorem dX11_drop_107 : decode cX11_drop 107 = .ok (.iconst (-1), 1) := by decide +kernel
theorem dX11_drop_108 : decode cX11_drop 108 = .ok (.ixor, 1) := by decide +kernel
theorem dX11_drop_109 : decode cX11_drop 109 = .ok (.iand, 1) := by decide +kernel
theorem dX11_drop_110 : decode cX11_drop 110 = .ok (.aload_n 0, 1) := by decide +kernel
theorem dX11_drop_111 : decode cX11_drop 111 = .ok (.getfield 48, 3) := by decide +kernel
theorem dX11_drop_114 : decode cX11_drop 114 = .ok (.iload_n 1, 1) := by decide +kernel
theorem dX11_drop_115 : decode cX11_drop 115 = .ok (.iaload, 1) := by decide +kernel
theorem dX11_drop_116 : decode cX11_drop 116 = .ok (.aload_n 0, 1) := by decide +kernel
theorem dX11_drop_117 : decode cX11_drop 117 = .ok (.getfield 51, 3) := by decide +kernel
theorem dX11_drop_120 : decode cX11_drop 120 = .ok (.iload_n 1, 1) := by decide +kernel
theorem dX11_drop_121 : decode cX11_drop 121 = .ok (.iaload, 1) := by decide +kernel
theorem dX11_drop_122 : decode cX11_drop 122 = .ok (.invokevirtual 131, 3) := by decide +kernel
theorem dX11_drop_125 : decode cX11_drop 125 = .ok (.ireturn, 1) := by decide +kernel
theorem dX11_join_0 : decode cX11_join 0 = .ok (.aload_n 0, 1) := by decide +kernel
theorem dX11_join_1 : decode cX11_join 1 = .ok (.aload_n 0, 1) := by decide +kernel
theorem dX11_join_2 : decode cX11_join 2 = .ok (.iload_n 1, 1) := by decide +kernel
theorem dX11_join_3 : decode cX11_join 3 = .ok (.invokevirtual 135, 3) := by decide +kernel
theorem dX11_join_6 : decode cX11_join 6 = .ok (.ifCond .eq 15, 3) := by decide +kernel
theorem dX11_join_9 : decode cX11_join 9 = .ok (.aload_n 0, 1) := by decide +kernel
theorem dX11_join_10 : decode cX11_join 10 = .ok (.iload_n 2, 1) := by decide +kernel
theorem dX11_join_11 : decode cX11_join 11 = .ok (.invokevirtual 135, 3) := by decide +kernel
theorem dX11_join_14 : decode cX11_join 14 = .ok (.ifCond .eq 7, 3) := by decide +kernel
theorem dX11_join_17 : decode cX11_join 17 = .ok (.iconst 0, 1) := by decide +kernel
theorem dX11_join_18 : decode cX11_join 18 = .ok (.goto 4, 3) := by decide +kernel
theorem dX11_join_21 : decode cX11_join 21 = .ok (.iconst 1, 1) := by decide +kernel
theorem dX11_join_22 : decode cX11_join 22 = .ok (.putfield 87, 3) := by decide +kernel
theorem dX11_join_25 : decode cX11_join 25 = .ok (.aload_n 0, 1) := by decide +kernel
theorem dX11_join_26 : decode cX11_join 26 = .ok (.getfield 87, 3) := by decide +kernel
theorem dX11_join_29 : decode cX11_join 29 = .ok (.ifCond .ne 69, 3) := by decide +kernel
theorem dX11_join_32 : decode cX11_join 32 = .ok (.aload_n 0, 1) := by decide +kernel
theorem dX11_join_33 : decode cX11_join 33 = .ok (.getfield 51, 3) := by decide +kernel
theorem dX11_join_36 : decode cX11_join 36 = .ok (.iload_n 1, 1) := by decide +kernel
theorem dX11_join_37 : decode cX11_join 37 = .ok (.iaload, 1) := by decide +kernel
theorem dX11_join_38 : decode cX11_join 38 = .ok (.aload_n 0, 1) := by decide +kernel
theorem dX11_join_39 : decode cX11_join 39 = .ok (.getfield 51, 3) := by decide +kernel
theorem dX11_join_42 : decode cX11_join 42 = .ok (.iload_n 2, 1) := by decide +kernel
theorem dX11_join_43 : decode cX11_join 43 = .ok (.iaload, 1) := by decide +kernel
theorem dX11_join_44 : decode cX11_join 44 = .ok (.iand, 1) := by decide +kernel
theorem dX11_join_45 : decode cX11_join 45 = .ok (.ifCond .ne 25, 3) := by decide +kernel
theorem dX11_join_48 : decode cX11_join 48 = .ok (.aload_n 0, 1) := by decide +kernel
theorem dX11_join_49 : decode cX11_join 49 = .ok (.getfield 48, 3) := by decide +kernel
theorem dX11_join_52 : decode cX11_join 52 = .ok (.iload_n 2, 1) := by decide +kernel
theorem dX11_join_53 : decode cX11_join 53 = .ok (.iaload, 1) := by decide +kernel
theorem dX11_join_54 : decode cX11_join 54 = .ok (.aload_n 0, 1) := by decide +kernel
theorem dX11_join_55 : decode cX11_join 55 = .ok (.getfield 45, 3) := by decide +kernel
theorem dX11_join_58 : decode cX11_join 58 = .ok (.iload_n 1, 1) := by decide +kernel
theorem dX11_join_59 : decode cX11_join 59 = .ok (.iaload, 1) := by decide +kernel
theorem dX11_join_60 : decode cX11_join 60 = .ok (.iconst (-1), 1) := by decide +kernel
theorem dX11_join_61 : decode cX11_join 61 = .ok (.ixor, 1) := by decide +kernel
theorem dX11_join_62 : decode cX11_join 62 = .ok (.iand, 1) := by decide +kernel
theorem dX11_join_63 : decode cX11_join 63 = .ok (.ifCond .ne 7, 3) := by decide +kernel
theorem dX11_join_66 : decode cX11_join 66 = .ok (.iconst 1, 1) := by decide +kernel
theorem dX11_join_67 : decode cX11_join 67 = .ok (.goto 4, 3) := by decide +kernel
theorem dX11_join_70 : decode cX11_join 70 = .ok (.iconst 0, 1) := by decide +kernel
theorem dX11_join_71 : decode cX11_join 71 = .ok (.istore_n 3, 1) := by decide +kernel
theorem dX11_join_72 : decode cX11_join 72 = .ok (.aload_n 0, 1) := by decide +kernel
theorem dX11_join_73 : decode cX11_join 73 = .ok (.iload_n 3, 1) := by decide +kernel
theorem dX11_join_74 : decode cX11_join 74 = .ok (.ifCond .ne 7, 3) := by decide +kernel
theorem dX11_join_77 : decode cX11_join 77 = .ok (.iconst 2, 1) := by decide +kernel
theorem dX11_join_78 : decode cX11_join 78 = .ok (.goto 17, 3) := by decide +kernel
theorem dX11_join_81 : decode cX11_join 81 = .ok (.aload_n 0, 1) := by decide +kernel
theorem dX11_join_82 : decode cX11_join 82 = .ok (.getfield 128, 3) := by decide +kernel
theorem dX11_join_85 : decode cX11_join 85 = .ok (.bipush 10, 2) := by decide +kernel
theorem dX11_join_87 : decode cX11_join 87 = .ok (.if_icmp .ne 7, 3) := by decide +kernel
theorem dX11_join_90 : decode cX11_join 90 = .ok (.iconst 3, 1) := by decide +kernel
theorem dX11_join_91 : decode cX11_join 91 = .ok (.goto 4, 3) := by decide +kernel
theorem dX11_join_94 : decode cX11_join 94 = .ok (.iconst 0, 1) := by decide +kernel
theorem dX11_join_95 : decode cX11_join 95 = .ok (.putfield 87, 3) := by decide +kernel
theorem dX11_join_98 : decode cX11_join 98 = .ok (.aload_n 0, 1) := by decide +kernel
theorem dX11_join_99 : decode cX11_join 99 = .ok (.getfield 87, 3) := by decide +kernel
theorem dX11_join_102 : decode cX11_join 102 = .ok (.ifCond .le 5, 3) := by decide +kernel
theorem dX11_join_105 : decode cX11_join 105 = .ok (.iconst 0, 1) := by decide +kernel
theorem dX11_join_106 : decode cX11_join 106 = .ok (.ireturn, 1) := by decide +kernel
theorem dX11_join_107 : decode cX11_join 107 = .ok (.aload_n 0, 1) := by decide +kernel
theorem dX11_join_108 : decode cX11_join 108 = .ok (.getfield 32, 3) := by decide +kernel
theorem dX11_join_111 : decode cX11_join 111 = .ok (.aload_n 0, 1) := by decide +kernel
theorem dX11_join_112 : decode cX11_join 112 = .ok (.getfield 128, 3) := by decide +kernel
theorem dX11_join_115 : decode cX11_join 115 = .ok (.iload_n 2, 1) := by decide +kernel
theorem dX11_join_116 : decode cX11_join 116 = .ok (.iastore, 1) := by decide +kernel
theorem dX11_join_117 : decode cX11_join 117 = .ok (.aload_n 0, 1) := by decide +kernel
theorem dX11_join_118 : decode cX11_join 118 = .ok (.iconst 3, 1) := by decide +kernel
theorem dX11_join_119 : decode cX11_join 119 = .ok (.iload_n 1, 1) := by decide +kernel
theorem dX11_join_120 : decode cX11_join 120 = .ok (.aload_n 0, 1) := by decide +kernel
theorem dX11_join_121 : decode cX11_join 121 = .ok (.getfield 45, 3) := by decide +kernel
theorem dX11_join_124 : decode cX11_join 124 = .ok (.iload_n 1, 1) := by decide +kernel
theorem dX11_join_125 : decode cX11_join 125 = .ok (.iaload, 1) := by decide +kernel
theorem dX11_join_126 : decode cX11_join 126 = .ok (.aload_n 0, 1) := by decide +kernel
theorem dX11_join_127 : decode cX11_join 127 = .ok (.getfield 45, 3) := by decide +kernel
theorem dX11_join_130 : decode cX11_join 130 = .ok (.iload_n 2, 1) := by decide +kernel
theorem dX11_join_131 : decode cX11_join 131 = .ok (.iaload, 1) := by decide +kernel
theorem dX11_join_132 : decode cX11_join 132 = .ok (.ior, 1) := by decide +kernel
theorem dX11_join_133 : decode cX11_join 133 = .ok (.aload_n 0, 1) := by decide +kernel
theorem dX11_join_134 : decode cX11_join 134 = .ok (.getfield 48, 3) := by decide +kernel
theorem dX11_join_137 : decode cX11_join 137 = .ok (.iload_n 1, 1) := by decide +kernel
theorem dX11_join_138 : decode cX11_join 138 = .ok (.iaload, 1) := by decide +kernel
theorem dX11_join_139 : decode cX11_join 139 = .ok (.aload_n 0, 1) := by decide +kernel
theorem dX11_join_140 : decode cX11_join 140 = .ok (.getfield 51, 3) := by decide +kernel
theorem dX11_join_143 : decode cX11_join 143 = .ok (.iload_n 1, 1) := by decide +kernel
theorem dX11_join_144 : decode cX11_join 144 = .ok (.iaload, 1) := by decide +kernel
theorem dX11_join_145 : decode cX11_join 145 = .ok (.aload_n 0, 1) := by decide +kernel
theorem dX11_join_146 : decode cX11_join 146 = .ok (.getfield 51, 3) := by decide +kernel
theorem dX11_join_149 : decode cX11_join 149 = .ok (.iload_n 2, 1) := by decide +kernel
theorem dX11_join_150 : decode cX11_join 150 = .ok (.iaload, 1) := by decide +kernel
theorem dX11_join_151 : decode cX11_join 151 = .ok (.ior, 1) := by decide +kernel
theorem dX11_join_152 : decode cX11_join 152 = .ok (.invokevirtual 131, 3) := by decide +kernel
theorem dX11_join_155 : decode cX11_join 155 = .ok (.ireturn, 1) := by decide +kernel
theorem dX11_isSelected_0 : decode cX11_isSelected 0 = .ok (.aload_n 0, 1) := by decide +kernel
theorem dX11_isSelected_1 : decode cX11_isSelected 1 = .ok (.iload_n 2, 1) := by decide +kernel
theorem dX11_isSelected_2 : decode cX11_isSelected 2 = .ok (.aload_n 0, 1) := by decide +kernel
theorem dX11_isSelected_3 : decode cX11_isSelected 3 = .ok (.getfield 35, 3) := by decide +kernel
theorem dX11_isSelected_6 : decode cX11_isSelected 6 = .ok (.iload_n 1, 1) := by decide +kernel
theorem dX11_isSelected_7 : decode cX11_isSelected 7 = .ok (.iaload, 1) := by decide +kernel
theorem dX11_isSelected_8 : decode cX11_isSelected 8 = .ok (.invokevirtual 91, 3) := by decide +kernel
theorem dX11_isSelected_11 : decode cX11_isSelected 11 = .ok (.aload_n 0, 1) := by decide +kernel
theorem dX11_isSelected_12 : decode cX11_isSelected 12 = .ok (.getfield 38, 3) := by decide +kernel
theorem dX11_isSelected_15 : decode cX11_isSelected 15 = .ok (.iload_n 1, 1) := by decide +kernel
theorem dX11_isSelected_16 : decode cX11_isSelected 16 = .ok (.iaload, 1) := by decide +kernel
theorem dX11_isSelected_17 : decode cX11_isSelected 17 = .ok (.if_icmp .ne 7, 3) := by decide +kernel
theorem dX11_isSelected_20 : decode cX11_isSelected 20 = .ok (.iconst 1, 1) := by decide +kernel
theorem dX11_isSelected_21 : decode cX11_isSelected 21 = .ok (.goto 4, 3) := by decide +kernel
theorem dX11_isSelected_24 : decode cX11_isSelected 24 = .ok (.iconst 0, 1) := by decide +kernel
theorem dX11_isSelected_25 : decode cX11_isSelected 25 = .ok (.aload_n 0, 1) := by decide +kernel
theorem dX11_isSelected_26 : decode cX11_isSelected 26 = .ok (.getfield 41, 3) := by decide +kernel
theorem dX11_isSelected_29 : decode cX11_isSelected 29 = .ok (.iload_n 1, 1) := by decide +kernel
theorem dX11_isSelected_30 : decode cX11_isSelected 30 = .ok (.baload, 1) := by decide +kernel
theorem dX11_isSelected_31 : decode cX11_isSelected 31 = .ok (.if_icmp .ne 7, 3) := by decide +kernel
theorem dX11_isSelected_34 : decode cX11_isSelected 34 = .ok (.iconst 1, 1) := by decide +kernel
theorem dX11_isSelected_35 : decode cX11_isSelected 35 = .ok (.goto 4, 3) := by decide +kernel
theorem dX11_isSelected_38 : decode cX11_isSelected 38 = .ok (.iconst 0, 1) := by decide +kernel
theorem dX11_isSelected_39 : decode cX11_isSelected 39 = .ok (.ireturn, 1) := by decide +kernel
theorem dX11_both_0 : decode cX11_both 0 = .ok (.aload_n 0, 1) := by decide +kernel
theorem dX11_both_1 : decode cX11_both 1 = .ok (.getfield 45, 3) := by decide +kernel
theorem dX11_both_4 : decode cX11_both 4 = .ok (.aload_n 0, 1) := by decide +kernel
theorem dX11_both_5 : decode cX11_both 5 = .ok (.getfield 29, 3) := by decide +kernel
theorem dX11_both_8 : decode cX11_both 8 = .ok (.iload_n 1, 1) := by decide +kernel
theorem dX11_both_9 : decode cX11_both 9 = .ok (.iaload, 1) := by decide +kernel
theorem dX11_both_10 : decode cX11_both 10 = .ok (.iaload, 1) := by decide +kernel
theorem dX11_both_11 : decode cX11_both 11 = .ok (.aload_n 0, 1) := by decide +kernel
theorem dX11_both_12 : decode cX11_both 12 = .ok (.getfield 45, 3) := by decide +kernel
theorem dX11_both_15 : decode cX11_both 15 = .ok (.aload_n 0, 1) := by decide +kernel
theorem dX11_both_16 : decode cX11_both 16 = .ok (.getfield 32, 3) := by decide +kernel
theorem dX11_both_19 : decode cX11_both 19 = .ok (.iload_n 1, 1) := by decide +kernel
theorem dX11_both_20 : decode cX11_both 20 = .ok (.iaload, 1) := by decide +kernel
theorem dX11_both_21 : decode cX11_both 21 = .ok (.iaload, 1) := by decide +kernel
theorem dX11_both_22 : decode cX11_both 22 = .ok (.iand, 1) := by decide +kernel
theorem dX11_both_23 : decode cX11_both 23 = .ok (.ireturn, 1) := by decide +kernel
theorem dX11_joins_0 : decode cX11_joins 0 = .ok (.aload_n 0, 1) := by decide +kernel
theorem dX11_joins_1 : decode cX11_joins 1 = .ok (.getfield 32, 3) := by decide +kernel
theorem dX11_joins_4 : decode cX11_joins 4 = .ok (.iload_n 1, 1) := by decide +kernel
theorem dX11_joins_5 : decode cX11_joins 5 = .ok (.iaload, 1) := by decide +kernel
theorem dX11_joins_6 : decode cX11_joins 6 = .ok (.istore_n 3, 1) := by decide +kernel
theorem dX11_joins_7 : decode cX11_joins 7 = .ok (.iconst 0, 1) := by decide +kernel
theorem dX11_joins_8 : decode cX11_joins 8 = .ok (.istore 4, 2) := by decide +kernel
theorem dX11_joins_10 : decode cX11_joins 10 = .ok (.iload 4, 2) := by decide +kernel
theorem dX11_joins_12 : decode cX11_joins 12 = .ok (.aload_n 0, 1) := by decide +kernel
theorem dX11_joins_13 : decode cX11_joins 13 = .ok (.getfield 54, 3) := by decide +kernel
theorem dX11_joins_16 : decode cX11_joins 16 = .ok (.iload_n 3, 1) := by decide +kernel
theorem dX11_joins_17 : decode cX11_joins 17 = .ok (.iaload, 1) := by decide +kernel
theorem dX11_joins_18 : decode cX11_joins 18 = .ok (.if_icmp .ge 98, 3) := by decide +kernel
theorem dX11_joins_21 : decode cX11_joins 21 = .ok (.aload_n 0, 1) := by decide +kernel
theorem dX11_joins_22 : decode cX11_joins 22 = .ok (.getfield 57, 3) := by decide +kernel
theorem dX11_joins_25 : decode cX11_joins 25 = .ok (.bipush 40, 2) := by decide +kernel
theorem dX11_joins_27 : decode cX11_joins 27 = .ok (.iload_n 3, 1) := by decide +kernel
theorem dX11_joins_28 : decode cX11_joins 28 = .ok (.imul, 1) := by decide +kernel
theorem dX11_joins_29 : decode cX11_joins 29 = .ok (.iload 4, 2) := by decide +kernel
theorem dX11_joins_31 : decode cX11_joins 31 = .ok (.iadd, 1) := by decide +kernel
theorem dX11_joins_32 : decode cX11_joins 32 = .ok (.iaload, 1) := by decide +kernel
theorem dX11_joins_33 : decode cX11_joins 33 = .ok (.istore 5, 2) := by decide +kernel
theorem dX11_joins_35 : decode cX11_joins 35 = .ok (.aload_n 0, 1) := by decide +kernel
theorem dX11_joins_36 : decode cX11_joins 36 = .ok (.iload_n 2, 1) := by decide +kernel
theorem dX11_joins_37 : decode cX11_joins 37 = .ok (.aload_n 0, 1) := by decide +kernel
theorem dX11_joins_38 : decode cX11_joins 38 = .ok (.iload_n 1, 1) := by decide +kernel
theorem dX11_joins_39 : decode cX11_joins 39 = .ok (.invokevirtual 141, 3) := by decide +kernel
theorem dX11_joins_42 : decode cX11_joins 42 = .ok (.invokevirtual 100, 3) := by decide +kernel
theorem dX11_joins_45 : decode cX11_joins 45 = .ok (.aload_n 0, 1) := by decide +kernel
theorem dX11_joins_46 : decode cX11_joins 46 = .ok (.iload 5, 2) := by decide +kernel
theorem dX11_joins_48 : decode cX11_joins 48 = .ok (.aload_n 0, 1) := by decide +kernel
theorem dX11_joins_49 : decode cX11_joins 49 = .ok (.iload_n 1, 1) := by decide +kernel
theorem dX11_joins_50 : decode cX11_joins 50 = .ok (.invokevirtual 141, 3) := by decide +kernel
theorem dX11_joins_53 : decode cX11_joins 53 = .ok (.invokevirtual 100, 3) := by decide +kernel
theorem dX11_joins_56 : decode cX11_joins 56 = .ok (.if_icmp .ne 54, 3) := by decide +kernel
theorem dX11_joins_59 : decode cX11_joins 59 = .ok (.aload_n 0, 1) := by decide +kernel
theorem dX11_joins_60 : decode cX11_joins 60 = .ok (.getfield 54, 3) := by decide +kernel
theorem dX11_joins_63 : decode cX11_joins 63 = .ok (.iload_n 1, 1) := by decide +kernel
theorem dX11_joins_64 : decode cX11_joins 64 = .ok (.aload_n 0, 1) := by decide +kernel
theorem dX11_joins_65 : decode cX11_joins 65 = .ok (.getfield 57, 3) := by decide +kernel
theorem dX11_joins_68 : decode cX11_joins 68 = .ok (.bipush 40, 2) := by decide +kernel
theorem dX11_joins_70 : decode cX11_joins 70 = .ok (.iload_n 1, 1) := by decide +kernel
theorem dX11_joins_71 : decode cX11_joins 71 = .ok (.imul, 1) := by decide +kernel
theorem dX11_joins_72 : decode cX11_joins 72 = .ok (.aload_n 0, 1) := by decide +kernel
theorem dX11_joins_73 : decode cX11_joins 73 = .ok (.getfield 54, 3) := by decide +kernel
theorem dX11_joins_76 : decode cX11_joins 76 = .ok (.iload_n 1, 1) := by decide +kernel
theorem dX11_joins_77 : decode cX11_joins 77 = .ok (.iaload, 1) := by decide +kernel
theorem dX11_joins_78 : decode cX11_joins 78 = .ok (.iload_n 2, 1) := by decide +kernel
theorem dX11_joins_79 : decode cX11_joins 79 = .ok (.aload_n 0, 1) := by decide +kernel
theorem dX11_joins_80 : decode cX11_joins 80 = .ok (.iload 5, 2) := by decide +kernel
theorem dX11_joins_82 : decode cX11_joins 82 = .ok (.aload_n 0, 1) := by decide +kernel
theorem dX11_joins_83 : decode cX11_joins 83 = .ok (.getfield 45, 3) := by decide +kernel
theorem dX11_joins_86 : decode cX11_joins 86 = .ok (.iload_n 3, 1) := by decide +kernel
theorem dX11_joins_87 : decode cX11_joins 87 = .ok (.iaload, 1) := by decide +kernel
theorem dX11_joins_88 : decode cX11_joins 88 = .ok (.aload_n 0, 1) := by decide +kernel
theorem dX11_joins_89 : decode cX11_joins 89 = .ok (.getfield 45, 3) := by decide +kernel
theorem dX11_joins_92 : decode cX11_joins 92 = .ok (.aload_n 0, 1) := by decide +kernel
theorem dX11_joins_93 : decode cX11_joins 93 = .ok (.getfield 29, 3) := by decide +kernel
theorem dX11_joins_96 : decode cX11_joins 96 = .ok (.iload_n 1, 1) := by decide +kernel
theorem dX11_joins_97 : decode cX11_joins 97 = .ok (.iaload, 1) := by decide +kernel
theorem dX11_joins_98 : decode cX11_joins 98 = .ok (.iaload, 1) := by decide +kernel
theorem dX11_joins_99 : decode cX11_joins 99 = .ok (.iconst (-1), 1) := by decide +kernel
theorem dX11_joins_100 : decode cX11_joins 100 = .ok (.ixor, 1) := by decide +kernel
theorem dX11_joins_101 : decode cX11_joins 101 = .ok (.iand, 1) := by decide +kernel
theorem dX11_joins_102 : decode cX11_joins 102 = .ok (.invokevirtual 100, 3) := by decide +kernel
theorem dX11_joins_105 : decode cX11_joins 105 = .ok (.iadd, 1) := by decide +kernel
theorem dX11_joins_106 : decode cX11_joins 106 = .ok (.invokestatic 118, 3) := by decide +kernel
theorem dX11_joins_109 : decode cX11_joins 109 = .ok (.iastore, 1) := by decide +kernel
theorem dX11_joins_110 : decode cX11_joins 110 = .ok (.iinc 4 1, 3) := by decide +kernel
theorem dX11_joins_113 : decode cX11_joins 113 = .ok (.goto (-103), 3) := by decide +kernel
theorem dX11_joins_116 : decode cX11_joins 116 = .ok (.return_, 1) := by decide +kernel
theorem dX11_laysRow_0 : decode cX11_laysRow 0 = .ok (.aload_n 0, 1) := by decide +kernel
theorem dX11_laysRow_1 : decode cX11_laysRow 1 = .ok (.getfield 26, 3) := by decide +kernel
theorem dX11_laysRow_4 : decode cX11_laysRow 4 = .ok (.iload_n 1, 1) := by decide +kernel
theorem dX11_laysRow_5 : decode cX11_laysRow 5 = .ok (.iaload, 1) := by decide +kernel
theorem dX11_laysRow_6 : decode cX11_laysRow 6 = .ok (.iconst 3, 1) := by decide +kernel
theorem dX11_laysRow_7 : decode cX11_laysRow 7 = .ok (.if_icmp .ne 12, 3) := by decide +kernel
theorem dX11_laysRow_10 : decode cX11_laysRow 10 = .ok (.aload_n 0, 1) := by decide +kernel
theorem dX11_laysRow_11 : decode cX11_laysRow 11 = .ok (.iload_n 1, 1) := by decide +kernel
theorem dX11_laysRow_12 : decode cX11_laysRow 12 = .ok (.iload_n 2, 1) := by decide +kernel
theorem dX11_laysRow_13 : decode cX11_laysRow 13 = .ok (.invokevirtual 145, 3) := by decide +kernel
theorem dX11_laysRow_16 : decode cX11_laysRow 16 = .ok (.goto 56, 3) := by decide +kernel
theorem dX11_laysRow_19 : decode cX11_laysRow 19 = .ok (.aload_n 0, 1) := by decide +kernel
theorem dX11_laysRow_20 : decode cX11_laysRow 20 = .ok (.getfield 26, 3) := by decide +kernel
theorem dX11_laysRow_23 : decode cX11_laysRow 23 = .ok (.iload_n 1, 1) := by decide +kernel
theorem dX11_laysRow_24 : decode cX11_laysRow 24 = .ok (.iaload, 1) := by decide +kernel
theorem dX11_laysRow_25 : decode cX11_laysRow 25 = .ok (.iconst 1, 1) := by decide +kernel
theorem dX11_laysRow_26 : decode cX11_laysRow 26 = .ok (.if_icmp .ne 12, 3) := by decide +kernel
theorem dX11_laysRow_29 : decode cX11_laysRow 29 = .ok (.aload_n 0, 1) := by decide +kernel
theorem dX11_laysRow_30 : decode cX11_laysRow 30 = .ok (.iload_n 1, 1) := by decide +kernel
theorem dX11_laysRow_31 : decode cX11_laysRow 31 = .ok (.iload_n 2, 1) := by decide +kernel
theorem dX11_laysRow_32 : decode cX11_laysRow 32 = .ok (.invokevirtual 149, 3) := by decide +kernel
theorem dX11_laysRow_35 : decode cX11_laysRow 35 = .ok (.ifCond .eq 37, 3) := by decide +kernel
theorem dX11_laysRow_38 : decode cX11_laysRow 38 = .ok (.aload_n 0, 1) := by decide +kernel
theorem dX11_laysRow_39 : decode cX11_laysRow 39 = .ok (.getfield 54, 3) := by decide +kernel
theorem dX11_laysRow_42 : decode cX11_laysRow 42 = .ok (.iload_n 1, 1) := by decide +kernel
theorem dX11_laysRow_43 : decode cX11_laysRow 43 = .ok (.aload_n 0, 1) := by decide +kernel
theorem dX11_laysRow_44 : decode cX11_laysRow 44 = .ok (.getfield 57, 3) := by decide +kernel
theorem dX11_laysRow_47 : decode cX11_laysRow 47 = .ok (.bipush 40, 2) := by decide +kernel
theorem dX11_laysRow_49 : decode cX11_laysRow 49 = .ok (.iload_n 1, 1) := by decide +kernel
theorem dX11_laysRow_50 : decode cX11_laysRow 50 = .ok (.imul, 1) := by decide +kernel
theorem dX11_laysRow_51 : decode cX11_laysRow 51 = .ok (.aload_n 0, 1) := by decide +kernel
theorem dX11_laysRow_52 : decode cX11_laysRow 52 = .ok (.getfield 54, 3) := by decide +kernel
theorem dX11_laysRow_55 : decode cX11_laysRow 55 = .ok (.iload_n 1, 1) := by decide +kernel
theorem dX11_laysRow_56 : decode cX11_laysRow 56 = .ok (.iaload, 1) := by decide +kernel
theorem dX11_laysRow_57 : decode cX11_laysRow 57 = .ok (.aload_n 0, 1) := by decide +kernel
theorem dX11_laysRow_58 : decode cX11_laysRow 58 = .ok (.iload_n 2, 1) := by decide +kernel
theorem dX11_laysRow_59 : decode cX11_laysRow 59 = .ok (.aload_n 0, 1) := by decide +kernel
theorem dX11_laysRow_60 : decode cX11_laysRow 60 = .ok (.getfield 45, 3) := by decide +kernel
theorem dX11_laysRow_63 : decode cX11_laysRow 63 = .ok (.iload_n 1, 1) := by decide +kernel
theorem dX11_laysRow_64 : decode cX11_laysRow 64 = .ok (.iaload, 1) := by decide +kernel
theorem dX11_laysRow_65 : decode cX11_laysRow 65 = .ok (.invokevirtual 100, 3) := by decide +kernel
theorem dX11_laysRow_68 : decode cX11_laysRow 68 = .ok (.invokestatic 118, 3) := by decide +kernel
theorem dX11_laysRow_71 : decode cX11_laysRow 71 = .ok (.iastore, 1) := by decide +kernel
theorem dX11_laysRow_72 : decode cX11_laysRow 72 = .ok (.return_, 1) := by decide +kernel
theorem dX11_laysViews_0 : decode cX11_laysViews 0 = .ok (.iconst 0, 1) := by decide +kernel
theorem dX11_laysViews_1 : decode cX11_laysViews 1 = .ok (.istore_n 1, 1) := by decide +kernel
theorem dX11_laysViews_2 : decode cX11_laysViews 2 = .ok (.iload_n 1, 1) := by decide +kernel
theorem dX11_laysViews_3 : decode cX11_laysViews 3 = .ok (.aload_n 0, 1) := by decide +kernel
theorem dX11_laysViews_4 : decode cX11_laysViews 4 = .ok (.getfield 128, 3) := by decide +kernel
theorem dX11_laysViews_7 : decode cX11_laysViews 7 = .ok (.if_icmp .ge 98, 3) := by decide +kernel
theorem dX11_laysViews_10 : decode cX11_laysViews 10 = .ok (.aload_n 0, 1) := by decide +kernel
theorem dX11_laysViews_11 : decode cX11_laysViews 11 = .ok (.getfield 54, 3) := by decide +kernel
theorem dX11_laysViews_14 : decode cX11_laysViews 14 = .ok (.iload_n 1, 1) := by decide +kernel
theorem dX11_laysViews_15 : decode cX11_laysViews 15 = .ok (.iconst 0, 1) := by decide +kernel
theorem dX11_laysViews_16 : decode cX11_laysViews 16 = .ok (.iastore, 1) := by decide +kernel
theorem dX11_laysViews_17 : decode cX11_laysViews 17 = .ok (.aload_n 0, 1) := by decide +kernel
theorem dX11_laysViews_18 : decode cX11_laysViews 18 = .ok (.getfield 29, 3) := by decide +kernel
theorem dX11_laysViews_21 : decode cX11_laysViews 21 = .ok (.iload_n 1, 1) := by decide +kernel
theorem dX11_laysViews_22 : decode cX11_laysViews 22 = .ok (.iaload, 1) := by decide +kernel
theorem dX11_laysViews_23 : decode cX11_laysViews 23 = .ok (.istore_n 2, 1) := by decide +kernel
theorem dX11_laysViews_24 : decode cX11_laysViews 24 = .ok (.iconst 0, 1) := by decide +kernel
theorem dX11_laysViews_25 : decode cX11_laysViews 25 = .ok (.istore_n 3, 1) := by decide +kernel
theorem dX11_laysViews_26 : decode cX11_laysViews 26 = .ok (.iload_n 3, 1) := by decide +kernel
theorem dX11_laysViews_27 : decode cX11_laysViews 27 = .ok (.aload_n 0, 1) := by decide +kernel
theorem dX11_laysViews_28 : decode cX11_laysViews 28 = .ok (.getfield 26, 3) := by decide +kernel
theorem dX11_laysViews_31 : decode cX11_laysViews 31 = .ok (.iload_n 1, 1) := by decide +kernel
theorem dX11_laysViews_32 : decode cX11_laysViews 32 = .ok (.iaload, 1) := by decide +kernel
theorem dX11_laysViews_33 : decode cX11_laysViews 33 = .ok (.ifCond .ne 12, 3) := by decide +kernel
theorem dX11_laysViews_36 : decode cX11_laysViews 36 = .ok (.aload_n 0, 1) := by decide +kernel
theorem dX11_laysViews_37 : decode cX11_laysViews 37 = .ok (.getfield 20, 3) := by decide +kernel
theorem dX11_laysViews_40 : decode cX11_laysViews 40 = .ok (.iload_n 2, 1) := by decide +kernel
theorem dX11_laysViews_41 : decode cX11_laysViews 41 = .ok (.iaload, 1) := by decide +kernel
theorem dX11_laysViews_42 : decode cX11_laysViews 42 = .ok (.goto 9, 3) := by decide +kernel
theorem dX11_laysViews_45 : decode cX11_laysViews 45 = .ok (.aload_n 0, 1) := by decide +kernel
theorem dX11_laysViews_46 : decode cX11_laysViews 46 = .ok (.getfield 54, 3) := by decide +kernel
theorem dX11_laysViews_49 : decode cX11_laysViews 49 = .ok (.iload_n 2, 1) := by decide +kernel
theorem dX11_laysViews_50 : decode cX11_laysViews 50 = .ok (.iaload, 1) := by decide +kernel
theorem dX11_laysViews_51 : decode cX11_laysViews 51 = .ok (.if_icmp .ge 48, 3) := by decide +kernel
theorem dX11_laysViews_54 : decode cX11_laysViews 54 = .ok (.aload_n 0, 1) := by decide +kernel
theorem dX11_laysViews_55 : decode cX11_laysViews 55 = .ok (.iload_n 1, 1) := by decide +kernel
theorem dX11_laysViews_56 : decode cX11_laysViews 56 = .ok (.aload_n 0, 1) := by decide +kernel
theorem dX11_laysViews_57 : decode cX11_laysViews 57 = .ok (.getfield 26, 3) := by decide +kernel
theorem dX11_laysViews_60 : decode cX11_laysViews 60 = .ok (.iload_n 1, 1) := by decide +kernel
theorem dX11_laysViews_61 : decode cX11_laysViews 61 = .ok (.iaload, 1) := by decide +kernel
theorem dX11_laysViews_62 : decode cX11_laysViews 62 = .ok (.ifCond .ne 17, 3) := by decide +kernel
theorem dX11_laysViews_65 : decode cX11_laysViews 65 = .ok (.aload_n 0, 1) := by decide +kernel
theorem dX11_laysViews_66 : decode cX11_laysViews 66 = .ok (.getfield 23, 3) := by decide +kernel
theorem dX11_laysViews_69 : decode cX11_laysViews 69 = .ok (.bipush 12, 2) := by decide +kernel
theorem dX11_laysViews_71 : decode cX11_laysViews 71 = .ok (.iload_n 2, 1) := by decide +kernel
theorem dX11_laysViews_72 : decode cX11_laysViews 72 = .ok (.imul, 1) := by decide +kernel
theorem dX11_laysViews_73 : decode cX11_laysViews 73 = .ok (.iload_n 3, 1) := by decide +kernel
theorem dX11_laysViews_74 : decode cX11_laysViews 74 = .ok (.iadd, 1) := by decide +kernel
theorem dX11_laysViews_75 : decode cX11_laysViews 75 = .ok (.iaload, 1) := by decide +kernel
theorem dX11_laysViews_76 : decode cX11_laysViews 76 = .ok (.goto 14, 3) := by decide +kernel
theorem dX11_laysViews_79 : decode cX11_laysViews 79 = .ok (.aload_n 0, 1) := by decide +kernel
theorem dX11_laysViews_80 : decode cX11_laysViews 80 = .ok (.getfield 57, 3) := by decide +kernel
theorem dX11_laysViews_83 : decode cX11_laysViews 83 = .ok (.bipush 40, 2) := by decide +kernel
theorem dX11_laysViews_85 : decode cX11_laysViews 85 = .ok (.iload_n 2, 1) := by decide +kernel
theorem dX11_laysViews_86 : decode cX11_laysViews 86 = .ok (.imul, 1) := by decide +kernel
theorem dX11_laysViews_87 : decode cX11_laysViews 87 = .ok (.iload_n 3, 1) := by decide +kernel
theorem dX11_laysViews_88 : decode cX11_laysViews 88 = .ok (.iadd, 1) := by decide +kernel
theorem dX11_laysViews_89 : decode cX11_laysViews 89 = .ok (.iaload, 1) := by decide +kernel
theorem dX11_laysViews_90 : decode cX11_laysViews 90 = .ok (.invokevirtual 152, 3) := by decide +kernel
theorem dX11_laysViews_93 : decode cX11_laysViews 93 = .ok (.iinc 3 1, 3) := by decide +kernel
theorem dX11_laysViews_96 : decode cX11_laysViews 96 = .ok (.goto (-70), 3) := by decide +kernel
theorem dX11_laysViews_99 : decode cX11_laysViews 99 = .ok (.iinc 1 1, 3) := by decide +kernel
theorem dX11_laysViews_102 : decode cX11_laysViews 102 = .ok (.goto (-100), 3) := by decide +kernel
theorem dX11_laysViews_105 : decode cX11_laysViews 105 = .ok (.return_, 1) := by decide +kernel
theorem dX11_asksView_0 : decode cX11_asksView 0 = .ok (.aload_n 0, 1) := by decide +kernel
theorem dX11_asksView_1 : decode cX11_asksView 1 = .ok (.aload_n 0, 1) := by decide +kernel
theorem dX11_asksView_2 : decode cX11_asksView 2 = .ok (.iload_n 1, 1) := by decide +kernel
theorem dX11_asksView_3 : decode cX11_asksView 3 = .ok (.invokevirtual 135, 3) := by decide +kernel
theorem dX11_asksView_6 : decode cX11_asksView 6 = .ok (.ifCond .eq 7, 3) := by decide +kernel
theorem dX11_asksView_9 : decode cX11_asksView 9 = .ok (.iconst 0, 1) := by decide +kernel
theorem dX11_asksView_10 : decode cX11_asksView 10 = .ok (.goto 4, 3) := by decide +kernel
theorem dX11_asksView_13 : decode cX11_asksView 13 = .ok (.iconst 1, 1) := by decide +kernel
theorem dX11_asksView_14 : decode cX11_asksView 14 = .ok (.putfield 87, 3) := by decide +kernel
theorem dX11_asksView_17 : decode cX11_asksView 17 = .ok (.aload_n 0, 1) := by decide +kernel
theorem dX11_asksView_18 : decode cX11_asksView 18 = .ok (.getfield 87, 3) := by decide +kernel
theorem dX11_asksView_21 : decode cX11_asksView 21 = .ok (.ifCond .ne 7, 3) := by decide +kernel
theorem dX11_asksView_24 : decode cX11_asksView 24 = .ok (.iconst 1, 1) := by decide +kernel
theorem dX11_asksView_25 : decode cX11_asksView 25 = .ok (.goto 4, 3) := by decide +kernel
theorem dX11_asksView_28 : decode cX11_asksView 28 = .ok (.iconst 0, 1) := by decide +kernel
theorem dX11_asksView_29 : decode cX11_asksView 29 = .ok (.ireturn, 1) := by decide +kernel
theorem dX11_columns_0 : decode cX11_columns 0 = .ok (.aload_n 0, 1) := by decide +kernel
theorem dX11_columns_1 : decode cX11_columns 1 = .ok (.iload_n 1, 1) := by decide +kernel
theorem dX11_columns_2 : decode cX11_columns 2 = .ok (.invokevirtual 155, 3) := by decide +kernel
theorem dX11_columns_5 : decode cX11_columns 5 = .ok (.ifCond .eq 12, 3) := by decide +kernel
theorem dX11_columns_8 : decode cX11_columns 8 = .ok (.aload_n 0, 1) := by decide +kernel
theorem dX11_columns_9 : decode cX11_columns 9 = .ok (.getfield 45, 3) := by decide +kernel
theorem dX11_columns_12 : decode cX11_columns 12 = .ok (.iload_n 1, 1) := by decide +kernel
theorem dX11_columns_13 : decode cX11_columns 13 = .ok (.iaload, 1) := by decide +kernel
theorem dX11_columns_14 : decode cX11_columns 14 = .ok (.goto 4, 3) := by decide +kernel
theorem dX11_columns_17 : decode cX11_columns 17 = .ok (.iconst 0, 1) := by decide +kernel
theorem dX11_columns_18 : decode cX11_columns 18 = .ok (.ireturn, 1) := by decide +kernel
theorem dX11_key_0 : decode cX11_key 0 = .ok (.aload_n 0, 1) := by decide +kernel
theorem dX11_key_1 : decode cX11_key 1 = .ok (.iload_n 1, 1) := by decide +kernel
theorem dX11_key_2 : decode cX11_key 2 = .ok (.invokevirtual 155, 3) := by decide +kernel
theorem dX11_key_5 : decode cX11_key 5 = .ok (.ifCond .eq 12, 3) := by decide +kernel
theorem dX11_key_8 : decode cX11_key 8 = .ok (.aload_n 0, 1) := by decide +kernel
theorem dX11_key_9 : decode cX11_key 9 = .ok (.getfield 48, 3) := by decide +kernel
theorem dX11_key_12 : decode cX11_key 12 = .ok (.iload_n 1, 1) := by decide +kernel
theorem dX11_key_13 : decode cX11_key 13 = .ok (.iaload, 1) := by decide +kernel
theorem dX11_key_14 : decode cX11_key 14 = .ok (.goto 4, 3) := by decide +kernel
theorem dX11_key_17 : decode cX11_key 17 = .ok (.iconst 0, 1) := by decide +kernel
theorem dX11_key_18 : decode cX11_key 18 = .ok (.ireturn, 1) := by decide +kernel
theorem dX11_rows_0 : decode cX11_rows 0 = .ok (.aload_n 0, 1) := by decide +kernel
theorem dX11_rows_1 : decode cX11_rows 1 = .ok (.iload_n 1, 1) := by decide +kernel
theorem dX11_rows_2 : decode cX11_rows 2 = .ok (.invokevirtual 155, 3) := by decide +kernel
theorem dX11_rows_5 : decode cX11_rows 5 = .ok (.ifCond .ne 5, 3) := by decide +kernel
theorem dX11_rows_8 : decode cX11_rows 8 = .ok (.iconst 0, 1) := by decide +kernel
theorem dX11_rows_9 : decode cX11_rows 9 = .ok (.ireturn, 1) := by decide +kernel
theorem dX11_rows_10 : decode cX11_rows 10 = .ok (.aload_n 0, 1) := by decide +kernel
theorem dX11_rows_11 : decode cX11_rows 11 = .ok (.invokevirtual 158, 3) := by decide +kernel
theorem dX11_rows_14 : decode cX11_rows 14 = .ok (.aload_n 0, 1) := by decide +kernel
theorem dX11_rows_15 : decode cX11_rows 15 = .ok (.getfield 54, 3) := by decide +kernel
theorem dX11_rows_18 : decode cX11_rows 18 = .ok (.iload_n 1, 1) := by decide +kernel
theorem dX11_rows_19 : decode cX11_rows 19 = .ok (.iaload, 1) := by decide +kernel
theorem dX11_rows_20 : decode cX11_rows 20 = .ok (.ireturn, 1) := by decide +kernel
theorem dX11_row_0 : decode cX11_row 0 = .ok (.aload_n 0, 1) := by decide +kernel
theorem dX11_row_1 : decode cX11_row 1 = .ok (.iload_n 1, 1) := by decide +kernel
theorem dX11_row_2 : decode cX11_row 2 = .ok (.invokevirtual 155, 3) := by decide +kernel
theorem dX11_row_5 : decode cX11_row 5 = .ok (.ifCond .ne 5, 3) := by decide +kernel
theorem dX11_row_8 : decode cX11_row 8 = .ok (.iconst 0, 1) := by decide +kernel
theorem dX11_row_9 : decode cX11_row 9 = .ok (.ireturn, 1) := by decide +kernel
theorem dX11_row_10 : decode cX11_row 10 = .ok (.aload_n 0, 1) := by decide +kernel
theorem dX11_row_11 : decode cX11_row 11 = .ok (.invokevirtual 158, 3) := by decide +kernel
theorem dX11_row_14 : decode cX11_row 14 = .ok (.aload_n 0, 1) := by decide +kernel
theorem dX11_row_15 : decode cX11_row 15 = .ok (.iload_n 2, 1) := by decide +kernel
theorem dX11_row_16 : decode cX11_row 16 = .ok (.iconst 0, 1) := by decide +kernel
theorem dX11_row_17 : decode cX11_row 17 = .ok (.aload_n 0, 1) := by decide +kernel
theorem dX11_row_18 : decode cX11_row 18 = .ok (.getfield 54, 3) := by decide +kernel
theorem dX11_row_21 : decode cX11_row 21 = .ok (.iload_n 1, 1) := by decide +kernel
theorem dX11_row_22 : decode cX11_row 22 = .ok (.iaload, 1) := by decide +kernel
theorem dX11_row_23 : decode cX11_row 23 = .ok (.iconst 1, 1) := by decide +kernel
theorem dX11_row_24 : decode cX11_row 24 = .ok (.isub, 1) := by decide +kernel
theorem dX11_row_25 : decode cX11_row 25 = .ok (.invokestatic 96, 3) := by decide +kernel
theorem dX11_row_28 : decode cX11_row 28 = .ok (.ifCond .eq 7, 3) := by decide +kernel
theorem dX11_row_31 : decode cX11_row 31 = .ok (.iconst 0, 1) := by decide +kernel
theorem dX11_row_32 : decode cX11_row 32 = .ok (.goto 4, 3) := by decide +kernel
theorem dX11_row_35 : decode cX11_row 35 = .ok (.iconst 1, 1) := by decide +kernel
theorem dX11_row_36 : decode cX11_row 36 = .ok (.putfield 87, 3) := by decide +kernel
theorem dX11_row_39 : decode cX11_row 39 = .ok (.aload_n 0, 1) := by decide +kernel
theorem dX11_row_40 : decode cX11_row 40 = .ok (.getfield 87, 3) := by decide +kernel
theorem dX11_row_43 : decode cX11_row 43 = .ok (.ifCond .le 7, 3) := by decide +kernel
theorem dX11_row_46 : decode cX11_row 46 = .ok (.iconst 0, 1) := by decide +kernel
theorem dX11_row_47 : decode cX11_row 47 = .ok (.goto 14, 3) := by decide +kernel
theorem dX11_row_50 : decode cX11_row 50 = .ok (.aload_n 0, 1) := by decide +kernel
theorem dX11_row_51 : decode cX11_row 51 = .ok (.getfield 57, 3) := by decide +kernel
theorem dX11_row_54 : decode cX11_row 54 = .ok (.bipush 40, 2) := by decide +kernel
theorem dX11_row_56 : decode cX11_row 56 = .ok (.iload_n 1, 1) := by decide +kernel
theorem dX11_row_57 : decode cX11_row 57 = .ok (.imul, 1) := by decide +kernel
theorem dX11_row_58 : decode cX11_row 58 = .ok (.iload_n 2, 1) := by decide +kernel
theorem dX11_row_59 : decode cX11_row 59 = .ok (.iadd, 1) := by decide +kernel
theorem dX11_row_60 : decode cX11_row 60 = .ok (.iaload, 1) := by decide +kernel
theorem dX11_row_61 : decode cX11_row 61 = .ok (.ireturn, 1) := by decide +kernel
theorem dX11_open_0 : decode cX11_open 0 = .ok (.aload_n 0, 1) := by decide +kernel
theorem dX11_open_1 : decode cX11_open 1 = .ok (.iload_n 1, 1) := by decide +kernel
theorem dX11_open_2 : decode cX11_open 2 = .ok (.invokevirtual 155, 3) := by decide +kernel
theorem dX11_open_5 : decode cX11_open 5 = .ok (.ifCond .ne 5, 3) := by decide +kernel
theorem dX11_open_8 : decode cX11_open 8 = .ok (.iconst 0, 1) := by decide +kernel
theorem dX11_open_9 : decode cX11_open 9 = .ok (.ireturn, 1) := by decide +kernel
theorem dX11_open_10 : decode cX11_open 10 = .ok (.aload_n 0, 1) := by decide +kernel
theorem dX11_open_11 : decode cX11_open 11 = .ok (.invokevirtual 158, 3) := by decide +kernel
theorem dX11_open_14 : decode cX11_open 14 = .ok (.aload_n 0, 1) := by decide +kernel
theorem dX11_open_15 : decode cX11_open 15 = .ok (.iconst 1, 1) := by decide +kernel
theorem dX11_open_16 : decode cX11_open 16 = .ok (.putfield 161, 3) := by decide +kernel
theorem dX11_open_19 : decode cX11_open 19 = .ok (.aload_n 0, 1) := by decide +kernel
theorem dX11_open_20 : decode cX11_open 20 = .ok (.iload_n 1, 1) := by decide +kernel
theorem dX11_open_21 : decode cX11_open 21 = .ok (.putfield 165, 3) := by decide +kernel
theorem dX11_open_24 : decode cX11_open 24 = .ok (.aload_n 0, 1) := by decide +kernel
theorem dX11_open_25 : decode cX11_open 25 = .ok (.aload_n 0, 1) := by decide +kernel
theorem dX11_open_26 : decode cX11_open 26 = .ok (.getfield 54, 3) := by decide +kernel
theorem dX11_open_29 : decode cX11_open 29 = .ok (.iload_n 1, 1) := by decide +kernel
theorem dX11_open_30 : decode cX11_open 30 = .ok (.iaload, 1) := by decide +kernel
theorem dX11_open_31 : decode cX11_open 31 = .ok (.putfield 168, 3) := by decide +kernel
theorem dX11_open_34 : decode cX11_open 34 = .ok (.iconst 0, 1) := by decide +kernel
theorem dX11_open_35 : decode cX11_open 35 = .ok (.istore_n 2, 1) := by decide +kernel
theorem dX11_open_36 : decode cX11_open 36 = .ok (.iload_n 2, 1) := by decide +kernel
theorem dX11_open_37 : decode cX11_open 37 = .ok (.aload_n 0, 1) := by decide +kernel
theorem dX11_open_38 : decode cX11_open 38 = .ok (.getfield 168, 3) := by decide +kernel
theorem dX11_open_41 : decode cX11_open 41 = .ok (.if_icmp .ge 26, 3) := by decide +kernel
theorem dX11_open_44 : decode cX11_open 44 = .ok (.aload_n 0, 1) := by decide +kernel
theorem dX11_open_45 : decode cX11_open 45 = .ok (.getfield 66, 3) := by decide +kernel
theorem dX11_open_48 : decode cX11_open 48 = .ok (.iload_n 2, 1) := by decide +kernel
theorem dX11_open_49 : decode cX11_open 49 = .ok (.aload_n 0, 1) := by decide +kernel
theorem dX11_open_50 : decode cX11_open 50 = .ok (.getfield 57, 3) := by decide +kernel
theorem dX11_open_53 : decode cX11_open 53 = .ok (.bipush 40, 2) := by decide +kernel
theorem dX11_open_55 : decode cX11_open 55 = .ok (.iload_n 1, 1) := by decide +kernel
theorem dX11_open_56 : decode cX11_open 56 = .ok (.imul, 1) := by decide +kernel
theorem dX11_open_57 : decode cX11_open 57 = .ok (.iload_n 2, 1) := by decide +kernel
theorem dX11_open_58 : decode cX11_open 58 = .ok (.iadd, 1) := by decide +kernel
theorem dX11_open_59 : decode cX11_open 59 = .ok (.iaload, 1) := by decide +kernel
theorem dX11_open_60 : decode cX11_open 60 = .ok (.iastore, 1) := by decide +kernel
theorem dX11_open_61 : decode cX11_open 61 = .ok (.iinc 2 1, 3) := by decide +kernel
theorem dX11_open_64 : decode cX11_open 64 = .ok (.goto (-28), 3) := by decide +kernel
theorem dX11_open_67 : decode cX11_open 67 = .ok (.aload_n 0, 1) := by decide +kernel
theorem dX11_open_68 : decode cX11_open 68 = .ok (.getfield 168, 3) := by decide +kernel
theorem dX11_open_71 : decode cX11_open 71 = .ok (.ireturn, 1) := by decide +kernel
theorem dX11_add_0 : decode cX11_add 0 = .ok (.aload_n 0, 1) := by decide +kernel
theorem dX11_add_1 : decode cX11_add 1 = .ok (.aload_n 0, 1) := by decide +kernel
theorem dX11_add_2 : decode cX11_add 2 = .ok (.getfield 161, 3) := by decide +kernel
theorem dX11_add_5 : decode cX11_add 5 = .ok (.ifCond .eq 29, 3) := by decide +kernel
theorem dX11_add_8 : decode cX11_add 8 = .ok (.aload_n 0, 1) := by decide +kernel
theorem dX11_add_9 : decode cX11_add 9 = .ok (.getfield 66, 3) := by decide +kernel
theorem dX11_add_12 : decode cX11_add 12 = .ok (.iconst 0, 1) := by decide +kernel
theorem dX11_add_13 : decode cX11_add 13 = .ok (.aload_n 0, 1) := by decide +kernel
theorem dX11_add_14 : decode cX11_add 14 = .ok (.getfield 168, 3) := by decide +kernel
theorem dX11_add_17 : decode cX11_add 17 = .ok (.iload_n 1, 1) := by decide +kernel
theorem dX11_add_18 : decode cX11_add 18 = .ok (.invokestatic 122, 3) := by decide +kernel
theorem dX11_add_21 : decode cX11_add 21 = .ok (.iconst (-1), 1) := by decide +kernel
theorem dX11_add_22 : decode cX11_add 22 = .ok (.if_icmp .ne 12, 3) := by decide +kernel
theorem dX11_add_25 : decode cX11_add 25 = .ok (.aload_n 0, 1) := by decide +kernel
theorem dX11_add_26 : decode cX11_add 26 = .ok (.getfield 168, 3) := by decide +kernel
theorem dX11_add_29 : decode cX11_add 29 = .ok (.bipush 20, 2) := by decide +kernel
theorem dX11_add_31 : decode cX11_add 31 = .ok (.if_icmp .ne 7, 3) := by decide +kernel
theorem dX11_add_34 : decode cX11_add 34 = .ok (.iconst 1, 1) := by decide +kernel
theorem dX11_add_35 : decode cX11_add 35 = .ok (.goto 25, 3) := by decide +kernel
theorem dX11_add_38 : decode cX11_add 38 = .ok (.aload_n 0, 1) := by decide +kernel
theorem dX11_add_39 : decode cX11_add 39 = .ok (.iload_n 1, 1) := by decide +kernel
theorem dX11_add_40 : decode cX11_add 40 = .ok (.aload_n 0, 1) := by decide +kernel
theorem dX11_add_41 : decode cX11_add 41 = .ok (.getfield 45, 3) := by decide +kernel
theorem dX11_add_44 : decode cX11_add 44 = .ok (.aload_n 0, 1) := by decide +kernel
theorem dX11_add_45 : decode cX11_add 45 = .ok (.getfield 165, 3) := by decide +kernel
theorem dX11_add_48 : decode cX11_add 48 = .ok (.iaload, 1) := by decide +kernel
theorem dX11_add_49 : decode cX11_add 49 = .ok (.invokevirtual 110, 3) := by decide +kernel
theorem dX11_add_52 : decode cX11_add 52 = .ok (.ifCond .eq 7, 3) := by decide +kernel
theorem dX11_add_55 : decode cX11_add 55 = .ok (.iconst 0, 1) := by decide +kernel
theorem dX11_add_56 : decode cX11_add 56 = .ok (.goto 4, 3) := by decide +kernel
theorem dX11_add_59 : decode cX11_add 59 = .ok (.iconst 2, 1) := by decide +kernel
theorem dX11_add_60 : decode cX11_add 60 = .ok (.putfield 87, 3) := by decide +kernel
theorem dX11_add_63 : decode cX11_add 63 = .ok (.aload_n 0, 1) := by decide +kernel
theorem dX11_add_64 : decode cX11_add 64 = .ok (.getfield 87, 3) := by decide +kernel
theorem dX11_add_67 : decode cX11_add 67 = .ok (.ifCond .le 5, 3) := by decide +kernel
theorem dX11_add_70 : decode cX11_add 70 = .ok (.iconst 0, 1) := by decide +kernel
theorem dX11_add_71 : decode cX11_add 71 = .ok (.ireturn, 1) := by decide +kernel
theorem dX11_add_72 : decode cX11_add 72 = .ok (.aload_n 0, 1) := by decide +kernel
theorem dX11_add_73 : decode cX11_add 73 = .ok (.aload_n 0, 1) := by decide +kernel
theorem dX11_add_74 : decode cX11_add 74 = .ok (.getfield 66, 3) := by decide +kernel
theorem dX11_add_77 : decode cX11_add 77 = .ok (.iconst 0, 1) := by decide +kernel
theorem dX11_add_78 : decode cX11_add 78 = .ok (.aload_n 0, 1) := by decide +kernel
theorem dX11_add_79 : decode cX11_add 79 = .ok (.getfield 168, 3) := by decide +kernel
theorem dX11_add_82 : decode cX11_add 82 = .ok (.iload_n 1, 1) := by decide +kernel
theorem dX11_add_83 : decode cX11_add 83 = .ok (.invokestatic 118, 3) := by decide +kernel
theorem dX11_add_86 : decode cX11_add 86 = .ok (.putfield 168, 3) := by decide +kernel
theorem dX11_add_89 : decode cX11_add 89 = .ok (.aload_n 0, 1) := by decide +kernel
theorem dX11_add_90 : decode cX11_add 90 = .ok (.getfield 168, 3) := by decide +kernel
theorem dX11_add_93 : decode cX11_add 93 = .ok (.ireturn, 1) := by decide +kernel
theorem dX11_takeOut_0 : decode cX11_takeOut 0 = .ok (.aload_n 0, 1) := by decide +kernel
theorem dX11_takeOut_1 : decode cX11_takeOut 1 = .ok (.aload_n 0, 1) := by decide +kernel
theorem dX11_takeOut_2 : decode cX11_takeOut 2 = .ok (.getfield 161, 3) := by decide +kernel
theorem dX11_takeOut_5 : decode cX11_takeOut 5 = .ok (.ifCond .ne 7, 3) := by decide +kernel
theorem dX11_takeOut_8 : decode cX11_takeOut 8 = .ok (.iconst 1, 1) := by decide +kernel
theorem dX11_takeOut_9 : decode cX11_takeOut 9 = .ok (.goto 25, 3) := by decide +kernel
theorem dX11_takeOut_12 : decode cX11_takeOut 12 = .ok (.aload_n 0, 1) := by decide +kernel
theorem dX11_takeOut_13 : decode cX11_takeOut 13 = .ok (.getfield 66, 3) := by decide +kernel
theorem dX11_takeOut_16 : decode cX11_takeOut 16 = .ok (.iconst 0, 1) := by decide +kernel
theorem dX11_takeOut_17 : decode cX11_takeOut 17 = .ok (.aload_n 0, 1) := by decide +kernel
theorem dX11_takeOut_18 : decode cX11_takeOut 18 = .ok (.getfield 168, 3) := by decide +kernel
theorem dX11_takeOut_21 : decode cX11_takeOut 21 = .ok (.iload_n 1, 1) := by decide +kernel
theorem dX11_takeOut_22 : decode cX11_takeOut 22 = .ok (.invokestatic 122, 3) := by decide +kernel
theorem dX11_takeOut_25 : decode cX11_takeOut 25 = .ok (.iconst (-1), 1) := by decide +kernel
theorem dX11_takeOut_26 : decode cX11_takeOut 26 = .ok (.if_icmp .ne 7, 3) := by decide +kernel
theorem dX11_takeOut_29 : decode cX11_takeOut 29 = .ok (.iconst 2, 1) := by decide +kernel
theorem dX11_takeOut_30 : decode cX11_takeOut 30 = .ok (.goto 4, 3) := by decide +kernel
theorem dX11_takeOut_33 : decode cX11_takeOut 33 = .ok (.iconst 0, 1) := by decide +kernel
theorem dX11_takeOut_34 : decode cX11_takeOut 34 = .ok (.putfield 87, 3) := by decide +kernel
theorem dX11_takeOut_37 : decode cX11_takeOut 37 = .ok (.aload_n 0, 1) := by decide +kernel
theorem dX11_takeOut_38 : decode cX11_takeOut 38 = .ok (.getfield 87, 3) := by decide +kernel
theorem dX11_takeOut_41 : decode cX11_takeOut 41 = .ok (.ifCond .le 5, 3) := by decide +kernel
theorem dX11_takeOut_44 : decode cX11_takeOut 44 = .ok (.iconst 0, 1) := by decide +kernel
theorem dX11_takeOut_45 : decode cX11_takeOut 45 = .ok (.ireturn, 1) := by decide +kernel
theorem dX11_takeOut_46 : decode cX11_takeOut 46 = .ok (.aload_n 0, 1) := by decide +kernel
theorem dX11_takeOut_47 : decode cX11_takeOut 47 = .ok (.aload_n 0, 1) := by decide +kernel
theorem dX11_takeOut_48 : decode cX11_takeOut 48 = .ok (.getfield 66, 3) := by decide +kernel
theorem dX11_takeOut_51 : decode cX11_takeOut 51 = .ok (.iconst 0, 1) := by decide +kernel
theorem dX11_takeOut_52 : decode cX11_takeOut 52 = .ok (.aload_n 0, 1) := by decide +kernel
theorem dX11_takeOut_53 : decode cX11_takeOut 53 = .ok (.getfield 168, 3) := by decide +kernel
theorem dX11_takeOut_56 : decode cX11_takeOut 56 = .ok (.aload_n 0, 1) := by decide +kernel
theorem dX11_takeOut_57 : decode cX11_takeOut 57 = .ok (.getfield 66, 3) := by decide +kernel
theorem dX11_takeOut_60 : decode cX11_takeOut 60 = .ok (.iconst 0, 1) := by decide +kernel
theorem dX11_takeOut_61 : decode cX11_takeOut 61 = .ok (.aload_n 0, 1) := by decide +kernel
theorem dX11_takeOut_62 : decode cX11_takeOut 62 = .ok (.getfield 168, 3) := by decide +kernel
theorem dX11_takeOut_65 : decode cX11_takeOut 65 = .ok (.iload_n 1, 1) := by decide +kernel
theorem dX11_takeOut_66 : decode cX11_takeOut 66 = .ok (.invokestatic 122, 3) := by decide +kernel
theorem dX11_takeOut_69 : decode cX11_takeOut 69 = .ok (.invokestatic 125, 3) := by decide +kernel
theorem dX11_takeOut_72 : decode cX11_takeOut 72 = .ok (.putfield 168, 3) := by decide +kernel
theorem dX11_takeOut_75 : decode cX11_takeOut 75 = .ok (.aload_n 0, 1) := by decide +kernel
theorem dX11_takeOut_76 : decode cX11_takeOut 76 = .ok (.getfield 168, 3) := by decide +kernel
theorem dX11_takeOut_79 : decode cX11_takeOut 79 = .ok (.ireturn, 1) := by decide +kernel
theorem dX11_change_0 : decode cX11_change 0 = .ok (.aload_n 0, 1) := by decide +kernel
theorem dX11_change_1 : decode cX11_change 1 = .ok (.aload_n 0, 1) := by decide +kernel
theorem dX11_change_2 : decode cX11_change 2 = .ok (.getfield 161, 3) := by decide +kernel
theorem dX11_change_5 : decode cX11_change 5 = .ok (.ifCond .ne 7, 3) := by decide +kernel
theorem dX11_change_8 : decode cX11_change 8 = .ok (.iconst 1, 1) := by decide +kernel
theorem dX11_change_9 : decode cX11_change 9 = .ok (.goto 55, 3) := by decide +kernel
theorem dX11_change_12 : decode cX11_change 12 = .ok (.iload_n 2, 1) := by decide +kernel
theorem dX11_change_13 : decode cX11_change 13 = .ok (.aload_n 0, 1) := by decide +kernel
theorem dX11_change_14 : decode cX11_change 14 = .ok (.getfield 45, 3) := by decide +kernel
theorem dX11_change_17 : decode cX11_change 17 = .ok (.aload_n 0, 1) := by decide +kernel
theorem dX11_change_18 : decode cX11_change 18 = .ok (.getfield 165, 3) := by decide +kernel
theorem dX11_change_21 : decode cX11_change 21 = .ok (.iaload, 1) := by decide +kernel
theorem dX11_change_22 : decode cX11_change 22 = .ok (.invokestatic 138, 3) := by decide +kernel
theorem dX11_change_25 : decode cX11_change 25 = .ok (.ifCond .eq 13, 3) := by decide +kernel
theorem dX11_change_28 : decode cX11_change 28 = .ok (.iload_n 3, 1) := by decide +kernel
theorem dX11_change_29 : decode cX11_change 29 = .ok (.iconst 0, 1) := by decide +kernel
theorem dX11_change_30 : decode cX11_change 30 = .ok (.bipush 9, 2) := by decide +kernel
theorem dX11_change_32 : decode cX11_change 32 = .ok (.invokestatic 96, 3) := by decide +kernel
theorem dX11_change_35 : decode cX11_change 35 = .ok (.ifCond .ne 7, 3) := by decide +kernel
theorem dX11_change_38 : decode cX11_change 38 = .ok (.iconst 2, 1) := by decide +kernel
theorem dX11_change_39 : decode cX11_change 39 = .ok (.goto 25, 3) := by decide +kernel
theorem dX11_change_42 : decode cX11_change 42 = .ok (.aload_n 0, 1) := by decide +kernel
theorem dX11_change_43 : decode cX11_change 43 = .ok (.getfield 66, 3) := by decide +kernel
theorem dX11_change_46 : decode cX11_change 46 = .ok (.iconst 0, 1) := by decide +kernel
theorem dX11_change_47 : decode cX11_change 47 = .ok (.aload_n 0, 1) := by decide +kernel
theorem dX11_change_48 : decode cX11_change 48 = .ok (.getfield 168, 3) := by decide +kernel
theorem dX11_change_51 : decode cX11_change 51 = .ok (.iload_n 1, 1) := by decide +kernel
theorem dX11_change_52 : decode cX11_change 52 = .ok (.invokestatic 122, 3) := by decide +kernel
theorem dX11_change_55 : decode cX11_change 55 = .ok (.iconst (-1), 1) := by decide +kernel
theorem dX11_change_56 : decode cX11_change 56 = .ok (.if_icmp .ne 7, 3) := by decide +kernel
theorem dX11_change_59 : decode cX11_change 59 = .ok (.iconst 3, 1) := by decide +kernel
theorem dX11_change_60 : decode cX11_change 60 = .ok (.goto 4, 3) := by decide +kernel
theorem dX11_change_63 : decode cX11_change 63 = .ok (.iconst 0, 1) := by decide +kernel
theorem dX11_change_64 : decode cX11_change 64 = .ok (.putfield 87, 3) := by decide +kernel
theorem dX11_change_67 : decode cX11_change 67 = .ok (.aload_n 0, 1) := by decide +kernel
theorem dX11_change_68 : decode cX11_change 68 = .ok (.getfield 87, 3) := by decide +kernel
theorem dX11_change_71 : decode cX11_change 71 = .ok (.ifCond .le 5, 3) := by decide +kernel
theorem dX11_change_74 : decode cX11_change 74 = .ok (.iconst 0, 1) := by decide +kernel
theorem dX11_change_75 : decode cX11_change 75 = .ok (.ireturn, 1) := by decide +kernel
theorem dX11_change_76 : decode cX11_change 76 = .ok (.iload_n 1, 1) := by decide +kernel
theorem dX11_change_77 : decode cX11_change 77 = .ok (.iload_n 3, 1) := by decide +kernel
theorem dX11_change_78 : decode cX11_change 78 = .ok (.aload_n 0, 1) := by decide +kernel
theorem dX11_change_79 : decode cX11_change 79 = .ok (.iload_n 1, 1) := by decide +kernel
theorem dX11_change_80 : decode cX11_change 80 = .ok (.iload_n 2, 1) := by decide +kernel
theorem dX11_change_81 : decode cX11_change 81 = .ok (.invokevirtual 91, 3) := by decide +kernel
theorem dX11_change_84 : decode cX11_change 84 = .ok (.isub, 1) := by decide +kernel
theorem dX11_change_85 : decode cX11_change 85 = .ok (.aload_n 0, 1) := by decide +kernel
theorem dX11_change_86 : decode cX11_change 86 = .ok (.getfield 8, 3) := by decide +kernel
theorem dX11_change_89 : decode cX11_change 89 = .ok (.iload_n 2, 1) := by decide +kernel
theorem dX11_change_90 : decode cX11_change 90 = .ok (.iaload, 1) := by decide +kernel
theorem dX11_change_91 : decode cX11_change 91 = .ok (.imul, 1) := by decide +kernel
theorem dX11_change_92 : decode cX11_change 92 = .ok (.iadd, 1) := by decide +kernel
theorem dX11_change_93 : decode cX11_change 93 = .ok (.istore 4, 2) := by decide +kernel
theorem dX11_change_95 : decode cX11_change 95 = .ok (.aload_n 0, 1) := by decide +kernel
theorem dX11_change_96 : decode cX11_change 96 = .ok (.iload 4, 2) := by decide +kernel
theorem dX11_change_98 : decode cX11_change 98 = .ok (.iload_n 1, 1) := by decide +kernel
theorem dX11_change_99 : decode cX11_change 99 = .ok (.if_icmp .eq 25, 3) := by decide +kernel
theorem dX11_change_102 : decode cX11_change 102 = .ok (.aload_n 0, 1) := by decide +kernel
theorem dX11_change_103 : decode cX11_change 103 = .ok (.getfield 66, 3) := by decide +kernel
theorem dX11_change_106 : decode cX11_change 106 = .ok (.iconst 0, 1) := by decide +kernel
theorem dX11_change_107 : decode cX11_change 107 = .ok (.aload_n 0, 1) := by decide +kernel
theorem dX11_change_108 : decode cX11_change 108 = .ok (.getfield 168, 3) := by decide +kernel
theorem dX11_change_111 : decode cX11_change 111 = .ok (.iload 4, 2) := by decide +kernel
theorem dX11_change_113 : decode cX11_change 113 = .ok (.invokestatic 122, 3) := by decide +kernel
theorem dX11_change_116 : decode cX11_change 116 = .ok (.iconst (-1), 1) := by decide +kernel
theorem dX11_change_117 : decode cX11_change 117 = .ok (.if_icmp .eq 7, 3) := by decide +kernel
theorem dX11_change_120 : decode cX11_change 120 = .ok (.iconst 3, 1) := by decide +kernel
theorem dX11_change_121 : decode cX11_change 121 = .ok (.goto 4, 3) := by decide +kernel
theorem dX11_change_124 : decode cX11_change 124 = .ok (.iconst 0, 1) := by decide +kernel
theorem dX11_change_125 : decode cX11_change 125 = .ok (.putfield 87, 3) := by decide +kernel
theorem dX11_change_128 : decode cX11_change 128 = .ok (.aload_n 0, 1) := by decide +kernel
theorem dX11_change_129 : decode cX11_change 129 = .ok (.getfield 87, 3) := by decide +kernel
theorem dX11_change_132 : decode cX11_change 132 = .ok (.ifCond .le 5, 3) := by decide +kernel
theorem dX11_change_135 : decode cX11_change 135 = .ok (.iconst 0, 1) := by decide +kernel
theorem dX11_change_136 : decode cX11_change 136 = .ok (.ireturn, 1) := by decide +kernel
theorem dX11_change_137 : decode cX11_change 137 = .ok (.aload_n 0, 1) := by decide +kernel
theorem dX11_change_138 : decode cX11_change 138 = .ok (.aload_n 0, 1) := by decide +kernel
theorem dX11_change_139 : decode cX11_change 139 = .ok (.getfield 66, 3) := by decide +kernel
theorem dX11_change_142 : decode cX11_change 142 = .ok (.iconst 0, 1) := by decide +kernel
theorem dX11_change_143 : decode cX11_change 143 = .ok (.aload_n 0, 1) := by decide +kernel
theorem dX11_change_144 : decode cX11_change 144 = .ok (.getfield 168, 3) := by decide +kernel
theorem dX11_change_147 : decode cX11_change 147 = .ok (.aload_n 0, 1) := by decide +kernel
theorem dX11_change_148 : decode cX11_change 148 = .ok (.getfield 66, 3) := by decide +kernel
theorem dX11_change_151 : decode cX11_change 151 = .ok (.iconst 0, 1) := by decide +kernel
theorem dX11_change_152 : decode cX11_change 152 = .ok (.aload_n 0, 1) := by decide +kernel
theorem dX11_change_153 : decode cX11_change 153 = .ok (.getfield 168, 3) := by decide +kernel
theorem dX11_change_156 : decode cX11_change 156 = .ok (.iload_n 1, 1) := by decide +kernel
theorem dX11_change_157 : decode cX11_change 157 = .ok (.invokestatic 122, 3) := by decide +kernel
theorem dX11_change_160 : decode cX11_change 160 = .ok (.invokestatic 125, 3) := by decide +kernel
theorem dX11_change_163 : decode cX11_change 163 = .ok (.putfield 168, 3) := by decide +kernel
theorem dX11_change_166 : decode cX11_change 166 = .ok (.aload_n 0, 1) := by decide +kernel
theorem dX11_change_167 : decode cX11_change 167 = .ok (.aload_n 0, 1) := by decide +kernel
theorem dX11_change_168 : decode cX11_change 168 = .ok (.getfield 66, 3) := by decide +kernel
theorem dX11_change_171 : decode cX11_change 171 = .ok (.iconst 0, 1) := by decide +kernel
theorem dX11_change_172 : decode cX11_change 172 = .ok (.aload_n 0, 1) := by decide +kernel
theorem dX11_change_173 : decode cX11_change 173 = .ok (.getfield 168, 3) := by decide +kernel
theorem dX11_change_176 : decode cX11_change 176 = .ok (.iload 4, 2) := by decide +kernel
theorem dX11_change_178 : decode cX11_change 178 = .ok (.invokestatic 118, 3) := by decide +kernel
theorem dX11_change_181 : decode cX11_change 181 = .ok (.putfield 168, 3) := by decide +kernel
theorem dX11_change_184 : decode cX11_change 184 = .ok (.iload 4, 2) := by decide +kernel
theorem dX11_change_186 : decode cX11_change 186 = .ok (.ireturn, 1) := by decide +kernel
theorem dX11_draftRow_0 : decode cX11_draftRow 0 = .ok (.aload_n 0, 1) := by decide +kernel
theorem dX11_draftRow_1 : decode cX11_draftRow 1 = .ok (.aload_n 0, 1) := by decide +kernel
theorem dX11_draftRow_2 : decode cX11_draftRow 2 = .ok (.getfield 161, 3) := by decide +kernel
theorem dX11_draftRow_5 : decode cX11_draftRow 5 = .ok (.ifCond .ne 7, 3) := by decide +kernel
theorem dX11_draftRow_8 : decode cX11_draftRow 8 = .ok (.iconst 1, 1) := by decide +kernel
theorem dX11_draftRow_9 : decode cX11_draftRow 9 = .ok (.goto 12, 3) := by decide +kernel
theorem dX11_draftRow_12 : decode cX11_draftRow 12 = .ok (.iload_n 1, 1) := by decide +kernel
theorem dX11_draftRow_13 : decode cX11_draftRow 13 = .ok (.ifCond .ge 7, 3) := by decide +kernel
theorem dX11_draftRow_16 : decode cX11_draftRow 16 = .ok (.iconst 2, 1) := by decide +kernel
theorem dX11_draftRow_17 : decode cX11_draftRow 17 = .ok (.goto 4, 3) := by decide +kernel
theorem dX11_draftRow_20 : decode cX11_draftRow 20 = .ok (.iconst 0, 1) := by decide +kernel
theorem dX11_draftRow_21 : decode cX11_draftRow 21 = .ok (.putfield 87, 3) := by decide +kernel
theorem dX11_draftRow_24 : decode cX11_draftRow 24 = .ok (.aload_n 0, 1) := by decide +kernel
theorem dX11_draftRow_25 : decode cX11_draftRow 25 = .ok (.getfield 87, 3) := by decide +kernel
theorem dX11_draftRow_28 : decode cX11_draftRow 28 = .ok (.ifCond .le 7, 3) := by decide +kernel
theorem dX11_draftRow_31 : decode cX11_draftRow 31 = .ok (.iconst 0, 1) := by decide +kernel
theorem dX11_draftRow_32 : decode cX11_draftRow 32 = .ok (.goto 21, 3) := by decide +kernel
theorem dX11_draftRow_35 : decode cX11_draftRow 35 = .ok (.iload_n 1, 1) := by decide +kernel
theorem dX11_draftRow_36 : decode cX11_draftRow 36 = .ok (.aload_n 0, 1) := by decide +kernel
theorem dX11_draftRow_37 : decode cX11_draftRow 37 = .ok (.getfield 168, 3) := by decide +kernel
theorem dX11_draftRow_40 : decode cX11_draftRow 40 = .ok (.if_icmp .ge 12, 3) := by decide +kernel
theorem dX11_draftRow_43 : decode cX11_draftRow 43 = .ok (.aload_n 0, 1) := by decide +kernel
theorem dX11_draftRow_44 : decode cX11_draftRow 44 = .ok (.getfield 66, 3) := by decide +kernel
theorem dX11_draftRow_47 : decode cX11_draftRow 47 = .ok (.iload_n 1, 1) := by decide +kernel
theorem dX11_draftRow_48 : decode cX11_draftRow 48 = .ok (.iaload, 1) := by decide +kernel
theorem dX11_draftRow_49 : decode cX11_draftRow 49 = .ok (.goto 4, 3) := by decide +kernel
theorem dX11_draftRow_52 : decode cX11_draftRow 52 = .ok (.iconst (-1), 1) := by decide +kernel
theorem dX11_draftRow_53 : decode cX11_draftRow 53 = .ok (.ireturn, 1) := by decide +kernel
theorem dX11_tells_0 : decode cX11_tells 0 = .ok (.aload_n 0, 1) := by decide +kernel
theorem dX11_tells_1 : decode cX11_tells 1 = .ok (.bipush 10, 2) := by decide +kernel
theorem dX11_tells_3 : decode cX11_tells 3 = .ok (.iload_n 1, 1) := by decide +kernel
theorem dX11_tells_4 : decode cX11_tells 4 = .ok (.imul, 1) := by decide +kernel
theorem dX11_tells_5 : decode cX11_tells 5 = .ok (.iload_n 2, 1) := by decide +kernel
theorem dX11_tells_6 : decode cX11_tells 6 = .ok (.iadd, 1) := by decide +kernel
theorem dX11_tells_7 : decode cX11_tells 7 = .ok (.putfield 171, 3) := by decide +kernel
theorem dX11_tells_10 : decode cX11_tells 10 = .ok (.aload_n 0, 1) := by decide +kernel
theorem dX11_tells_11 : decode cX11_tells 11 = .ok (.iload_n 3, 1) := by decide +kernel
theorem dX11_tells_12 : decode cX11_tells 12 = .ok (.putfield 174, 3) := by decide +kernel
theorem dX11_tells_15 : decode cX11_tells 15 = .ok (.aload_n 0, 1) := by decide +kernel
theorem dX11_tells_16 : decode cX11_tells 16 = .ok (.iload 4, 2) := by decide +kernel
theorem dX11_tells_18 : decode cX11_tells 18 = .ok (.putfield 177, 3) := by decide +kernel
theorem dX11_tells_21 : decode cX11_tells 21 = .ok (.return_, 1) := by decide +kernel
theorem dX11_areAgainst_0 : decode cX11_areAgainst 0 = .ok (.iload 4, 2) := by decide +kernel
theorem dX11_areAgainst_2 : decode cX11_areAgainst 2 = .ok (.iconst 1, 1) := by decide +kernel
theorem dX11_areAgainst_3 : decode cX11_areAgainst 3 = .ok (.if_icmp .ne 34, 3) := by decide +kernel
theorem dX11_areAgainst_6 : decode cX11_areAgainst 6 = .ok (.aload_n 0, 1) := by decide +kernel
theorem dX11_areAgainst_7 : decode cX11_areAgainst 7 = .ok (.iload_n 2, 1) := by decide +kernel
theorem dX11_areAgainst_8 : decode cX11_areAgainst 8 = .ok (.aload_n 0, 1) := by decide +kernel
theorem dX11_areAgainst_9 : decode cX11_areAgainst 9 = .ok (.getfield 48, 3) := by decide +kernel
theorem dX11_areAgainst_12 : decode cX11_areAgainst 12 = .ok (.iload_n 1, 1) := by decide +kernel
theorem dX11_areAgainst_13 : decode cX11_areAgainst 13 = .ok (.iaload, 1) := by decide +kernel
theorem dX11_areAgainst_14 : decode cX11_areAgainst 14 = .ok (.invokevirtual 100, 3) := by decide +kernel
theorem dX11_areAgainst_17 : decode cX11_areAgainst 17 = .ok (.aload_n 0, 1) := by decide +kernel
theorem dX11_areAgainst_18 : decode cX11_areAgainst 18 = .ok (.iload_n 3, 1) := by decide +kernel
theorem dX11_areAgainst_19 : decode cX11_areAgainst 19 = .ok (.aload_n 0, 1) := by decide +kernel
theorem dX11_areAgainst_20 : decode cX11_areAgainst 20 = .ok (.getfield 48, 3) := by decide +kernel
theorem dX11_areAgainst_23 : decode cX11_areAgainst 23 = .ok (.iload_n 1, 1) := by decide +kernel
theorem dX11_areAgainst_24 : decode cX11_areAgainst 24 = .ok (.iaload, 1) := by decide +kernel
theorem dX11_areAgainst_25 : decode cX11_areAgainst 25 = .ok (.invokevirtual 100, 3) := by decide +kernel
theorem dX11_areAgainst_28 : decode cX11_areAgainst 28 = .ok (.if_icmp .ne 7, 3) := by decide +kernel
theorem dX11_areAgainst_31 : decode cX11_areAgainst 31 = .ok (.iconst 1, 1) := by decide +kernel
theorem dX11_areAgainst_32 : decode cX11_areAgainst 32 = .ok (.goto 4, 3) := by decide +kernel
theorem dX11_areAgainst_35 : decode cX11_areAgainst 35 = .ok (.iconst 0, 1) := by decide +kernel
theorem dX11_areAgainst_36 : decode cX11_areAgainst 36 = .ok (.ireturn, 1) := by decide +kernel
theorem dX11_areAgainst_37 : decode cX11_areAgainst 37 = .ok (.aload_n 0, 1) := by decide +kernel
theorem dX11_areAgainst_38 : decode cX11_areAgainst 38 = .ok (.getfield 32, 3) := by decide +kernel
theorem dX11_areAgainst_41 : decode cX11_areAgainst 41 = .ok (.iload_n 1, 1) := by decide +kernel
theorem dX11_areAgainst_42 : decode cX11_areAgainst 42 = .ok (.iaload, 1) := by decide +kernel
theorem dX11_areAgainst_43 : decode cX11_areAgainst 43 = .ok (.istore 5, 2) := by decide +kernel
theorem dX11_areAgainst_45 : decode cX11_areAgainst 45 = .ok (.aload_n 0, 1) := by decide +kernel
theorem dX11_areAgainst_46 : decode cX11_areAgainst 46 = .ok (.iload_n 2, 1) := by decide +kernel
theorem dX11_areAgainst_47 : decode cX11_areAgainst 47 = .ok (.aload_n 0, 1) := by decide +kernel
theorem dX11_areAgainst_48 : decode cX11_areAgainst 48 = .ok (.getfield 48, 3) := by decide +kernel
theorem dX11_areAgainst_51 : decode cX11_areAgainst 51 = .ok (.iload 5, 2) := by decide +kernel
theorem dX11_areAgainst_53 : decode cX11_areAgainst 53 = .ok (.iaload, 1) := by decide +kernel
theorem dX11_areAgainst_54 : decode cX11_areAgainst 54 = .ok (.invokevirtual 100, 3) := by decide +kernel
theorem dX11_areAgainst_57 : decode cX11_areAgainst 57 = .ok (.aload_n 0, 1) := by decide +kernel
theorem dX11_areAgainst_58 : decode cX11_areAgainst 58 = .ok (.iload_n 3, 1) := by decide +kernel
theorem dX11_areAgainst_59 : decode cX11_areAgainst 59 = .ok (.aload_n 0, 1) := by decide +kernel
theorem dX11_areAgainst_60 : decode cX11_areAgainst 60 = .ok (.getfield 48, 3) := by decide +kernel
theorem dX11_areAgainst_63 : decode cX11_areAgainst 63 = .ok (.iload 5, 2) := by decide +kernel
theorem dX11_areAgainst_65 : decode cX11_areAgainst 65 = .ok (.iaload, 1) := by decide +kernel
theorem dX11_areAgainst_66 : decode cX11_areAgainst 66 = .ok (.invokevirtual 100, 3) := by decide +kernel
theorem dX11_areAgainst_69 : decode cX11_areAgainst 69 = .ok (.if_icmp .ne 34, 3) := by decide +kernel
theorem dX11_areAgainst_72 : decode cX11_areAgainst 72 = .ok (.aload_n 0, 1) := by decide +kernel
theorem dX11_areAgainst_73 : decode cX11_areAgainst 73 = .ok (.iload_n 2, 1) := by decide +kernel
theorem dX11_areAgainst_74 : decode cX11_areAgainst 74 = .ok (.aload_n 0, 1) := by decide +kernel
theorem dX11_areAgainst_75 : decode cX11_areAgainst 75 = .ok (.getfield 45, 3) := by decide +kernel
theorem dX11_areAgainst_78 : decode cX11_areAgainst 78 = .ok (.iload 5, 2) := by decide +kernel
theorem dX11_areAgainst_80 : decode cX11_areAgainst 80 = .ok (.iaload, 1) := by decide +kernel
theorem dX11_areAgainst_81 : decode cX11_areAgainst 81 = .ok (.invokevirtual 100, 3) := by decide +kernel
theorem dX11_areAgainst_84 : decode cX11_areAgainst 84 = .ok (.aload_n 0, 1) := by decide +kernel
theorem dX11_areAgainst_85 : decode cX11_areAgainst 85 = .ok (.iload_n 3, 1) := by decide +kernel
theorem dX11_areAgainst_86 : decode cX11_areAgainst 86 = .ok (.aload_n 0, 1) := by decide +kernel
theorem dX11_areAgainst_87 : decode cX11_areAgainst 87 = .ok (.getfield 45, 3) := by decide +kernel
theorem dX11_areAgainst_90 : decode cX11_areAgainst 90 = .ok (.iload 5, 2) := by decide +kernel
theorem dX11_areAgainst_92 : decode cX11_areAgainst 92 = .ok (.iaload, 1) := by decide +kernel
theorem dX11_areAgainst_93 : decode cX11_areAgainst 93 = .ok (.invokevirtual 100, 3) := by decide +kernel
theorem dX11_areAgainst_96 : decode cX11_areAgainst 96 = .ok (.if_icmp .eq 7, 3) := by decide +kernel
theorem dX11_areAgainst_99 : decode cX11_areAgainst 99 = .ok (.iconst 1, 1) := by decide +kernel
theorem dX11_areAgainst_100 : decode cX11_areAgainst 100 = .ok (.goto 4, 3) := by decide +kernel
theorem dX11_areAgainst_103 : decode cX11_areAgainst 103 = .ok (.iconst 0, 1) := by decide +kernel
theorem dX11_areAgainst_104 : decode cX11_areAgainst 104 = .ok (.ireturn, 1) := by decide +kernel
theorem dX11_looksForTwo_0 : decode cX11_looksForTwo 0 = .ok (.iconst 0, 1) := by decide +kernel
theorem dX11_looksForTwo_1 : decode cX11_looksForTwo 1 = .ok (.istore_n 3, 1) := by decide +kernel
theorem dX11_looksForTwo_2 : decode cX11_looksForTwo 2 = .ok (.iload_n 3, 1) := by decide +kernel
theorem dX11_looksForTwo_3 : decode cX11_looksForTwo 3 = .ok (.aload_n 0, 1) := by decide +kernel
theorem dX11_looksForTwo_4 : decode cX11_looksForTwo 4 = .ok (.getfield 60, 3) := by decide +kernel
theorem dX11_looksForTwo_7 : decode cX11_looksForTwo 7 = .ok (.iload_n 1, 1) := by decide +kernel
theorem dX11_looksForTwo_8 : decode cX11_looksForTwo 8 = .ok (.iaload, 1) := by decide +kernel
theorem dX11_looksForTwo_9 : decode cX11_looksForTwo 9 = .ok (.if_icmp .ge 95, 3) := by decide +kernel
theorem dX11_looksForTwo_12 : decode cX11_looksForTwo 12 = .ok (.aload_n 0, 1) := by decide +kernel
theorem dX11_looksForTwo_13 : decode cX11_looksForTwo 13 = .ok (.getfield 171, 3) := by decide +kernel
theorem dX11_looksForTwo_16 : decode cX11_looksForTwo 16 = .ok (.ifCond .ne 88, 3) := by decide +kernel
theorem dX11_looksForTwo_19 : decode cX11_looksForTwo 19 = .ok (.iload_n 3, 1) := by decide +kernel
theorem dX11_looksForTwo_20 : decode cX11_looksForTwo 20 = .ok (.iconst 1, 1) := by decide +kernel
theorem dX11_looksForTwo_21 : decode cX11_looksForTwo 21 = .ok (.iadd, 1) := by decide +kernel
theorem dX11_looksForTwo_22 : decode cX11_looksForTwo 22 = .ok (.istore 4, 2) := by decide +kernel
theorem dX11_looksForTwo_24 : decode cX11_looksForTwo 24 = .ok (.iload 4, 2) := by decide +kernel
theorem dX11_looksForTwo_26 : decode cX11_looksForTwo 26 = .ok (.aload_n 0, 1) := by decide +kernel
theorem dX11_looksForTwo_27 : decode cX11_looksForTwo 27 = .ok (.getfield 60, 3) := by decide +kernel
theorem dX11_looksForTwo_30 : decode cX11_looksForTwo 30 = .ok (.iload_n 1, 1) := by decide +kernel
theorem dX11_looksForTwo_31 : decode cX11_looksForTwo 31 = .ok (.iaload, 1) := by decide +kernel
theorem dX11_looksForTwo_32 : decode cX11_looksForTwo 32 = .ok (.if_icmp .ge 66, 3) := by decide +kernel
theorem dX11_looksForTwo_35 : decode cX11_looksForTwo 35 = .ok (.aload_n 0, 1) := by decide +kernel
theorem dX11_looksForTwo_36 : decode cX11_looksForTwo 36 = .ok (.getfield 171, 3) := by decide +kernel
theorem dX11_looksForTwo_39 : decode cX11_looksForTwo 39 = .ok (.ifCond .ne 59, 3) := by decide +kernel
theorem dX11_looksForTwo_42 : decode cX11_looksForTwo 42 = .ok (.aload_n 0, 1) := by decide +kernel
theorem dX11_looksForTwo_43 : decode cX11_looksForTwo 43 = .ok (.getfield 63, 3) := by decide +kernel
theorem dX11_looksForTwo_46 : decode cX11_looksForTwo 46 = .ok (.bipush 40, 2) := by decide +kernel
theorem dX11_looksForTwo_48 : decode cX11_looksForTwo 48 = .ok (.iload_n 1, 1) := by decide +kernel
theorem dX11_looksForTwo_49 : decode cX11_looksForTwo 49 = .ok (.imul, 1) := by decide +kernel
theorem dX11_looksForTwo_50 : decode cX11_looksForTwo 50 = .ok (.iload_n 3, 1) := by decide +kernel
theorem dX11_looksForTwo_51 : decode cX11_looksForTwo 51 = .ok (.iadd, 1) := by decide +kernel
theorem dX11_looksForTwo_52 : decode cX11_looksForTwo 52 = .ok (.iaload, 1) := by decide +kernel
theorem dX11_looksForTwo_53 : decode cX11_looksForTwo 53 = .ok (.istore 5, 2) := by decide +kernel
theorem dX11_looksForTwo_55 : decode cX11_looksForTwo 55 = .ok (.aload_n 0, 1) := by decide +kernel
theorem dX11_looksForTwo_56 : decode cX11_looksForTwo 56 = .ok (.getfield 63, 3) := by decide +kernel
theorem dX11_looksForTwo_59 : decode cX11_looksForTwo 59 = .ok (.bipush 40, 2) := by decide +kernel
theorem dX11_looksForTwo_61 : decode cX11_looksForTwo 61 = .ok (.iload_n 1, 1) := by decide +kernel
theorem dX11_looksForTwo_62 : decode cX11_looksForTwo 62 = .ok (.imul, 1) := by decide +kernel
theorem dX11_looksForTwo_63 : decode cX11_looksForTwo 63 = .ok (.iload 4, 2) := by decide +kernel
theorem dX11_looksForTwo_65 : decode cX11_looksForTwo 65 = .ok (.iadd, 1) := by decide +kernel
theorem dX11_looksForTwo_66 : decode cX11_looksForTwo 66 = .ok (.iaload, 1) := by decide +kernel
theorem dX11_looksForTwo_67 : decode cX11_looksForTwo 67 = .ok (.istore 6, 2) := by decide +kernel
theorem dX11_looksForTwo_69 : decode cX11_looksForTwo 69 = .ok (.aload_n 0, 1) := by decide +kernel
theorem dX11_looksForTwo_70 : decode cX11_looksForTwo 70 = .ok (.iload_n 1, 1) := by decide +kernel
theorem dX11_looksForTwo_71 : decode cX11_looksForTwo 71 = .ok (.iload 5, 2) := by decide +kernel
theorem dX11_looksForTwo_73 : decode cX11_looksForTwo 73 = .ok (.iload 6, 2) := by decide +kernel
theorem dX11_looksForTwo_75 : decode cX11_looksForTwo 75 = .ok (.iload_n 2, 1) := by decide +kernel
theorem dX11_looksForTwo_76 : decode cX11_looksForTwo 76 = .ok (.invokevirtual 180, 3) := by decide +kernel
theorem dX11_looksForTwo_79 : decode cX11_looksForTwo 79 = .ok (.ifCond .eq 13, 3) := by decide +kernel
theorem dX11_looksForTwo_82 : decode cX11_looksForTwo 82 = .ok (.aload_n 0, 1) := by decide +kernel
theorem dX11_looksForTwo_83 : decode cX11_looksForTwo 83 = .ok (.iload_n 1, 1) := by decide +kernel
theorem dX11_looksForTwo_84 : decode cX11_looksForTwo 84 = .ok (.iload_n 2, 1) := by decide +kernel
theorem dX11_looksForTwo_85 : decode cX11_looksForTwo 85 = .ok (.iload 5, 2) := by decide +kernel
theorem dX11_looksForTwo_87 : decode cX11_looksForTwo 87 = .ok (.iload 6, 2) := by decide +kernel
theorem dX11_looksForTwo_89 : decode cX11_looksForTwo 89 = .ok (.invokevirtual 184, 3) := by decide +kernel
theorem dX11_looksForTwo_92 : decode cX11_looksForTwo 92 = .ok (.iinc 4 1, 3) := by decide +kernel
theorem dX11_looksForTwo_95 : decode cX11_looksForTwo 95 = .ok (.goto (-71), 3) := by decide +kernel
theorem dX11_looksForTwo_98 : decode cX11_looksForTwo 98 = .ok (.iinc 3 1, 3) := by decide +kernel
theorem dX11_looksForTwo_101 : decode cX11_looksForTwo 101 = .ok (.goto (-99), 3) := by decide +kernel
theorem dX11_looksForTwo_104 : decode cX11_looksForTwo 104 = .ok (.return_, 1) := by decide +kernel
theorem dX11_looks_0 : decode cX11_looks 0 = .ok (.aload_n 0, 1) := by decide +kernel
theorem dX11_looks_1 : decode cX11_looks 1 = .ok (.iload_n 1, 1) := by decide +kernel
theorem dX11_looks_2 : decode cX11_looks 2 = .ok (.iconst 1, 1) := by decide +kernel
theorem dX11_looks_3 : decode cX11_looks 3 = .ok (.invokevirtual 188, 3) := by decide +kernel
theorem dX11_looks_6 : decode cX11_looks 6 = .ok (.iconst 0, 1) := by decide +kernel
theorem dX11_looks_7 : decode cX11_looks 7 = .ok (.istore_n 2, 1) := by decide +kernel
theorem dX11_looks_8 : decode cX11_looks 8 = .ok (.iload_n 2, 1) := by decide +kernel
theorem dX11_looks_9 : decode cX11_looks 9 = .ok (.aload_n 0, 1) := by decide +kernel
theorem dX11_looks_10 : decode cX11_looks 10 = .ok (.getfield 60, 3) := by decide +kernel
theorem dX11_looks_13 : decode cX11_looks 13 = .ok (.iload_n 1, 1) := by decide +kernel
theorem dX11_looks_14 : decode cX11_looks 14 = .ok (.iaload, 1) := by decide +kernel
theorem dX11_looks_15 : decode cX11_looks 15 = .ok (.if_icmp .ge 63, 3) := by decide +kernel
theorem dX11_looks_18 : decode cX11_looks 18 = .ok (.aload_n 0, 1) := by decide +kernel
theorem dX11_looks_19 : decode cX11_looks 19 = .ok (.getfield 171, 3) := by decide +kernel
theorem dX11_looks_22 : decode cX11_looks 22 = .ok (.ifCond .ne 56, 3) := by decide +kernel
theorem dX11_looks_25 : decode cX11_looks 25 = .ok (.aload_n 0, 1) := by decide +kernel
theorem dX11_looks_26 : decode cX11_looks 26 = .ok (.getfield 26, 3) := by decide +kernel
theorem dX11_looks_29 : decode cX11_looks 29 = .ok (.iload_n 1, 1) := by decide +kernel
theorem dX11_looks_30 : decode cX11_looks 30 = .ok (.iaload, 1) := by decide +kernel
theorem dX11_looks_31 : decode cX11_looks 31 = .ok (.iconst 1, 1) := by decide +kernel
theorem dX11_looks_32 : decode cX11_looks 32 = .ok (.if_icmp .ne 46, 3) := by decide +kernel
theorem dX11_looks_35 : decode cX11_looks 35 = .ok (.aload_n 0, 1) := by decide +kernel
theorem dX11_looks_36 : decode cX11_looks 36 = .ok (.iload_n 1, 1) := by decide +kernel
theorem dX11_looks_37 : decode cX11_looks 37 = .ok (.aload_n 0, 1) := by decide +kernel
theorem dX11_looks_38 : decode cX11_looks 38 = .ok (.getfield 63, 3) := by decide +kernel
theorem dX11_looks_41 : decode cX11_looks 41 = .ok (.bipush 40, 2) := by decide +kernel
theorem dX11_looks_43 : decode cX11_looks 43 = .ok (.iload_n 1, 1) := by decide +kernel
theorem dX11_looks_44 : decode cX11_looks 44 = .ok (.imul, 1) := by decide +kernel
theorem dX11_looks_45 : decode cX11_looks 45 = .ok (.iload_n 2, 1) := by decide +kernel
theorem dX11_looks_46 : decode cX11_looks 46 = .ok (.iadd, 1) := by decide +kernel
theorem dX11_looks_47 : decode cX11_looks 47 = .ok (.iaload, 1) := by decide +kernel
theorem dX11_looks_48 : decode cX11_looks 48 = .ok (.invokevirtual 149, 3) := by decide +kernel
theorem dX11_looks_51 : decode cX11_looks 51 = .ok (.ifCond .ne 21, 3) := by decide +kernel
theorem dX11_looks_54 : decode cX11_looks 54 = .ok (.aload_n 0, 1) := by decide +kernel
theorem dX11_looks_55 : decode cX11_looks 55 = .ok (.iload_n 1, 1) := by decide +kernel
theorem dX11_looks_56 : decode cX11_looks 56 = .ok (.iconst 2, 1) := by decide +kernel
theorem dX11_looks_57 : decode cX11_looks 57 = .ok (.aload_n 0, 1) := by decide +kernel
theorem dX11_looks_58 : decode cX11_looks 58 = .ok (.getfield 63, 3) := by decide +kernel
theorem dX11_looks_61 : decode cX11_looks 61 = .ok (.bipush 40, 2) := by decide +kernel
theorem dX11_looks_63 : decode cX11_looks 63 = .ok (.iload_n 1, 1) := by decide +kernel
theorem dX11_looks_64 : decode cX11_looks 64 = .ok (.imul, 1) := by decide +kernel
theorem dX11_looks_65 : decode cX11_looks 65 = .ok (.iload_n 2, 1) := by decide +kernel
theorem dX11_looks_66 : decode cX11_looks 66 = .ok (.iadd, 1) := by decide +kernel
theorem dX11_looks_67 : decode cX11_looks 67 = .ok (.iaload, 1) := by decide +kernel
theorem dX11_looks_68 : decode cX11_looks 68 = .ok (.iconst (-1), 1) := by decide +kernel
theorem dX11_looks_69 : decode cX11_looks 69 = .ok (.invokevirtual 184, 3) := by decide +kernel
theorem dX11_looks_72 : decode cX11_looks 72 = .ok (.iinc 2 1, 3) := by decide +kernel
theorem dX11_looks_75 : decode cX11_looks 75 = .ok (.goto (-67), 3) := by decide +kernel
theorem dX11_looks_78 : decode cX11_looks 78 = .ok (.aload_n 0, 1) := by decide +kernel
theorem dX11_looks_79 : decode cX11_looks 79 = .ok (.getfield 171, 3) := by decide +kernel
theorem dX11_looks_82 : decode cX11_looks 82 = .ok (.ifCond .ne 19, 3) := by decide +kernel
theorem dX11_looks_85 : decode cX11_looks 85 = .ok (.aload_n 0, 1) := by decide +kernel
theorem dX11_looks_86 : decode cX11_looks 86 = .ok (.getfield 26, 3) := by decide +kernel
theorem dX11_looks_89 : decode cX11_looks 89 = .ok (.iload_n 1, 1) := by decide +kernel
theorem dX11_looks_90 : decode cX11_looks 90 = .ok (.iaload, 1) := by decide +kernel
theorem dX11_looks_91 : decode cX11_looks 91 = .ok (.iconst 3, 1) := by decide +kernel
theorem dX11_looks_92 : decode cX11_looks 92 = .ok (.if_icmp .ne 9, 3) := by decide +kernel
theorem dX11_looks_95 : decode cX11_looks 95 = .ok (.aload_n 0, 1) := by decide +kernel
theorem dX11_looks_96 : decode cX11_looks 96 = .ok (.iload_n 1, 1) := by decide +kernel
theorem dX11_looks_97 : decode cX11_looks 97 = .ok (.iconst 3, 1) := by decide +kernel
theorem dX11_looks_98 : decode cX11_looks 98 = .ok (.invokevirtual 188, 3) := by decide +kernel
theorem dX11_looks_101 : decode cX11_looks 101 = .ok (.aload_n 0, 1) := by decide +kernel
theorem dX11_looks_102 : decode cX11_looks 102 = .ok (.getfield 171, 3) := by decide +kernel
theorem dX11_looks_105 : decode cX11_looks 105 = .ok (.ifCond .ne 31, 3) := by decide +kernel
theorem dX11_looks_108 : decode cX11_looks 108 = .ok (.aload_n 0, 1) := by decide +kernel
theorem dX11_looks_109 : decode cX11_looks 109 = .ok (.getfield 26, 3) := by decide +kernel
theorem dX11_looks_112 : decode cX11_looks 112 = .ok (.iload_n 1, 1) := by decide +kernel
theorem dX11_looks_113 : decode cX11_looks 113 = .ok (.iaload, 1) := by decide +kernel
theorem dX11_looks_114 : decode cX11_looks 114 = .ok (.ifCond .ne 22, 3) := by decide +kernel
theorem dX11_looks_117 : decode cX11_looks 117 = .ok (.aload_n 0, 1) := by decide +kernel
theorem dX11_looks_118 : decode cX11_looks 118 = .ok (.getfield 60, 3) := by decide +kernel
theorem dX11_looks_121 : decode cX11_looks 121 = .ok (.iload_n 1, 1) := by decide +kernel
theorem dX11_looks_122 : decode cX11_looks 122 = .ok (.iaload, 1) := by decide +kernel
theorem dX11_looks_123 : decode cX11_looks 123 = .ok (.bipush 12, 2) := by decide +kernel
theorem dX11_looks_125 : decode cX11_looks 125 = .ok (.if_icmp .le 11, 3) := by decide +kernel
theorem dX11_looks_128 : decode cX11_looks 128 = .ok (.aload_n 0, 1) := by decide +kernel
theorem dX11_looks_129 : decode cX11_looks 129 = .ok (.iload_n 1, 1) := by decide +kernel
theorem dX11_looks_130 : decode cX11_looks 130 = .ok (.iconst 4, 1) := by decide +kernel
theorem dX11_looks_131 : decode cX11_looks 131 = .ok (.iconst (-1), 1) := by decide +kernel
theorem dX11_looks_132 : decode cX11_looks 132 = .ok (.iconst (-1), 1) := by decide +kernel
theorem dX11_looks_133 : decode cX11_looks 133 = .ok (.invokevirtual 184, 3) := by decide +kernel
theorem dX11_looks_136 : decode cX11_looks 136 = .ok (.return_, 1) := by decide +kernel
theorem dX11_isFree_0 : decode cX11_isFree 0 = .ok (.aload_n 0, 1) := by decide +kernel
theorem dX11_isFree_1 : decode cX11_isFree 1 = .ok (.aload_n 0, 1) := by decide +kernel
theorem dX11_isFree_2 : decode cX11_isFree 2 = .ok (.getfield 63, 3) := by decide +kernel
theorem dX11_isFree_5 : decode cX11_isFree 5 = .ok (.bipush 40, 2) := by decide +kernel
theorem dX11_isFree_7 : decode cX11_isFree 7 = .ok (.iload_n 1, 1) := by decide +kernel
theorem dX11_isFree_8 : decode cX11_isFree 8 = .ok (.imul, 1) := by decide +kernel
theorem dX11_isFree_9 : decode cX11_isFree 9 = .ok (.aload_n 0, 1) := by decide +kernel
theorem dX11_isFree_10 : decode cX11_isFree 10 = .ok (.getfield 60, 3) := by decide +kernel
theorem dX11_isFree_13 : decode cX11_isFree 13 = .ok (.iload_n 1, 1) := by decide +kernel
theorem dX11_isFree_14 : decode cX11_isFree 14 = .ok (.iaload, 1) := by decide +kernel
theorem dX11_isFree_15 : decode cX11_isFree 15 = .ok (.aload_n 0, 1) := by decide +kernel
theorem dX11_isFree_16 : decode cX11_isFree 16 = .ok (.getfield 48, 3) := by decide +kernel
theorem dX11_isFree_19 : decode cX11_isFree 19 = .ok (.iload_n 1, 1) := by decide +kernel
theorem dX11_isFree_20 : decode cX11_isFree 20 = .ok (.iaload, 1) := by decide +kernel
theorem dX11_isFree_21 : decode cX11_isFree 21 = .ok (.aload_n 0, 1) := by decide +kernel
theorem dX11_isFree_22 : decode cX11_isFree 22 = .ok (.iload_n 2, 1) := by decide +kernel
theorem dX11_isFree_23 : decode cX11_isFree 23 = .ok (.aload_n 0, 1) := by decide +kernel
theorem dX11_isFree_24 : decode cX11_isFree 24 = .ok (.getfield 48, 3) := by decide +kernel
theorem dX11_isFree_27 : decode cX11_isFree 27 = .ok (.iload_n 1, 1) := by decide +kernel
theorem dX11_isFree_28 : decode cX11_isFree 28 = .ok (.iaload, 1) := by decide +kernel
theorem dX11_isFree_29 : decode cX11_isFree 29 = .ok (.invokevirtual 100, 3) := by decide +kernel
theorem dX11_isFree_32 : decode cX11_isFree 32 = .ok (.invokevirtual 114, 3) := by decide +kernel
theorem dX11_isFree_35 : decode cX11_isFree 35 = .ok (.iconst (-1), 1) := by decide +kernel
theorem dX11_isFree_36 : decode cX11_isFree 36 = .ok (.if_icmp .ne 7, 3) := by decide +kernel
theorem dX11_isFree_39 : decode cX11_isFree 39 = .ok (.iconst 1, 1) := by decide +kernel
theorem dX11_isFree_40 : decode cX11_isFree 40 = .ok (.goto 4, 3) := by decide +kernel
theorem dX11_isFree_43 : decode cX11_isFree 43 = .ok (.iconst 0, 1) := by decide +kernel
theorem dX11_isFree_44 : decode cX11_isFree 44 = .ok (.ireturn, 1) := by decide +kernel
theorem dX11_putsRow_0 : decode cX11_putsRow 0 = .ok (.aload_n 0, 1) := by decide +kernel
theorem dX11_putsRow_1 : decode cX11_putsRow 1 = .ok (.getfield 60, 3) := by decide +kernel
theorem dX11_putsRow_4 : decode cX11_putsRow 4 = .ok (.iload_n 1, 1) := by decide +kernel
theorem dX11_putsRow_5 : decode cX11_putsRow 5 = .ok (.aload_n 0, 1) := by decide +kernel
theorem dX11_putsRow_6 : decode cX11_putsRow 6 = .ok (.getfield 63, 3) := by decide +kernel
theorem dX11_putsRow_9 : decode cX11_putsRow 9 = .ok (.bipush 40, 2) := by decide +kernel
theorem dX11_putsRow_11 : decode cX11_putsRow 11 = .ok (.iload_n 1, 1) := by decide +kernel
theorem dX11_putsRow_12 : decode cX11_putsRow 12 = .ok (.imul, 1) := by decide +kernel
theorem dX11_putsRow_13 : decode cX11_putsRow 13 = .ok (.aload_n 0, 1) := by decide +kernel
theorem dX11_putsRow_14 : decode cX11_putsRow 14 = .ok (.getfield 60, 3) := by decide +kernel
theorem dX11_putsRow_17 : decode cX11_putsRow 17 = .ok (.iload_n 1, 1) := by decide +kernel
theorem dX11_putsRow_18 : decode cX11_putsRow 18 = .ok (.iaload, 1) := by decide +kernel
theorem dX11_putsRow_19 : decode cX11_putsRow 19 = .ok (.iload_n 2, 1) := by decide +kernel
theorem dX11_putsRow_20 : decode cX11_putsRow 20 = .ok (.invokestatic 118, 3) := by decide +kernel
theorem dX11_putsRow_23 : decode cX11_putsRow 23 = .ok (.iastore, 1) := by decide +kernel
theorem dX11_putsRow_24 : decode cX11_putsRow 24 = .ok (.return_, 1) := by decide +kernel
theorem dX11_putsTable_0 : decode cX11_putsTable 0 = .ok (.aload_n 0, 1) := by decide +kernel
theorem dX11_putsTable_1 : decode cX11_putsTable 1 = .ok (.getfield 29, 3) := by decide +kernel
theorem dX11_putsTable_4 : decode cX11_putsTable 4 = .ok (.iload_n 1, 1) := by decide +kernel
theorem dX11_putsTable_5 : decode cX11_putsTable 5 = .ok (.iaload, 1) := by decide +kernel
theorem dX11_putsTable_6 : decode cX11_putsTable 6 = .ok (.istore_n 2, 1) := by decide +kernel
theorem dX11_putsTable_7 : decode cX11_putsTable 7 = .ok (.aload_n 0, 1) := by decide +kernel
theorem dX11_putsTable_8 : decode cX11_putsTable 8 = .ok (.getfield 69, 3) := by decide +kernel
theorem dX11_putsTable_11 : decode cX11_putsTable 11 = .ok (.iload_n 2, 1) := by decide +kernel
theorem dX11_putsTable_12 : decode cX11_putsTable 12 = .ok (.aload_n 0, 1) := by decide +kernel
theorem dX11_putsTable_13 : decode cX11_putsTable 13 = .ok (.getfield 60, 3) := by decide +kernel
theorem dX11_putsTable_16 : decode cX11_putsTable 16 = .ok (.iload_n 1, 1) := by decide +kernel
theorem dX11_putsTable_17 : decode cX11_putsTable 17 = .ok (.iaload, 1) := by decide +kernel
theorem dX11_putsTable_18 : decode cX11_putsTable 18 = .ok (.iastore, 1) := by decide +kernel
theorem dX11_putsTable_19 : decode cX11_putsTable 19 = .ok (.iconst 0, 1) := by decide +kernel
theorem dX11_putsTable_20 : decode cX11_putsTable 20 = .ok (.istore_n 3, 1) := by decide +kernel
theorem dX11_putsTable_21 : decode cX11_putsTable 21 = .ok (.iload_n 3, 1) := by decide +kernel
theorem dX11_putsTable_22 : decode cX11_putsTable 22 = .ok (.aload_n 0, 1) := by decide +kernel
theorem dX11_putsTable_23 : decode cX11_putsTable 23 = .ok (.getfield 60, 3) := by decide +kernel
theorem dX11_putsTable_26 : decode cX11_putsTable 26 = .ok (.iload_n 1, 1) := by decide +kernel
theorem dX11_putsTable_27 : decode cX11_putsTable 27 = .ok (.iaload, 1) := by decide +kernel
theorem dX11_putsTable_28 : decode cX11_putsTable 28 = .ok (.if_icmp .ge 31, 3) := by decide +kernel
theorem dX11_putsTable_31 : decode cX11_putsTable 31 = .ok (.aload_n 0, 1) := by decide +kernel
theorem dX11_putsTable_32 : decode cX11_putsTable 32 = .ok (.getfield 72, 3) := by decide +kernel
theorem dX11_putsTable_35 : decode cX11_putsTable 35 = .ok (.bipush 12, 2) := by decide +kernel
theorem dX11_putsTable_37 : decode cX11_putsTable 37 = .ok (.iload_n 2, 1) := by decide +kernel
theorem dX11_putsTable_38 : decode cX11_putsTable 38 = .ok (.imul, 1) := by decide +kernel
theorem dX11_putsTable_39 : decode cX11_putsTable 39 = .ok (.iload_n 3, 1) := by decide +kernel
theorem dX11_putsTable_40 : decode cX11_putsTable 40 = .ok (.iadd, 1) := by decide +kernel
theorem dX11_putsTable_41 : decode cX11_putsTable 41 = .ok (.aload_n 0, 1) := by decide +kernel
theorem dX11_putsTable_42 : decode cX11_putsTable 42 = .ok (.getfield 63, 3) := by decide +kernel
theorem dX11_putsTable_45 : decode cX11_putsTable 45 = .ok (.bipush 40, 2) := by decide +kernel
theorem dX11_putsTable_47 : decode cX11_putsTable 47 = .ok (.iload_n 1, 1) := by decide +kernel
theorem dX11_putsTable_48 : decode cX11_putsTable 48 = .ok (.imul, 1) := by decide +kernel
theorem dX11_putsTable_49 : decode cX11_putsTable 49 = .ok (.iload_n 3, 1) := by decide +kernel
theorem dX11_putsTable_50 : decode cX11_putsTable 50 = .ok (.iadd, 1) := by decide +kernel
theorem dX11_putsTable_51 : decode cX11_putsTable 51 = .ok (.iaload, 1) := by decide +kernel
theorem dX11_putsTable_52 : decode cX11_putsTable 52 = .ok (.iastore, 1) := by decide +kernel
theorem dX11_putsTable_53 : decode cX11_putsTable 53 = .ok (.iinc 3 1, 3) := by decide +kernel
theorem dX11_putsTable_56 : decode cX11_putsTable 56 = .ok (.goto (-35), 3) := by decide +kernel
theorem dX11_putsTable_59 : decode cX11_putsTable 59 = .ok (.return_, 1) := by decide +kernel
theorem dX11_putsOne_0 : decode cX11_putsOne 0 = .ok (.aload_n 0, 1) := by decide +kernel
theorem dX11_putsOne_1 : decode cX11_putsOne 1 = .ok (.getfield 29, 3) := by decide +kernel
theorem dX11_putsOne_4 : decode cX11_putsOne 4 = .ok (.iload_n 1, 1) := by decide +kernel
theorem dX11_putsOne_5 : decode cX11_putsOne 5 = .ok (.iaload, 1) := by decide +kernel
theorem dX11_putsOne_6 : decode cX11_putsOne 6 = .ok (.istore_n 2, 1) := by decide +kernel
theorem dX11_putsOne_7 : decode cX11_putsOne 7 = .ok (.aload_n 0, 1) := by decide +kernel
theorem dX11_putsOne_8 : decode cX11_putsOne 8 = .ok (.getfield 60, 3) := by decide +kernel
theorem dX11_putsOne_11 : decode cX11_putsOne 11 = .ok (.iload_n 2, 1) := by decide +kernel
theorem dX11_putsOne_12 : decode cX11_putsOne 12 = .ok (.iconst 0, 1) := by decide +kernel
theorem dX11_putsOne_13 : decode cX11_putsOne 13 = .ok (.iastore, 1) := by decide +kernel
theorem dX11_putsOne_14 : decode cX11_putsOne 14 = .ok (.iconst 0, 1) := by decide +kernel
theorem dX11_putsOne_15 : decode cX11_putsOne 15 = .ok (.istore_n 3, 1) := by decide +kernel
theorem dX11_putsOne_16 : decode cX11_putsOne 16 = .ok (.iload_n 3, 1) := by decide +kernel
theorem dX11_putsOne_17 : decode cX11_putsOne 17 = .ok (.aload_n 0, 1) := by decide +kernel
theorem dX11_putsOne_18 : decode cX11_putsOne 18 = .ok (.getfield 60, 3) := by decide +kernel
theorem dX11_putsOne_21 : decode cX11_putsOne 21 = .ok (.iload_n 1, 1) := by decide +kernel
theorem dX11_putsOne_22 : decode cX11_putsOne 22 = .ok (.iaload, 1) := by decide +kernel
theorem dX11_putsOne_23 : decode cX11_putsOne 23 = .ok (.if_icmp .ge 121, 3) := by decide +kernel
theorem dX11_putsOne_26 : decode cX11_putsOne 26 = .ok (.aload_n 0, 1) := by decide +kernel
theorem dX11_putsOne_27 : decode cX11_putsOne 27 = .ok (.getfield 63, 3) := by decide +kernel
theorem dX11_putsOne_30 : decode cX11_putsOne 30 = .ok (.bipush 40, 2) := by decide +kernel
theorem dX11_putsOne_32 : decode cX11_putsOne 32 = .ok (.iload_n 1, 1) := by decide +kernel
theorem dX11_putsOne_33 : decode cX11_putsOne 33 = .ok (.imul, 1) := by decide +kernel
theorem dX11_putsOne_34 : decode cX11_putsOne 34 = .ok (.iload_n 3, 1) := by decide +kernel
theorem dX11_putsOne_35 : decode cX11_putsOne 35 = .ok (.iadd, 1) := by decide +kernel
theorem dX11_putsOne_36 : decode cX11_putsOne 36 = .ok (.iaload, 1) := by decide +kernel
theorem dX11_putsOne_37 : decode cX11_putsOne 37 = .ok (.istore 4, 2) := by decide +kernel
theorem dX11_putsOne_39 : decode cX11_putsOne 39 = .ok (.aload_n 0, 1) := by decide +kernel
theorem dX11_putsOne_40 : decode cX11_putsOne 40 = .ok (.getfield 26, 3) := by decide +kernel
theorem dX11_putsOne_43 : decode cX11_putsOne 43 = .ok (.iload_n 1, 1) := by decide +kernel
theorem dX11_putsOne_44 : decode cX11_putsOne 44 = .ok (.iaload, 1) := by decide +kernel
theorem dX11_putsOne_45 : decode cX11_putsOne 45 = .ok (.iconst 2, 1) := by decide +kernel
theorem dX11_putsOne_46 : decode cX11_putsOne 46 = .ok (.if_icmp .ne 85, 3) := by decide +kernel
theorem dX11_putsOne_49 : decode cX11_putsOne 49 = .ok (.aload_n 0, 1) := by decide +kernel
theorem dX11_putsOne_50 : decode cX11_putsOne 50 = .ok (.aload_n 0, 1) := by decide +kernel
theorem dX11_putsOne_51 : decode cX11_putsOne 51 = .ok (.getfield 57, 3) := by decide +kernel
theorem dX11_putsOne_54 : decode cX11_putsOne 54 = .ok (.bipush 40, 2) := by decide +kernel
theorem dX11_putsOne_56 : decode cX11_putsOne 56 = .ok (.iload_n 2, 1) := by decide +kernel
theorem dX11_putsOne_57 : decode cX11_putsOne 57 = .ok (.imul, 1) := by decide +kernel
theorem dX11_putsOne_58 : decode cX11_putsOne 58 = .ok (.aload_n 0, 1) := by decide +kernel
theorem dX11_putsOne_59 : decode cX11_putsOne 59 = .ok (.getfield 54, 3) := by decide +kernel
theorem dX11_putsOne_62 : decode cX11_putsOne 62 = .ok (.iload_n 2, 1) := by decide +kernel
theorem dX11_putsOne_63 : decode cX11_putsOne 63 = .ok (.iaload, 1) := by decide +kernel
theorem dX11_putsOne_64 : decode cX11_putsOne 64 = .ok (.aload_n 0, 1) := by decide +kernel
theorem dX11_putsOne_65 : decode cX11_putsOne 65 = .ok (.getfield 48, 3) := by decide +kernel
theorem dX11_putsOne_68 : decode cX11_putsOne 68 = .ok (.iload_n 1, 1) := by decide +kernel
theorem dX11_putsOne_69 : decode cX11_putsOne 69 = .ok (.iaload, 1) := by decide +kernel
theorem dX11_putsOne_70 : decode cX11_putsOne 70 = .ok (.aload_n 0, 1) := by decide +kernel
theorem dX11_putsOne_71 : decode cX11_putsOne 71 = .ok (.iload 4, 2) := by decide +kernel
theorem dX11_putsOne_73 : decode cX11_putsOne 73 = .ok (.aload_n 0, 1) := by decide +kernel
theorem dX11_putsOne_74 : decode cX11_putsOne 74 = .ok (.getfield 48, 3) := by decide +kernel
theorem dX11_putsOne_77 : decode cX11_putsOne 77 = .ok (.iload_n 1, 1) := by decide +kernel
theorem dX11_putsOne_78 : decode cX11_putsOne 78 = .ok (.iaload, 1) := by decide +kernel
theorem dX11_putsOne_79 : decode cX11_putsOne 79 = .ok (.invokevirtual 100, 3) := by decide +kernel
theorem dX11_putsOne_82 : decode cX11_putsOne 82 = .ok (.invokevirtual 114, 3) := by decide +kernel
theorem dX11_putsOne_85 : decode cX11_putsOne 85 = .ok (.istore 5, 2) := by decide +kernel
theorem dX11_putsOne_87 : decode cX11_putsOne 87 = .ok (.iload 4, 2) := by decide +kernel
theorem dX11_putsOne_89 : decode cX11_putsOne 89 = .ok (.iload 5, 2) := by decide +kernel
theorem dX11_putsOne_91 : decode cX11_putsOne 91 = .ok (.iconst (-1), 1) := by decide +kernel
theorem dX11_putsOne_92 : decode cX11_putsOne 92 = .ok (.if_icmp .ne 12, 3) := by decide +kernel
theorem dX11_putsOne_95 : decode cX11_putsOne 95 = .ok (.aload_n 0, 1) := by decide +kernel
theorem dX11_putsOne_96 : decode cX11_putsOne 96 = .ok (.getfield 38, 3) := by decide +kernel
theorem dX11_putsOne_99 : decode cX11_putsOne 99 = .ok (.iload_n 1, 1) := by decide +kernel
theorem dX11_putsOne_100 : decode cX11_putsOne 100 = .ok (.iaload, 1) := by decide +kernel
theorem dX11_putsOne_101 : decode cX11_putsOne 101 = .ok (.goto 15, 3) := by decide +kernel
theorem dX11_putsOne_104 : decode cX11_putsOne 104 = .ok (.aload_n 0, 1) := by decide +kernel
theorem dX11_putsOne_105 : decode cX11_putsOne 105 = .ok (.iload 5, 2) := by decide +kernel
theorem dX11_putsOne_107 : decode cX11_putsOne 107 = .ok (.aload_n 0, 1) := by decide +kernel
theorem dX11_putsOne_108 : decode cX11_putsOne 108 = .ok (.getfield 35, 3) := by decide +kernel
theorem dX11_putsOne_111 : decode cX11_putsOne 111 = .ok (.iload_n 1, 1) := by decide +kernel
theorem dX11_putsOne_112 : decode cX11_putsOne 112 = .ok (.iaload, 1) := by decide +kernel
theorem dX11_putsOne_113 : decode cX11_putsOne 113 = .ok (.invokevirtual 91, 3) := by decide +kernel
theorem dX11_putsOne_116 : decode cX11_putsOne 116 = .ok (.aload_n 0, 1) := by decide +kernel
theorem dX11_putsOne_117 : decode cX11_putsOne 117 = .ok (.getfield 8, 3) := by decide +kernel
theorem dX11_putsOne_120 : decode cX11_putsOne 120 = .ok (.aload_n 0, 1) := by decide +kernel
theorem dX11_putsOne_121 : decode cX11_putsOne 121 = .ok (.getfield 35, 3) := by decide +kernel
theorem dX11_putsOne_124 : decode cX11_putsOne 124 = .ok (.iload_n 1, 1) := by decide +kernel
theorem dX11_putsOne_125 : decode cX11_putsOne 125 = .ok (.iaload, 1) := by decide +kernel
theorem dX11_putsOne_126 : decode cX11_putsOne 126 = .ok (.iaload, 1) := by decide +kernel
theorem dX11_putsOne_127 : decode cX11_putsOne 127 = .ok (.imul, 1) := by decide +kernel
theorem dX11_putsOne_128 : decode cX11_putsOne 128 = .ok (.iadd, 1) := by decide +kernel
theorem dX11_putsOne_129 : decode cX11_putsOne 129 = .ok (.istore 4, 2) := by decide +kernel
theorem dX11_putsOne_131 : decode cX11_putsOne 131 = .ok (.aload_n 0, 1) := by decide +kernel
theorem dX11_putsOne_132 : decode cX11_putsOne 132 = .ok (.iload_n 2, 1) := by decide +kernel
theorem dX11_putsOne_133 : decode cX11_putsOne 133 = .ok (.iload 4, 2) := by decide +kernel
theorem dX11_putsOne_135 : decode cX11_putsOne 135 = .ok (.invokevirtual 191, 3) := by decide +kernel
theorem dX11_putsOne_138 : decode cX11_putsOne 138 = .ok (.iinc 3 1, 3) := by decide +kernel
theorem dX11_putsOne_141 : decode cX11_putsOne 141 = .ok (.goto (-125), 3) := by decide +kernel
theorem dX11_putsOne_144 : decode cX11_putsOne 144 = .ok (.iconst 0, 1) := by decide +kernel
theorem dX11_putsOne_145 : decode cX11_putsOne 145 = .ok (.istore_n 3, 1) := by decide +kernel
theorem dX11_putsOne_146 : decode cX11_putsOne 146 = .ok (.iload_n 3, 1) := by decide +kernel
theorem dX11_putsOne_147 : decode cX11_putsOne 147 = .ok (.aload_n 0, 1) := by decide +kernel
theorem dX11_putsOne_148 : decode cX11_putsOne 148 = .ok (.getfield 54, 3) := by decide +kernel
theorem dX11_putsOne_151 : decode cX11_putsOne 151 = .ok (.iload_n 2, 1) := by decide +kernel
theorem dX11_putsOne_152 : decode cX11_putsOne 152 = .ok (.iaload, 1) := by decide +kernel
theorem dX11_putsOne_153 : decode cX11_putsOne 153 = .ok (.if_icmp .ge 59, 3) := by decide +kernel
theorem dX11_putsOne_156 : decode cX11_putsOne 156 = .ok (.aload_n 0, 1) := by decide +kernel
theorem dX11_putsOne_157 : decode cX11_putsOne 157 = .ok (.getfield 26, 3) := by decide +kernel
theorem dX11_putsOne_160 : decode cX11_putsOne 160 = .ok (.iload_n 1, 1) := by decide +kernel
theorem dX11_putsOne_161 : decode cX11_putsOne 161 = .ok (.iaload, 1) := by decide +kernel
theorem dX11_putsOne_162 : decode cX11_putsOne 162 = .ok (.iconst 1, 1) := by decide +kernel
theorem dX11_putsOne_163 : decode cX11_putsOne 163 = .ok (.if_icmp .ne 49, 3) := by decide +kernel
theorem dX11_putsOne_166 : decode cX11_putsOne 166 = .ok (.aload_n 0, 1) := by decide +kernel
theorem dX11_putsOne_167 : decode cX11_putsOne 167 = .ok (.getfield 57, 3) := by decide +kernel
theorem dX11_putsOne_170 : decode cX11_putsOne 170 = .ok (.bipush 40, 2) := by decide +kernel
theorem dX11_putsOne_172 : decode cX11_putsOne 172 = .ok (.iload_n 2, 1) := by decide +kernel
theorem dX11_putsOne_173 : decode cX11_putsOne 173 = .ok (.imul, 1) := by decide +kernel
theorem dX11_putsOne_174 : decode cX11_putsOne 174 = .ok (.iload_n 3, 1) := by decide +kernel
theorem dX11_putsOne_175 : decode cX11_putsOne 175 = .ok (.iadd, 1) := by decide +kernel
theorem dX11_putsOne_176 : decode cX11_putsOne 176 = .ok (.iaload, 1) := by decide +kernel
theorem dX11_putsOne_177 : decode cX11_putsOne 177 = .ok (.istore 4, 2) := by decide +kernel
theorem dX11_putsOne_179 : decode cX11_putsOne 179 = .ok (.aload_n 0, 1) := by decide +kernel
theorem dX11_putsOne_180 : decode cX11_putsOne 180 = .ok (.iload_n 1, 1) := by decide +kernel
theorem dX11_putsOne_181 : decode cX11_putsOne 181 = .ok (.iload 4, 2) := by decide +kernel
theorem dX11_putsOne_183 : decode cX11_putsOne 183 = .ok (.invokevirtual 149, 3) := by decide +kernel
theorem dX11_putsOne_186 : decode cX11_putsOne 186 = .ok (.ifCond .ne 20, 3) := by decide +kernel
theorem dX11_putsOne_189 : decode cX11_putsOne 189 = .ok (.aload_n 0, 1) := by decide +kernel
theorem dX11_putsOne_190 : decode cX11_putsOne 190 = .ok (.iload_n 1, 1) := by decide +kernel
theorem dX11_putsOne_191 : decode cX11_putsOne 191 = .ok (.iload 4, 2) := by decide +kernel
theorem dX11_putsOne_193 : decode cX11_putsOne 193 = .ok (.invokevirtual 194, 3) := by decide +kernel
theorem dX11_putsOne_196 : decode cX11_putsOne 196 = .ok (.ifCond .eq 10, 3) := by decide +kernel
theorem dX11_putsOne_199 : decode cX11_putsOne 199 = .ok (.aload_n 0, 1) := by decide +kernel
theorem dX11_putsOne_200 : decode cX11_putsOne 200 = .ok (.iload_n 2, 1) := by decide +kernel
theorem dX11_putsOne_201 : decode cX11_putsOne 201 = .ok (.iload 4, 2) := by decide +kernel
theorem dX11_putsOne_203 : decode cX11_putsOne 203 = .ok (.invokevirtual 191, 3) := by decide +kernel
theorem dX11_putsOne_206 : decode cX11_putsOne 206 = .ok (.iinc 3 1, 3) := by decide +kernel
theorem dX11_putsOne_209 : decode cX11_putsOne 209 = .ok (.goto (-63), 3) := by decide +kernel
theorem dX11_putsOne_212 : decode cX11_putsOne 212 = .ok (.return_, 1) := by decide +kernel
theorem dX11_putsRight_0 : decode cX11_putsRight 0 = .ok (.aload_n 0, 1) := by decide +kernel
theorem dX11_putsRight_1 : decode cX11_putsRight 1 = .ok (.getfield 32, 3) := by decide +kernel
theorem dX11_putsRight_4 : decode cX11_putsRight 4 = .ok (.iload_n 1, 1) := by decide +kernel
theorem dX11_putsRight_5 : decode cX11_putsRight 5 = .ok (.iaload, 1) := by decide +kernel
theorem dX11_putsRight_6 : decode cX11_putsRight 6 = .ok (.istore_n 2, 1) := by decide +kernel
theorem dX11_putsRight_7 : decode cX11_putsRight 7 = .ok (.aload_n 0, 1) := by decide +kernel
theorem dX11_putsRight_8 : decode cX11_putsRight 8 = .ok (.getfield 60, 3) := by decide +kernel
theorem dX11_putsRight_11 : decode cX11_putsRight 11 = .ok (.iload_n 2, 1) := by decide +kernel
theorem dX11_putsRight_12 : decode cX11_putsRight 12 = .ok (.iconst 0, 1) := by decide +kernel
theorem dX11_putsRight_13 : decode cX11_putsRight 13 = .ok (.iastore, 1) := by decide +kernel
theorem dX11_putsRight_14 : decode cX11_putsRight 14 = .ok (.iconst 0, 1) := by decide +kernel
theorem dX11_putsRight_15 : decode cX11_putsRight 15 = .ok (.istore_n 3, 1) := by decide +kernel
theorem dX11_putsRight_16 : decode cX11_putsRight 16 = .ok (.iload_n 3, 1) := by decide +kernel
theorem dX11_putsRight_17 : decode cX11_putsRight 17 = .ok (.aload_n 0, 1) := by decide +kernel
theorem dX11_putsRight_18 : decode cX11_putsRight 18 = .ok (.getfield 60, 3) := by decide +kernel
theorem dX11_putsRight_21 : decode cX11_putsRight 21 = .ok (.iload_n 1, 1) := by decide +kernel
theorem dX11_putsRight_22 : decode cX11_putsRight 22 = .ok (.iaload, 1) := by decide +kernel
theorem dX11_putsRight_23 : decode cX11_putsRight 23 = .ok (.if_icmp .ge 35, 3) := by decide +kernel
theorem dX11_putsRight_26 : decode cX11_putsRight 26 = .ok (.aload_n 0, 1) := by decide +kernel
theorem dX11_putsRight_27 : decode cX11_putsRight 27 = .ok (.iload_n 2, 1) := by decide +kernel
theorem dX11_putsRight_28 : decode cX11_putsRight 28 = .ok (.aload_n 0, 1) := by decide +kernel
theorem dX11_putsRight_29 : decode cX11_putsRight 29 = .ok (.aload_n 0, 1) := by decide +kernel
theorem dX11_putsRight_30 : decode cX11_putsRight 30 = .ok (.getfield 63, 3) := by decide +kernel
theorem dX11_putsRight_33 : decode cX11_putsRight 33 = .ok (.bipush 40, 2) := by decide +kernel
theorem dX11_putsRight_35 : decode cX11_putsRight 35 = .ok (.iload_n 1, 1) := by decide +kernel
theorem dX11_putsRight_36 : decode cX11_putsRight 36 = .ok (.imul, 1) := by decide +kernel
theorem dX11_putsRight_37 : decode cX11_putsRight 37 = .ok (.iload_n 3, 1) := by decide +kernel
theorem dX11_putsRight_38 : decode cX11_putsRight 38 = .ok (.iadd, 1) := by decide +kernel
theorem dX11_putsRight_39 : decode cX11_putsRight 39 = .ok (.iaload, 1) := by decide +kernel
theorem dX11_putsRight_40 : decode cX11_putsRight 40 = .ok (.aload_n 0, 1) := by decide +kernel
theorem dX11_putsRight_41 : decode cX11_putsRight 41 = .ok (.getfield 45, 3) := by decide +kernel
theorem dX11_putsRight_44 : decode cX11_putsRight 44 = .ok (.iload_n 2, 1) := by decide +kernel
theorem dX11_putsRight_45 : decode cX11_putsRight 45 = .ok (.iaload, 1) := by decide +kernel
theorem dX11_putsRight_46 : decode cX11_putsRight 46 = .ok (.invokevirtual 100, 3) := by decide +kernel
theorem dX11_putsRight_49 : decode cX11_putsRight 49 = .ok (.invokevirtual 191, 3) := by decide +kernel
theorem dX11_putsRight_52 : decode cX11_putsRight 52 = .ok (.iinc 3 1, 3) := by decide +kernel
theorem dX11_putsRight_55 : decode cX11_putsRight 55 = .ok (.goto (-39), 3) := by decide +kernel
theorem dX11_putsRight_58 : decode cX11_putsRight 58 = .ok (.aload_n 0, 1) := by decide +kernel
theorem dX11_putsRight_59 : decode cX11_putsRight 59 = .ok (.getfield 60, 3) := by decide +kernel
theorem dX11_putsRight_62 : decode cX11_putsRight 62 = .ok (.iload_n 2, 1) := by decide +kernel
theorem dX11_putsRight_63 : decode cX11_putsRight 63 = .ok (.iaload, 1) := by decide +kernel
theorem dX11_putsRight_64 : decode cX11_putsRight 64 = .ok (.istore_n 3, 1) := by decide +kernel
theorem dX11_putsRight_65 : decode cX11_putsRight 65 = .ok (.iconst 0, 1) := by decide +kernel
theorem dX11_putsRight_66 : decode cX11_putsRight 66 = .ok (.istore 4, 2) := by decide +kernel
theorem dX11_putsRight_68 : decode cX11_putsRight 68 = .ok (.iconst 0, 1) := by decide +kernel
theorem dX11_putsRight_69 : decode cX11_putsRight 69 = .ok (.istore 5, 2) := by decide +kernel
theorem dX11_putsRight_71 : decode cX11_putsRight 71 = .ok (.iload 5, 2) := by decide +kernel
theorem dX11_putsRight_73 : decode cX11_putsRight 73 = .ok (.aload_n 0, 1) := by decide +kernel
theorem dX11_putsRight_74 : decode cX11_putsRight 74 = .ok (.getfield 54, 3) := by decide +kernel
theorem dX11_putsRight_77 : decode cX11_putsRight 77 = .ok (.iload_n 2, 1) := by decide +kernel
theorem dX11_putsRight_78 : decode cX11_putsRight 78 = .ok (.iaload, 1) := by decide +kernel
theorem dX11_putsRight_79 : decode cX11_putsRight 79 = .ok (.if_icmp .ge 70, 3) := by decide +kernel
theorem dX11_putsRight_82 : decode cX11_putsRight 82 = .ok (.aload_n 0, 1) := by decide +kernel
theorem dX11_putsRight_83 : decode cX11_putsRight 83 = .ok (.getfield 57, 3) := by decide +kernel
theorem dX11_putsRight_86 : decode cX11_putsRight 86 = .ok (.bipush 40, 2) := by decide +kernel
theorem dX11_putsRight_88 : decode cX11_putsRight 88 = .ok (.iload_n 2, 1) := by decide +kernel
theorem dX11_putsRight_89 : decode cX11_putsRight 89 = .ok (.imul, 1) := by decide +kernel
theorem dX11_putsRight_90 : decode cX11_putsRight 90 = .ok (.iload 5, 2) := by decide +kernel
theorem dX11_putsRight_92 : decode cX11_putsRight 92 = .ok (.iadd, 1) := by decide +kernel
theorem dX11_putsRight_93 : decode cX11_putsRight 93 = .ok (.iaload, 1) := by decide +kernel
theorem dX11_putsRight_94 : decode cX11_putsRight 94 = .ok (.istore 6, 2) := by decide +kernel
theorem dX11_putsRight_96 : decode cX11_putsRight 96 = .ok (.aload_n 0, 1) := by decide +kernel
theorem dX11_putsRight_97 : decode cX11_putsRight 97 = .ok (.aload_n 0, 1) := by decide +kernel
theorem dX11_putsRight_98 : decode cX11_putsRight 98 = .ok (.getfield 63, 3) := by decide +kernel
theorem dX11_putsRight_101 : decode cX11_putsRight 101 = .ok (.bipush 40, 2) := by decide +kernel
theorem dX11_putsRight_103 : decode cX11_putsRight 103 = .ok (.iload_n 2, 1) := by decide +kernel
theorem dX11_putsRight_104 : decode cX11_putsRight 104 = .ok (.imul, 1) := by decide +kernel
theorem dX11_putsRight_105 : decode cX11_putsRight 105 = .ok (.iload_n 3, 1) := by decide +kernel
theorem dX11_putsRight_106 : decode cX11_putsRight 106 = .ok (.aload_n 0, 1) := by decide +kernel
theorem dX11_putsRight_107 : decode cX11_putsRight 107 = .ok (.getfield 48, 3) := by decide +kernel
theorem dX11_putsRight_110 : decode cX11_putsRight 110 = .ok (.iload_n 2, 1) := by decide +kernel
theorem dX11_putsRight_111 : decode cX11_putsRight 111 = .ok (.iaload, 1) := by decide +kernel
theorem dX11_putsRight_112 : decode cX11_putsRight 112 = .ok (.aload_n 0, 1) := by decide +kernel
theorem dX11_putsRight_113 : decode cX11_putsRight 113 = .ok (.iload 6, 2) := by decide +kernel
theorem dX11_putsRight_115 : decode cX11_putsRight 115 = .ok (.aload_n 0, 1) := by decide +kernel
theorem dX11_putsRight_116 : decode cX11_putsRight 116 = .ok (.getfield 48, 3) := by decide +kernel
theorem dX11_putsRight_119 : decode cX11_putsRight 119 = .ok (.iload_n 2, 1) := by decide +kernel
theorem dX11_putsRight_120 : decode cX11_putsRight 120 = .ok (.iaload, 1) := by decide +kernel
theorem dX11_putsRight_121 : decode cX11_putsRight 121 = .ok (.invokevirtual 100, 3) := by decide +kernel
theorem dX11_putsRight_124 : decode cX11_putsRight 124 = .ok (.invokevirtual 114, 3) := by decide +kernel
theorem dX11_putsRight_127 : decode cX11_putsRight 127 = .ok (.iconst (-1), 1) := by decide +kernel
theorem dX11_putsRight_128 : decode cX11_putsRight 128 = .ok (.if_icmp .ne 15, 3) := by decide +kernel
theorem dX11_putsRight_131 : decode cX11_putsRight 131 = .ok (.aload_n 0, 1) := by decide +kernel
theorem dX11_putsRight_132 : decode cX11_putsRight 132 = .ok (.getfield 84, 3) := by decide +kernel
theorem dX11_putsRight_135 : decode cX11_putsRight 135 = .ok (.iload 4, 2) := by decide +kernel
theorem dX11_putsRight_137 : decode cX11_putsRight 137 = .ok (.iload 6, 2) := by decide +kernel
theorem dX11_putsRight_139 : decode cX11_putsRight 139 = .ok (.iastore, 1) := by decide +kernel
theorem dX11_putsRight_140 : decode cX11_putsRight 140 = .ok (.iinc 4 1, 3) := by decide +kernel
theorem dX11_putsRight_143 : decode cX11_putsRight 143 = .ok (.iinc 5 1, 3) := by decide +kernel
theorem dX11_putsRight_146 : decode cX11_putsRight 146 = .ok (.goto (-75), 3) := by decide +kernel
theorem dX11_putsRight_149 : decode cX11_putsRight 149 = .ok (.iconst 0, 1) := by decide +kernel
theorem dX11_putsRight_150 : decode cX11_putsRight 150 = .ok (.istore 5, 2) := by decide +kernel
theorem dX11_putsRight_152 : decode cX11_putsRight 152 = .ok (.iload 5, 2) := by decide +kernel
theorem dX11_putsRight_154 : decode cX11_putsRight 154 = .ok (.iload 4, 2) := by decide +kernel
theorem dX11_putsRight_156 : decode cX11_putsRight 156 = .ok (.if_icmp .ge 21, 3) := by decide +kernel
theorem dX11_putsRight_159 : decode cX11_putsRight 159 = .ok (.aload_n 0, 1) := by decide +kernel
theorem dX11_putsRight_160 : decode cX11_putsRight 160 = .ok (.iload_n 2, 1) := by decide +kernel
theorem dX11_putsRight_161 : decode cX11_putsRight 161 = .ok (.aload_n 0, 1) := by decide +kernel
theorem dX11_putsRight_162 : decode cX11_putsRight 162 = .ok (.getfield 84, 3) := by decide +kernel
theorem dX11_putsRight_165 : decode cX11_putsRight 165 = .ok (.iload 5, 2) := by decide +kernel
theorem dX11_putsRight_167 : decode cX11_putsRight 167 = .ok (.iaload, 1) := by decide +kernel
theorem dX11_putsRight_168 : decode cX11_putsRight 168 = .ok (.invokevirtual 191, 3) := by decide +kernel
theorem dX11_putsRight_171 : decode cX11_putsRight 171 = .ok (.iinc 5 1, 3) := by decide +kernel
theorem dX11_putsRight_174 : decode cX11_putsRight 174 = .ok (.goto (-22), 3) := by decide +kernel
theorem dX11_putsRight_177 : decode cX11_putsRight 177 = .ok (.return_, 1) := by decide +kernel
theorem dX11_putsLeft_0 : decode cX11_putsLeft 0 = .ok (.aload_n 0, 1) := by decide +kernel
theorem dX11_putsLeft_1 : decode cX11_putsLeft 1 = .ok (.getfield 29, 3) := by decide +kernel
theorem dX11_putsLeft_4 : decode cX11_putsLeft 4 = .ok (.iload_n 1, 1) := by decide +kernel
theorem dX11_putsLeft_5 : decode cX11_putsLeft 5 = .ok (.iaload, 1) := by decide +kernel
theorem dX11_putsLeft_6 : decode cX11_putsLeft 6 = .ok (.istore_n 2, 1) := by decide +kernel
theorem dX11_putsLeft_7 : decode cX11_putsLeft 7 = .ok (.aload_n 0, 1) := by decide +kernel
theorem dX11_putsLeft_8 : decode cX11_putsLeft 8 = .ok (.getfield 32, 3) := by decide +kernel
theorem dX11_putsLeft_11 : decode cX11_putsLeft 11 = .ok (.iload_n 1, 1) := by decide +kernel
theorem dX11_putsLeft_12 : decode cX11_putsLeft 12 = .ok (.iaload, 1) := by decide +kernel
theorem dX11_putsLeft_13 : decode cX11_putsLeft 13 = .ok (.istore_n 3, 1) := by decide +kernel
theorem dX11_putsLeft_14 : decode cX11_putsLeft 14 = .ok (.aload_n 0, 1) := by decide +kernel
theorem dX11_putsLeft_15 : decode cX11_putsLeft 15 = .ok (.getfield 60, 3) := by decide +kernel
theorem dX11_putsLeft_18 : decode cX11_putsLeft 18 = .ok (.iload_n 2, 1) := by decide +kernel
theorem dX11_putsLeft_19 : decode cX11_putsLeft 19 = .ok (.iconst 0, 1) := by decide +kernel
theorem dX11_putsLeft_20 : decode cX11_putsLeft 20 = .ok (.iastore, 1) := by decide +kernel
theorem dX11_putsLeft_21 : decode cX11_putsLeft 21 = .ok (.iconst 0, 1) := by decide +kernel
theorem dX11_putsLeft_22 : decode cX11_putsLeft 22 = .ok (.istore 4, 2) := by decide +kernel
theorem dX11_putsLeft_24 : decode cX11_putsLeft 24 = .ok (.iload 4, 2) := by decide +kernel
theorem dX11_putsLeft_26 : decode cX11_putsLeft 26 = .ok (.aload_n 0, 1) := by decide +kernel
theorem dX11_putsLeft_27 : decode cX11_putsLeft 27 = .ok (.getfield 60, 3) := by decide +kernel
theorem dX11_putsLeft_30 : decode cX11_putsLeft 30 = .ok (.iload_n 1, 1) := by decide +kernel
theorem dX11_putsLeft_31 : decode cX11_putsLeft 31 = .ok (.iaload, 1) := by decide +kernel
theorem dX11_putsLeft_32 : decode cX11_putsLeft 32 = .ok (.if_icmp .ge 36, 3) := by decide +kernel
theorem dX11_putsLeft_35 : decode cX11_putsLeft 35 = .ok (.aload_n 0, 1) := by decide +kernel
theorem dX11_putsLeft_36 : decode cX11_putsLeft 36 = .ok (.iload_n 2, 1) := by decide +kernel
theorem dX11_putsLeft_37 : decode cX11_putsLeft 37 = .ok (.aload_n 0, 1) := by decide +kernel
theorem dX11_putsLeft_38 : decode cX11_putsLeft 38 = .ok (.aload_n 0, 1) := by decide +kernel
theorem dX11_putsLeft_39 : decode cX11_putsLeft 39 = .ok (.getfield 63, 3) := by decide +kernel
theorem dX11_putsLeft_42 : decode cX11_putsLeft 42 = .ok (.bipush 40, 2) := by decide +kernel
theorem dX11_putsLeft_44 : decode cX11_putsLeft 44 = .ok (.iload_n 1, 1) := by decide +kernel
theorem dX11_putsLeft_45 : decode cX11_putsLeft 45 = .ok (.imul, 1) := by decide +kernel
theorem dX11_putsLeft_46 : decode cX11_putsLeft 46 = .ok (.iload 4, 2) := by decide +kernel
theorem dX11_putsLeft_48 : decode cX11_putsLeft 48 = .ok (.iadd, 1) := by decide +kernel
theorem dX11_putsLeft_49 : decode cX11_putsLeft 49 = .ok (.iaload, 1) := by decide +kernel
theorem dX11_putsLeft_50 : decode cX11_putsLeft 50 = .ok (.aload_n 0, 1) := by decide +kernel
theorem dX11_putsLeft_51 : decode cX11_putsLeft 51 = .ok (.getfield 45, 3) := by decide +kernel
theorem dX11_putsLeft_54 : decode cX11_putsLeft 54 = .ok (.iload_n 2, 1) := by decide +kernel
theorem dX11_putsLeft_55 : decode cX11_putsLeft 55 = .ok (.iaload, 1) := by decide +kernel
theorem dX11_putsLeft_56 : decode cX11_putsLeft 56 = .ok (.invokevirtual 100, 3) := by decide +kernel
theorem dX11_putsLeft_59 : decode cX11_putsLeft 59 = .ok (.invokevirtual 191, 3) := by decide +kernel
theorem dX11_putsLeft_62 : decode cX11_putsLeft 62 = .ok (.iinc 4 1, 3) := by decide +kernel
theorem dX11_putsLeft_65 : decode cX11_putsLeft 65 = .ok (.goto (-41), 3) := by decide +kernel
theorem dX11_putsLeft_68 : decode cX11_putsLeft 68 = .ok (.iconst 0, 1) := by decide +kernel
theorem dX11_putsLeft_69 : decode cX11_putsLeft 69 = .ok (.istore 4, 2) := by decide +kernel
theorem dX11_putsLeft_71 : decode cX11_putsLeft 71 = .ok (.iload 4, 2) := by decide +kernel
theorem dX11_putsLeft_73 : decode cX11_putsLeft 73 = .ok (.aload_n 0, 1) := by decide +kernel
theorem dX11_putsLeft_74 : decode cX11_putsLeft 74 = .ok (.getfield 54, 3) := by decide +kernel
theorem dX11_putsLeft_77 : decode cX11_putsLeft 77 = .ok (.iload_n 2, 1) := by decide +kernel
theorem dX11_putsLeft_78 : decode cX11_putsLeft 78 = .ok (.iaload, 1) := by decide +kernel
theorem dX11_putsLeft_79 : decode cX11_putsLeft 79 = .ok (.if_icmp .ge 90, 3) := by decide +kernel
theorem dX11_putsLeft_82 : decode cX11_putsLeft 82 = .ok (.aload_n 0, 1) := by decide +kernel
theorem dX11_putsLeft_83 : decode cX11_putsLeft 83 = .ok (.getfield 57, 3) := by decide +kernel
theorem dX11_putsLeft_86 : decode cX11_putsLeft 86 = .ok (.bipush 40, 2) := by decide +kernel
theorem dX11_putsLeft_88 : decode cX11_putsLeft 88 = .ok (.iload_n 2, 1) := by decide +kernel
theorem dX11_putsLeft_89 : decode cX11_putsLeft 89 = .ok (.imul, 1) := by decide +kernel
theorem dX11_putsLeft_90 : decode cX11_putsLeft 90 = .ok (.iload 4, 2) := by decide +kernel
theorem dX11_putsLeft_92 : decode cX11_putsLeft 92 = .ok (.iadd, 1) := by decide +kernel
theorem dX11_putsLeft_93 : decode cX11_putsLeft 93 = .ok (.iaload, 1) := by decide +kernel
theorem dX11_putsLeft_94 : decode cX11_putsLeft 94 = .ok (.istore 5, 2) := by decide +kernel
theorem dX11_putsLeft_96 : decode cX11_putsLeft 96 = .ok (.aload_n 0, 1) := by decide +kernel
theorem dX11_putsLeft_97 : decode cX11_putsLeft 97 = .ok (.aload_n 0, 1) := by decide +kernel
theorem dX11_putsLeft_98 : decode cX11_putsLeft 98 = .ok (.getfield 63, 3) := by decide +kernel
theorem dX11_putsLeft_101 : decode cX11_putsLeft 101 = .ok (.bipush 40, 2) := by decide +kernel
theorem dX11_putsLeft_103 : decode cX11_putsLeft 103 = .ok (.iload_n 3, 1) := by decide +kernel
theorem dX11_putsLeft_104 : decode cX11_putsLeft 104 = .ok (.imul, 1) := by decide +kernel
theorem dX11_putsLeft_105 : decode cX11_putsLeft 105 = .ok (.aload_n 0, 1) := by decide +kernel
theorem dX11_putsLeft_106 : decode cX11_putsLeft 106 = .ok (.getfield 60, 3) := by decide +kernel
theorem dX11_putsLeft_109 : decode cX11_putsLeft 109 = .ok (.iload_n 3, 1) := by decide +kernel
theorem dX11_putsLeft_110 : decode cX11_putsLeft 110 = .ok (.iaload, 1) := by decide +kernel
theorem dX11_putsLeft_111 : decode cX11_putsLeft 111 = .ok (.aload_n 0, 1) := by decide +kernel
theorem dX11_putsLeft_112 : decode cX11_putsLeft 112 = .ok (.iload_n 1, 1) := by decide +kernel
theorem dX11_putsLeft_113 : decode cX11_putsLeft 113 = .ok (.invokevirtual 141, 3) := by decide +kernel
theorem dX11_putsLeft_116 : decode cX11_putsLeft 116 = .ok (.aload_n 0, 1) := by decide +kernel
theorem dX11_putsLeft_117 : decode cX11_putsLeft 117 = .ok (.iload 5, 2) := by decide +kernel
theorem dX11_putsLeft_119 : decode cX11_putsLeft 119 = .ok (.aload_n 0, 1) := by decide +kernel
theorem dX11_putsLeft_120 : decode cX11_putsLeft 120 = .ok (.iload_n 1, 1) := by decide +kernel
theorem dX11_putsLeft_121 : decode cX11_putsLeft 121 = .ok (.invokevirtual 141, 3) := by decide +kernel
theorem dX11_putsLeft_124 : decode cX11_putsLeft 124 = .ok (.invokevirtual 100, 3) := by decide +kernel
theorem dX11_putsLeft_127 : decode cX11_putsLeft 127 = .ok (.invokevirtual 114, 3) := by decide +kernel
theorem dX11_putsLeft_130 : decode cX11_putsLeft 130 = .ok (.iconst (-1), 1) := by decide +kernel
theorem dX11_putsLeft_131 : decode cX11_putsLeft 131 = .ok (.if_icmp .eq 7, 3) := by decide +kernel
theorem dX11_putsLeft_134 : decode cX11_putsLeft 134 = .ok (.iconst 1, 1) := by decide +kernel
theorem dX11_putsLeft_135 : decode cX11_putsLeft 135 = .ok (.goto 4, 3) := by decide +kernel
theorem dX11_putsLeft_138 : decode cX11_putsLeft 138 = .ok (.iconst 0, 1) := by decide +kernel
theorem dX11_putsLeft_139 : decode cX11_putsLeft 139 = .ok (.istore 6, 2) := by decide +kernel
theorem dX11_putsLeft_141 : decode cX11_putsLeft 141 = .ok (.aload_n 0, 1) := by decide +kernel
theorem dX11_putsLeft_142 : decode cX11_putsLeft 142 = .ok (.iload_n 1, 1) := by decide +kernel
theorem dX11_putsLeft_143 : decode cX11_putsLeft 143 = .ok (.iload 5, 2) := by decide +kernel
theorem dX11_putsLeft_145 : decode cX11_putsLeft 145 = .ok (.invokevirtual 194, 3) := by decide +kernel
theorem dX11_putsLeft_148 : decode cX11_putsLeft 148 = .ok (.ifCond .eq 15, 3) := by decide +kernel
theorem dX11_putsLeft_151 : decode cX11_putsLeft 151 = .ok (.iload 6, 2) := by decide +kernel
theorem dX11_putsLeft_153 : decode cX11_putsLeft 153 = .ok (.ifCond .ne 10, 3) := by decide +kernel
theorem dX11_putsLeft_156 : decode cX11_putsLeft 156 = .ok (.aload_n 0, 1) := by decide +kernel
theorem dX11_putsLeft_157 : decode cX11_putsLeft 157 = .ok (.iload_n 2, 1) := by decide +kernel
theorem dX11_putsLeft_158 : decode cX11_putsLeft 158 = .ok (.iload 5, 2) := by decide +kernel
theorem dX11_putsLeft_160 : decode cX11_putsLeft 160 = .ok (.invokevirtual 191, 3) := by decide +kernel
theorem dX11_putsLeft_163 : decode cX11_putsLeft 163 = .ok (.iinc 4 1, 3) := by decide +kernel
theorem dX11_putsLeft_166 : decode cX11_putsLeft 166 = .ok (.goto (-95), 3) := by decide +kernel
theorem dX11_putsLeft_169 : decode cX11_putsLeft 169 = .ok (.return_, 1) := by decide +kernel
theorem dX11_comes_0 : decode cX11_comes 0 = .ok (.aload_n 0, 1) := by decide +kernel
theorem dX11_comes_1 : decode cX11_comes 1 = .ok (.getfield 75, 3) := by decide +kernel
theorem dX11_comes_4 : decode cX11_comes 4 = .ok (.aload_n 0, 1) := by decide +kernel
theorem dX11_comes_5 : decode cX11_comes 5 = .ok (.getfield 197, 3) := by decide +kernel
theorem dX11_comes_8 : decode cX11_comes 8 = .ok (.iload_n 1, 1) := by decide +kernel
theorem dX11_comes_9 : decode cX11_comes 9 = .ok (.iastore, 1) := by decide +kernel
theorem dX11_comes_10 : decode cX11_comes 10 = .ok (.aload_n 0, 1) := by decide +kernel
theorem dX11_comes_11 : decode cX11_comes 11 = .ok (.dup, 1) := by decide +kernel
theorem dX11_comes_12 : decode cX11_comes 12 = .ok (.getfield 197, 3) := by decide +kernel
theorem dX11_comes_15 : decode cX11_comes 15 = .ok (.iconst 1, 1) := by decide +kernel
theorem dX11_comes_16 : decode cX11_comes 16 = .ok (.iadd, 1) := by decide +kernel
theorem dX11_comes_17 : decode cX11_comes 17 = .ok (.putfield 197, 3) := by decide +kernel
theorem dX11_comes_20 : decode cX11_comes 20 = .ok (.return_, 1) := by decide +kernel
theorem dX11_goes_0 : decode cX11_goes 0 = .ok (.aload_n 0, 1) := by decide +kernel
theorem dX11_goes_1 : decode cX11_goes 1 = .ok (.invokevirtual 158, 3) := by decide +kernel
theorem dX11_goes_4 : decode cX11_goes 4 = .ok (.aload_n 0, 1) := by decide +kernel
theorem dX11_goes_5 : decode cX11_goes 5 = .ok (.iconst 0, 1) := by decide +kernel
theorem dX11_goes_6 : decode cX11_goes 6 = .ok (.putfield 171, 3) := by decide +kernel
theorem dX11_goes_9 : decode cX11_goes 9 = .ok (.aload_n 0, 1) := by decide +kernel
theorem dX11_goes_10 : decode cX11_goes 10 = .ok (.iconst (-1), 1) := by decide +kernel
theorem dX11_goes_11 : decode cX11_goes 11 = .ok (.putfield 174, 3) := by decide +kernel
theorem dX11_goes_14 : decode cX11_goes 14 = .ok (.aload_n 0, 1) := by decide +kernel
theorem dX11_goes_15 : decode cX11_goes 15 = .ok (.iconst (-1), 1) := by decide +kernel
theorem dX11_goes_16 : decode cX11_goes 16 = .ok (.putfield 177, 3) := by decide +kernel
theorem dX11_goes_19 : decode cX11_goes 19 = .ok (.iconst 0, 1) := by decide +kernel
theorem dX11_goes_20 : decode cX11_goes 20 = .ok (.istore_n 1, 1) := by decide +kernel
theorem dX11_goes_21 : decode cX11_goes 21 = .ok (.iload_n 1, 1) := by decide +kernel
theorem dX11_goes_22 : decode cX11_goes 22 = .ok (.aload_n 0, 1) := by decide +kernel
theorem dX11_goes_23 : decode cX11_goes 23 = .ok (.getfield 103, 3) := by decide +kernel
theorem dX11_goes_26 : decode cX11_goes 26 = .ok (.if_icmp .ge 61, 3) := by decide +kernel
theorem dX11_goes_29 : decode cX11_goes 29 = .ok (.aload_n 0, 1) := by decide +kernel
theorem dX11_goes_30 : decode cX11_goes 30 = .ok (.getfield 69, 3) := by decide +kernel
theorem dX11_goes_33 : decode cX11_goes 33 = .ok (.iload_n 1, 1) := by decide +kernel
theorem dX11_goes_34 : decode cX11_goes 34 = .ok (.aload_n 0, 1) := by decide +kernel
theorem dX11_goes_35 : decode cX11_goes 35 = .ok (.getfield 20, 3) := by decide +kernel
theorem dX11_goes_38 : decode cX11_goes 38 = .ok (.iload_n 1, 1) := by decide +kernel
theorem dX11_goes_39 : decode cX11_goes 39 = .ok (.iaload, 1) := by decide +kernel
theorem dX11_goes_40 : decode cX11_goes 40 = .ok (.iastore, 1) := by decide +kernel
theorem dX11_goes_41 : decode cX11_goes 41 = .ok (.iconst 0, 1) := by decide +kernel
theorem dX11_goes_42 : decode cX11_goes 42 = .ok (.istore_n 2, 1) := by decide +kernel
theorem dX11_goes_43 : decode cX11_goes 43 = .ok (.iload_n 2, 1) := by decide +kernel
theorem dX11_goes_44 : decode cX11_goes 44 = .ok (.aload_n 0, 1) := by decide +kernel
theorem dX11_goes_45 : decode cX11_goes 45 = .ok (.getfield 20, 3) := by decide +kernel
theorem dX11_goes_48 : decode cX11_goes 48 = .ok (.iload_n 1, 1) := by decide +kernel
theorem dX11_goes_49 : decode cX11_goes 49 = .ok (.iaload, 1) := by decide +kernel
theorem dX11_goes_50 : decode cX11_goes 50 = .ok (.if_icmp .ge 31, 3) := by decide +kernel
theorem dX11_goes_53 : decode cX11_goes 53 = .ok (.aload_n 0, 1) := by decide +kernel
theorem dX11_goes_54 : decode cX11_goes 54 = .ok (.getfield 72, 3) := by decide +kernel
theorem dX11_goes_57 : decode cX11_goes 57 = .ok (.bipush 12, 2) := by decide +kernel
theorem dX11_goes_59 : decode cX11_goes 59 = .ok (.iload_n 1, 1) := by decide +kernel
theorem dX11_goes_60 : decode cX11_goes 60 = .ok (.imul, 1) := by decide +kernel
theorem dX11_goes_61 : decode cX11_goes 61 = .ok (.iload_n 2, 1) := by decide +kernel
theorem dX11_goes_62 : decode cX11_goes 62 = .ok (.iadd, 1) := by decide +kernel
theorem dX11_goes_63 : decode cX11_goes 63 = .ok (.aload_n 0, 1) := by decide +kernel
theorem dX11_goes_64 : decode cX11_goes 64 = .ok (.getfield 23, 3) := by decide +kernel
theorem dX11_goes_67 : decode cX11_goes 67 = .ok (.bipush 12, 2) := by decide +kernel
theorem dX11_goes_69 : decode cX11_goes 69 = .ok (.iload_n 1, 1) := by decide +kernel
theorem dX11_goes_70 : decode cX11_goes 70 = .ok (.imul, 1) := by decide +kernel
theorem dX11_goes_71 : decode cX11_goes 71 = .ok (.iload_n 2, 1) := by decide +kernel
theorem dX11_goes_72 : decode cX11_goes 72 = .ok (.iadd, 1) := by decide +kernel
theorem dX11_goes_73 : decode cX11_goes 73 = .ok (.iaload, 1) := by decide +kernel
theorem dX11_goes_74 : decode cX11_goes 74 = .ok (.iastore, 1) := by decide +kernel
theorem dX11_goes_75 : decode cX11_goes 75 = .ok (.iinc 2 1, 3) := by decide +kernel
theorem dX11_goes_78 : decode cX11_goes 78 = .ok (.goto (-35), 3) := by decide +kernel
theorem dX11_goes_81 : decode cX11_goes 81 = .ok (.iinc 1 1, 3) := by decide +kernel
theorem dX11_goes_84 : decode cX11_goes 84 = .ok (.goto (-63), 3) := by decide +kernel
theorem dX11_goes_87 : decode cX11_goes 87 = .ok (.aload_n 0, 1) := by decide +kernel
theorem dX11_goes_88 : decode cX11_goes 88 = .ok (.getfield 60, 3) := by decide +kernel
theorem dX11_goes_91 : decode cX11_goes 91 = .ok (.aload_n 0, 1) := by decide +kernel
theorem dX11_goes_92 : decode cX11_goes 92 = .ok (.getfield 165, 3) := by decide +kernel
theorem dX11_goes_95 : decode cX11_goes 95 = .ok (.iconst 0, 1) := by decide +kernel
theorem dX11_goes_96 : decode cX11_goes 96 = .ok (.iastore, 1) := by decide +kernel
theorem dX11_goes_97 : decode cX11_goes 97 = .ok (.iconst 0, 1) := by decide +kernel
theorem dX11_goes_98 : decode cX11_goes 98 = .ok (.istore_n 1, 1) := by decide +kernel
theorem dX11_goes_99 : decode cX11_goes 99 = .ok (.iload_n 1, 1) := by decide +kernel
theorem dX11_goes_100 : decode cX11_goes 100 = .ok (.aload_n 0, 1) := by decide +kernel
theorem dX11_goes_101 : decode cX11_goes 101 = .ok (.getfield 168, 3) := by decide +kernel
theorem dX11_goes_104 : decode cX11_goes 104 = .ok (.if_icmp .ge 23, 3) := by decide +kernel
theorem dX11_goes_107 : decode cX11_goes 107 = .ok (.aload_n 0, 1) := by decide +kernel
theorem dX11_goes_108 : decode cX11_goes 108 = .ok (.aload_n 0, 1) := by decide +kernel
theorem dX11_goes_109 : decode cX11_goes 109 = .ok (.getfield 165, 3) := by decide +kernel
theorem dX11_goes_112 : decode cX11_goes 112 = .ok (.aload_n 0, 1) := by decide +kernel
theorem dX11_goes_113 : decode cX11_goes 113 = .ok (.getfield 66, 3) := by decide +kernel
theorem dX11_goes_116 : decode cX11_goes 116 = .ok (.iload_n 1, 1) := by decide +kernel
theorem dX11_goes_117 : decode cX11_goes 117 = .ok (.iaload, 1) := by decide +kernel
theorem dX11_goes_118 : decode cX11_goes 118 = .ok (.invokevirtual 191, 3) := by decide +kernel
theorem dX11_goes_121 : decode cX11_goes 121 = .ok (.iinc 1 1, 3) := by decide +kernel
theorem dX11_goes_124 : decode cX11_goes 124 = .ok (.goto (-25), 3) := by decide +kernel
theorem dX11_goes_127 : decode cX11_goes 127 = .ok (.aload_n 0, 1) := by decide +kernel
theorem dX11_goes_128 : decode cX11_goes 128 = .ok (.iconst 0, 1) := by decide +kernel
theorem dX11_goes_129 : decode cX11_goes 129 = .ok (.putfield 197, 3) := by decide +kernel
theorem dX11_goes_132 : decode cX11_goes 132 = .ok (.aload_n 0, 1) := by decide +kernel
theorem dX11_goes_133 : decode cX11_goes 133 = .ok (.aload_n 0, 1) := by decide +kernel
theorem dX11_goes_134 : decode cX11_goes 134 = .ok (.getfield 165, 3) := by decide +kernel
theorem dX11_goes_137 : decode cX11_goes 137 = .ok (.invokevirtual 200, 3) := by decide +kernel
theorem dX11_goes_140 : decode cX11_goes 140 = .ok (.aload_n 0, 1) := by decide +kernel
theorem dX11_goes_141 : decode cX11_goes 141 = .ok (.getfield 197, 3) := by decide +kernel
theorem dX11_goes_144 : decode cX11_goes 144 = .ok (.ifCond .le 50, 3) := by decide +kernel
theorem dX11_goes_147 : decode cX11_goes 147 = .ok (.aload_n 0, 1) := by decide +kernel
theorem dX11_goes_148 : decode cX11_goes 148 = .ok (.getfield 171, 3) := by decide +kernel
theorem dX11_goes_151 : decode cX11_goes 151 = .ok (.ifCond .ne 43, 3) := by decide +kernel
theorem dX11_goes_154 : decode cX11_goes 154 = .ok (.aload_n 0, 1) := by decide +kernel
theorem dX11_goes_155 : decode cX11_goes 155 = .ok (.dup, 1) := by decide +kernel
theorem dX11_goes_156 : decode cX11_goes 156 = .ok (.getfield 197, 3) := by decide +kernel
theorem dX11_goes_159 : decode cX11_goes 159 = .ok (.iconst 1, 1) := by decide +kernel
theorem dX11_goes_160 : decode cX11_goes 160 = .ok (.isub, 1) := by decide +kernel
theorem dX11_goes_161 : decode cX11_goes 161 = .ok (.putfield 197, 3) := by decide +kernel
theorem dX11_goes_164 : decode cX11_goes 164 = .ok (.aload_n 0, 1) := by decide +kernel
theorem dX11_goes_165 : decode cX11_goes 165 = .ok (.getfield 75, 3) := by decide +kernel
theorem dX11_goes_168 : decode cX11_goes 168 = .ok (.aload_n 0, 1) := by decide +kernel
theorem dX11_goes_169 : decode cX11_goes 169 = .ok (.getfield 197, 3) := by decide +kernel
theorem dX11_goes_172 : decode cX11_goes 172 = .ok (.iaload, 1) := by decide +kernel
theorem dX11_goes_173 : decode cX11_goes 173 = .ok (.istore_n 1, 1) := by decide +kernel
theorem dX11_goes_174 : decode cX11_goes 174 = .ok (.aload_n 0, 1) := by decide +kernel
theorem dX11_goes_175 : decode cX11_goes 175 = .ok (.iload_n 1, 1) := by decide +kernel
theorem dX11_goes_176 : decode cX11_goes 176 = .ok (.invokevirtual 204, 3) := by decide +kernel
theorem dX11_goes_179 : decode cX11_goes 179 = .ok (.aload_n 0, 1) := by decide +kernel
theorem dX11_goes_180 : decode cX11_goes 180 = .ok (.getfield 171, 3) := by decide +kernel
theorem dX11_goes_183 : decode cX11_goes 183 = .ok (.ifCond .ne 8, 3) := by decide +kernel
theorem dX11_goes_186 : decode cX11_goes 186 = .ok (.aload_n 0, 1) := by decide +kernel
theorem dX11_goes_187 : decode cX11_goes 187 = .ok (.iload_n 1, 1) := by decide +kernel
theorem dX11_goes_188 : decode cX11_goes 188 = .ok (.invokevirtual 207, 3) := by decide +kernel
theorem dX11_goes_191 : decode cX11_goes 191 = .ok (.goto (-51), 3) := by decide +kernel
theorem dX11_goes_194 : decode cX11_goes 194 = .ok (.return_, 1) := by decide +kernel
theorem dX11_goesBelow_0 : decode cX11_goesBelow 0 = .ok (.aload_n 0, 1) := by decide +kernel
theorem dX11_goesBelow_1 : decode cX11_goesBelow 1 = .ok (.getfield 26, 3) := by decide +kernel
theorem dX11_goesBelow_4 : decode cX11_goesBelow 4 = .ok (.iload_n 1, 1) := by decide +kernel
theorem dX11_goesBelow_5 : decode cX11_goesBelow 5 = .ok (.iaload, 1) := by decide +kernel
theorem dX11_goesBelow_6 : decode cX11_goesBelow 6 = .ok (.ifCond .ne 9, 3) := by decide +kernel
theorem dX11_goesBelow_9 : decode cX11_goesBelow 9 = .ok (.aload_n 0, 1) := by decide +kernel
theorem dX11_goesBelow_10 : decode cX11_goesBelow 10 = .ok (.iload_n 1, 1) := by decide +kernel
theorem dX11_goesBelow_11 : decode cX11_goesBelow 11 = .ok (.invokevirtual 210, 3) := by decide +kernel
theorem dX11_goesBelow_14 : decode cX11_goesBelow 14 = .ok (.return_, 1) := by decide +kernel
theorem dX11_goesBelow_15 : decode cX11_goesBelow 15 = .ok (.aload_n 0, 1) := by decide +kernel
theorem dX11_goesBelow_16 : decode cX11_goesBelow 16 = .ok (.getfield 26, 3) := by decide +kernel
theorem dX11_goesBelow_19 : decode cX11_goesBelow 19 = .ok (.iload_n 1, 1) := by decide +kernel
theorem dX11_goesBelow_20 : decode cX11_goesBelow 20 = .ok (.iaload, 1) := by decide +kernel
theorem dX11_goesBelow_21 : decode cX11_goesBelow 21 = .ok (.iconst 3, 1) := by decide +kernel
theorem dX11_goesBelow_22 : decode cX11_goesBelow 22 = .ok (.if_icmp .ne 34, 3) := by decide +kernel
theorem dX11_goesBelow_25 : decode cX11_goesBelow 25 = .ok (.aload_n 0, 1) := by decide +kernel
theorem dX11_goesBelow_26 : decode cX11_goesBelow 26 = .ok (.iload_n 1, 1) := by decide +kernel
theorem dX11_goesBelow_27 : decode cX11_goesBelow 27 = .ok (.invokevirtual 213, 3) := by decide +kernel
theorem dX11_goesBelow_30 : decode cX11_goesBelow 30 = .ok (.aload_n 0, 1) := by decide +kernel
theorem dX11_goesBelow_31 : decode cX11_goesBelow 31 = .ok (.iload_n 1, 1) := by decide +kernel
theorem dX11_goesBelow_32 : decode cX11_goesBelow 32 = .ok (.invokevirtual 216, 3) := by decide +kernel
theorem dX11_goesBelow_35 : decode cX11_goesBelow 35 = .ok (.aload_n 0, 1) := by decide +kernel
theorem dX11_goesBelow_36 : decode cX11_goesBelow 36 = .ok (.aload_n 0, 1) := by decide +kernel
theorem dX11_goesBelow_37 : decode cX11_goesBelow 37 = .ok (.getfield 29, 3) := by decide +kernel
theorem dX11_goesBelow_40 : decode cX11_goesBelow 40 = .ok (.iload_n 1, 1) := by decide +kernel
theorem dX11_goesBelow_41 : decode cX11_goesBelow 41 = .ok (.iaload, 1) := by decide +kernel
theorem dX11_goesBelow_42 : decode cX11_goesBelow 42 = .ok (.invokevirtual 200, 3) := by decide +kernel
theorem dX11_goesBelow_45 : decode cX11_goesBelow 45 = .ok (.aload_n 0, 1) := by decide +kernel
theorem dX11_goesBelow_46 : decode cX11_goesBelow 46 = .ok (.aload_n 0, 1) := by decide +kernel
theorem dX11_goesBelow_47 : decode cX11_goesBelow 47 = .ok (.getfield 32, 3) := by decide +kernel
theorem dX11_goesBelow_50 : decode cX11_goesBelow 50 = .ok (.iload_n 1, 1) := by decide +kernel
theorem dX11_goesBelow_51 : decode cX11_goesBelow 51 = .ok (.iaload, 1) := by decide +kernel
theorem dX11_goesBelow_52 : decode cX11_goesBelow 52 = .ok (.invokevirtual 200, 3) := by decide +kernel
theorem dX11_goesBelow_55 : decode cX11_goesBelow 55 = .ok (.return_, 1) := by decide +kernel
theorem dX11_goesBelow_56 : decode cX11_goesBelow 56 = .ok (.aload_n 0, 1) := by decide +kernel
theorem dX11_goesBelow_57 : decode cX11_goesBelow 57 = .ok (.iload_n 1, 1) := by decide +kernel
theorem dX11_goesBelow_58 : decode cX11_goesBelow 58 = .ok (.invokevirtual 219, 3) := by decide +kernel
theorem dX11_goesBelow_61 : decode cX11_goesBelow 61 = .ok (.aload_n 0, 1) := by decide +kernel
theorem dX11_goesBelow_62 : decode cX11_goesBelow 62 = .ok (.aload_n 0, 1) := by decide +kernel
theorem dX11_goesBelow_63 : decode cX11_goesBelow 63 = .ok (.getfield 29, 3) := by decide +kernel
theorem dX11_goesBelow_66 : decode cX11_goesBelow 66 = .ok (.iload_n 1, 1) := by decide +kernel
theorem dX11_goesBelow_67 : decode cX11_goesBelow 67 = .ok (.iaload, 1) := by decide +kernel
theorem dX11_goesBelow_68 : decode cX11_goesBelow 68 = .ok (.invokevirtual 200, 3) := by decide +kernel
theorem dX11_goesBelow_71 : decode cX11_goesBelow 71 = .ok (.return_, 1) := by decide +kernel
theorem dX11_asksDraft_0 : decode cX11_asksDraft 0 = .ok (.aload_n 0, 1) := by decide +kernel
theorem dX11_asksDraft_1 : decode cX11_asksDraft 1 = .ok (.aload_n 0, 1) := by decide +kernel
theorem dX11_asksDraft_2 : decode cX11_asksDraft 2 = .ok (.getfield 161, 3) := by decide +kernel
theorem dX11_asksDraft_5 : decode cX11_asksDraft 5 = .ok (.ifCond .eq 7, 3) := by decide +kernel
theorem dX11_asksDraft_8 : decode cX11_asksDraft 8 = .ok (.iconst 0, 1) := by decide +kernel
theorem dX11_asksDraft_9 : decode cX11_asksDraft 9 = .ok (.goto 4, 3) := by decide +kernel
theorem dX11_asksDraft_12 : decode cX11_asksDraft 12 = .ok (.iconst 1, 1) := by decide +kernel
theorem dX11_asksDraft_13 : decode cX11_asksDraft 13 = .ok (.putfield 87, 3) := by decide +kernel
theorem dX11_asksDraft_16 : decode cX11_asksDraft 16 = .ok (.aload_n 0, 1) := by decide +kernel
theorem dX11_asksDraft_17 : decode cX11_asksDraft 17 = .ok (.getfield 87, 3) := by decide +kernel
theorem dX11_asksDraft_20 : decode cX11_asksDraft 20 = .ok (.ifCond .ne 7, 3) := by decide +kernel
theorem dX11_asksDraft_23 : decode cX11_asksDraft 23 = .ok (.iconst 1, 1) := by decide +kernel
theorem dX11_asksDraft_24 : decode cX11_asksDraft 24 = .ok (.goto 4, 3) := by decide +kernel
theorem dX11_asksDraft_27 : decode cX11_asksDraft 27 = .ok (.iconst 0, 1) := by decide +kernel
theorem dX11_asksDraft_28 : decode cX11_asksDraft 28 = .ok (.ireturn, 1) := by decide +kernel
theorem dX11_conflict_0 : decode cX11_conflict 0 = .ok (.aload_n 0, 1) := by decide +kernel
theorem dX11_conflict_1 : decode cX11_conflict 1 = .ok (.invokevirtual 222, 3) := by decide +kernel
theorem dX11_conflict_4 : decode cX11_conflict 4 = .ok (.ifCond .ne 5, 3) := by decide +kernel
theorem dX11_conflict_7 : decode cX11_conflict 7 = .ok (.iconst 0, 1) := by decide +kernel
theorem dX11_conflict_8 : decode cX11_conflict 8 = .ok (.ireturn, 1) := by decide +kernel
theorem dX11_conflict_9 : decode cX11_conflict 9 = .ok (.aload_n 0, 1) := by decide +kernel
theorem dX11_conflict_10 : decode cX11_conflict 10 = .ok (.invokevirtual 226, 3) := by decide +kernel
theorem dX11_conflict_13 : decode cX11_conflict 13 = .ok (.aload_n 0, 1) := by decide +kernel
theorem dX11_conflict_14 : decode cX11_conflict 14 = .ok (.getfield 171, 3) := by decide +kernel
theorem dX11_conflict_17 : decode cX11_conflict 17 = .ok (.ireturn, 1) := by decide +kernel
theorem dX11_conflictRow_0 : decode cX11_conflictRow 0 = .ok (.aload_n 0, 1) := by decide +kernel
theorem dX11_conflictRow_1 : decode cX11_conflictRow 1 = .ok (.aload_n 0, 1) := by decide +kernel
theorem dX11_conflictRow_2 : decode cX11_conflictRow 2 = .ok (.getfield 161, 3) := by decide +kernel
theorem dX11_conflictRow_5 : decode cX11_conflictRow 5 = .ok (.ifCond .ne 7, 3) := by decide +kernel
theorem dX11_conflictRow_8 : decode cX11_conflictRow 8 = .ok (.iconst 1, 1) := by decide +kernel
theorem dX11_conflictRow_9 : decode cX11_conflictRow 9 = .ok (.goto 17, 3) := by decide +kernel
theorem dX11_conflictRow_12 : decode cX11_conflictRow 12 = .ok (.iload_n 1, 1) := by decide +kernel
theorem dX11_conflictRow_13 : decode cX11_conflictRow 13 = .ok (.iconst 0, 1) := by decide +kernel
theorem dX11_conflictRow_14 : decode cX11_conflictRow 14 = .ok (.iconst 1, 1) := by decide +kernel
theorem dX11_conflictRow_15 : decode cX11_conflictRow 15 = .ok (.invokestatic 96, 3) := by decide +kernel
theorem dX11_conflictRow_18 : decode cX11_conflictRow 18 = .ok (.ifCond .eq 7, 3) := by decide +kernel
theorem dX11_conflictRow_21 : decode cX11_conflictRow 21 = .ok (.iconst 0, 1) := by decide +kernel
theorem dX11_conflictRow_22 : decode cX11_conflictRow 22 = .ok (.goto 4, 3) := by decide +kernel
theorem dX11_conflictRow_25 : decode cX11_conflictRow 25 = .ok (.iconst 2, 1) := by decide +kernel
theorem dX11_conflictRow_26 : decode cX11_conflictRow 26 = .ok (.putfield 87, 3) := by decide +kernel
theorem dX11_conflictRow_29 : decode cX11_conflictRow 29 = .ok (.aload_n 0, 1) := by decide +kernel
theorem dX11_conflictRow_30 : decode cX11_conflictRow 30 = .ok (.getfield 87, 3) := by decide +kernel
theorem dX11_conflictRow_33 : decode cX11_conflictRow 33 = .ok (.ifCond .le 5, 3) := by decide +kernel
theorem dX11_conflictRow_36 : decode cX11_conflictRow 36 = .ok (.iconst 0, 1) := by decide +kernel
theorem dX11_conflictRow_37 : decode cX11_conflictRow 37 = .ok (.ireturn, 1) := by decide +kernel
theorem dX11_conflictRow_38 : decode cX11_conflictRow 38 = .ok (.aload_n 0, 1) := by decide +kernel
theorem dX11_conflictRow_39 : decode cX11_conflictRow 39 = .ok (.invokevirtual 226, 3) := by decide +kernel
theorem dX11_conflictRow_42 : decode cX11_conflictRow 42 = .ok (.iload_n 1, 1) := by decide +kernel
theorem dX11_conflictRow_43 : decode cX11_conflictRow 43 = .ok (.ifCond .ne 10, 3) := by decide +kernel
theorem dX11_conflictRow_46 : decode cX11_conflictRow 46 = .ok (.aload_n 0, 1) := by decide +kernel
theorem dX11_conflictRow_47 : decode cX11_conflictRow 47 = .ok (.getfield 174, 3) := by decide +kernel
theorem dX11_conflictRow_50 : decode cX11_conflictRow 50 = .ok (.goto 7, 3) := by decide +kernel
theorem dX11_conflictRow_53 : decode cX11_conflictRow 53 = .ok (.aload_n 0, 1) := by decide +kernel
theorem dX11_conflictRow_54 : decode cX11_conflictRow 54 = .ok (.getfield 177, 3) := by decide +kernel
theorem dX11_conflictRow_57 : decode cX11_conflictRow 57 = .ok (.ireturn, 1) := by decide +kernel
theorem dX11_manyChanges_0 : decode cX11_manyChanges 0 = .ok (.iconst 0, 1) := by decide +kernel
theorem dX11_manyChanges_1 : decode cX11_manyChanges 1 = .ok (.istore_n 1, 1) := by decide +kernel
theorem dX11_manyChanges_2 : decode cX11_manyChanges 2 = .ok (.iconst 0, 1) := by decide +kernel
theorem dX11_manyChanges_3 : decode cX11_manyChanges 3 = .ok (.istore_n 2, 1) := by decide +kernel
theorem dX11_manyChanges_4 : decode cX11_manyChanges 4 = .ok (.iload_n 2, 1) := by decide +kernel
theorem dX11_manyChanges_5 : decode cX11_manyChanges 5 = .ok (.aload_n 0, 1) := by decide +kernel
theorem dX11_manyChanges_6 : decode cX11_manyChanges 6 = .ok (.getfield 103, 3) := by decide +kernel
theorem dX11_manyChanges_9 : decode cX11_manyChanges 9 = .ok (.if_icmp .ge 125, 3) := by decide +kernel
theorem dX11_manyChanges_12 : decode cX11_manyChanges 12 = .ok (.iconst 0, 1) := by decide +kernel
theorem dX11_manyChanges_13 : decode cX11_manyChanges 13 = .ok (.istore_n 3, 1) := by decide +kernel
theorem dX11_manyChanges_14 : decode cX11_manyChanges 14 = .ok (.iload_n 3, 1) := by decide +kernel
theorem dX11_manyChanges_15 : decode cX11_manyChanges 15 = .ok (.aload_n 0, 1) := by decide +kernel
theorem dX11_manyChanges_16 : decode cX11_manyChanges 16 = .ok (.getfield 20, 3) := by decide +kernel
theorem dX11_manyChanges_19 : decode cX11_manyChanges 19 = .ok (.iload_n 2, 1) := by decide +kernel
theorem dX11_manyChanges_20 : decode cX11_manyChanges 20 = .ok (.iaload, 1) := by decide +kernel
theorem dX11_manyChanges_21 : decode cX11_manyChanges 21 = .ok (.if_icmp .ge 49, 3) := by decide +kernel
theorem dX11_manyChanges_24 : decode cX11_manyChanges 24 = .ok (.iload_n 1, 1) := by decide +kernel
theorem dX11_manyChanges_25 : decode cX11_manyChanges 25 = .ok (.aload_n 0, 1) := by decide +kernel
theorem dX11_manyChanges_26 : decode cX11_manyChanges 26 = .ok (.getfield 72, 3) := by decide +kernel
theorem dX11_manyChanges_29 : decode cX11_manyChanges 29 = .ok (.bipush 12, 2) := by decide +kernel
theorem dX11_manyChanges_31 : decode cX11_manyChanges 31 = .ok (.iload_n 2, 1) := by decide +kernel
theorem dX11_manyChanges_32 : decode cX11_manyChanges 32 = .ok (.imul, 1) := by decide +kernel
theorem dX11_manyChanges_33 : decode cX11_manyChanges 33 = .ok (.aload_n 0, 1) := by decide +kernel
theorem dX11_manyChanges_34 : decode cX11_manyChanges 34 = .ok (.getfield 69, 3) := by decide +kernel
theorem dX11_manyChanges_37 : decode cX11_manyChanges 37 = .ok (.iload_n 2, 1) := by decide +kernel
theorem dX11_manyChanges_38 : decode cX11_manyChanges 38 = .ok (.iaload, 1) := by decide +kernel
theorem dX11_manyChanges_39 : decode cX11_manyChanges 39 = .ok (.aload_n 0, 1) := by decide +kernel
theorem dX11_manyChanges_40 : decode cX11_manyChanges 40 = .ok (.getfield 23, 3) := by decide +kernel
theorem dX11_manyChanges_43 : decode cX11_manyChanges 43 = .ok (.bipush 12, 2) := by decide +kernel
theorem dX11_manyChanges_45 : decode cX11_manyChanges 45 = .ok (.iload_n 2, 1) := by decide +kernel
theorem dX11_manyChanges_46 : decode cX11_manyChanges 46 = .ok (.imul, 1) := by decide +kernel
theorem dX11_manyChanges_47 : decode cX11_manyChanges 47 = .ok (.iload_n 3, 1) := by decide +kernel
theorem dX11_manyChanges_48 : decode cX11_manyChanges 48 = .ok (.iadd, 1) := by decide +kernel
theorem dX11_manyChanges_49 : decode cX11_manyChanges 49 = .ok (.iaload, 1) := by decide +kernel
theorem dX11_manyChanges_50 : decode cX11_manyChanges 50 = .ok (.invokestatic 122, 3) := by decide +kernel
theorem dX11_manyChanges_53 : decode cX11_manyChanges 53 = .ok (.iconst (-1), 1) := by decide +kernel
theorem dX11_manyChanges_54 : decode cX11_manyChanges 54 = .ok (.if_icmp .ne 7, 3) := by decide +kernel
theorem dX11_manyChanges_57 : decode cX11_manyChanges 57 = .ok (.iconst 1, 1) := by decide +kernel
theorem dX11_manyChanges_58 : decode cX11_manyChanges 58 = .ok (.goto 4, 3) := by decide +kernel
theorem dX11_manyChanges_61 : decode cX11_manyChanges 61 = .ok (.iconst 0, 1) := by decide +kernel
theorem dX11_manyChanges_62 : decode cX11_manyChanges 62 = .ok (.iadd, 1) := by decide +kernel
theorem dX11_manyChanges_63 : decode cX11_manyChanges 63 = .ok (.istore_n 1, 1) := by decide +kernel
theorem dX11_manyChanges_64 : decode cX11_manyChanges 64 = .ok (.iinc 3 1, 3) := by decide +kernel
theorem dX11_manyChanges_67 : decode cX11_manyChanges 67 = .ok (.goto (-53), 3) := by decide +kernel
theorem dX11_manyChanges_70 : decode cX11_manyChanges 70 = .ok (.iconst 0, 1) := by decide +kernel
theorem dX11_manyChanges_71 : decode cX11_manyChanges 71 = .ok (.istore_n 3, 1) := by decide +kernel
theorem dX11_manyChanges_72 : decode cX11_manyChanges 72 = .ok (.iload_n 3, 1) := by decide +kernel
theorem dX11_manyChanges_73 : decode cX11_manyChanges 73 = .ok (.aload_n 0, 1) := by decide +kernel
theorem dX11_manyChanges_74 : decode cX11_manyChanges 74 = .ok (.getfield 69, 3) := by decide +kernel
theorem dX11_manyChanges_77 : decode cX11_manyChanges 77 = .ok (.iload_n 2, 1) := by decide +kernel
theorem dX11_manyChanges_78 : decode cX11_manyChanges 78 = .ok (.iaload, 1) := by decide +kernel
theorem dX11_manyChanges_79 : decode cX11_manyChanges 79 = .ok (.if_icmp .ge 49, 3) := by decide +kernel
theorem dX11_manyChanges_82 : decode cX11_manyChanges 82 = .ok (.iload_n 1, 1) := by decide +kernel
theorem dX11_manyChanges_83 : decode cX11_manyChanges 83 = .ok (.aload_n 0, 1) := by decide +kernel
theorem dX11_manyChanges_84 : decode cX11_manyChanges 84 = .ok (.getfield 23, 3) := by decide +kernel
theorem dX11_manyChanges_87 : decode cX11_manyChanges 87 = .ok (.bipush 12, 2) := by decide +kernel
theorem dX11_manyChanges_89 : decode cX11_manyChanges 89 = .ok (.iload_n 2, 1) := by decide +kernel
theorem dX11_manyChanges_90 : decode cX11_manyChanges 90 = .ok (.imul, 1) := by decide +kernel
theorem dX11_manyChanges_91 : decode cX11_manyChanges 91 = .ok (.aload_n 0, 1) := by decide +kernel
theorem dX11_manyChanges_92 : decode cX11_manyChanges 92 = .ok (.getfield 20, 3) := by decide +kernel
theorem dX11_manyChanges_95 : decode cX11_manyChanges 95 = .ok (.iload_n 2, 1) := by decide +kernel
theorem dX11_manyChanges_96 : decode cX11_manyChanges 96 = .ok (.iaload, 1) := by decide +kernel
theorem dX11_manyChanges_97 : decode cX11_manyChanges 97 = .ok (.aload_n 0, 1) := by decide +kernel
theorem dX11_manyChanges_98 : decode cX11_manyChanges 98 = .ok (.getfield 72, 3) := by decide +kernel
theorem dX11_manyChanges_101 : decode cX11_manyChanges 101 = .ok (.bipush 12, 2) := by decide +kernel
theorem dX11_manyChanges_103 : decode cX11_manyChanges 103 = .ok (.iload_n 2, 1) := by decide +kernel
theorem dX11_manyChanges_104 : decode cX11_manyChanges 104 = .ok (.imul, 1) := by decide +kernel
theorem dX11_manyChanges_105 : decode cX11_manyChanges 105 = .ok (.iload_n 3, 1) := by decide +kernel
theorem dX11_manyChanges_106 : decode cX11_manyChanges 106 = .ok (.iadd, 1) := by decide +kernel
theorem dX11_manyChanges_107 : decode cX11_manyChanges 107 = .ok (.iaload, 1) := by decide +kernel
theorem dX11_manyChanges_108 : decode cX11_manyChanges 108 = .ok (.invokestatic 122, 3) := by decide +kernel
theorem dX11_manyChanges_111 : decode cX11_manyChanges 111 = .ok (.iconst (-1), 1) := by decide +kernel
theorem dX11_manyChanges_112 : decode cX11_manyChanges 112 = .ok (.if_icmp .ne 7, 3) := by decide +kernel
theorem dX11_manyChanges_115 : decode cX11_manyChanges 115 = .ok (.iconst 1, 1) := by decide +kernel
theorem dX11_manyChanges_116 : decode cX11_manyChanges 116 = .ok (.goto 4, 3) := by decide +kernel
theorem dX11_manyChanges_119 : decode cX11_manyChanges 119 = .ok (.iconst 0, 1) := by decide +kernel
theorem dX11_manyChanges_120 : decode cX11_manyChanges 120 = .ok (.iadd, 1) := by decide +kernel
theorem dX11_manyChanges_121 : decode cX11_manyChanges 121 = .ok (.istore_n 1, 1) := by decide +kernel
theorem dX11_manyChanges_122 : decode cX11_manyChanges 122 = .ok (.iinc 3 1, 3) := by decide +kernel
theorem dX11_manyChanges_125 : decode cX11_manyChanges 125 = .ok (.goto (-53), 3) := by decide +kernel
theorem dX11_manyChanges_128 : decode cX11_manyChanges 128 = .ok (.iinc 2 1, 3) := by decide +kernel
theorem dX11_manyChanges_131 : decode cX11_manyChanges 131 = .ok (.goto (-127), 3) := by decide +kernel
theorem dX11_manyChanges_134 : decode cX11_manyChanges 134 = .ok (.iload_n 1, 1) := by decide +kernel
theorem dX11_manyChanges_135 : decode cX11_manyChanges 135 = .ok (.ireturn, 1) := by decide +kernel
theorem dX11_changes_0 : decode cX11_changes 0 = .ok (.aload_n 0, 1) := by decide +kernel
theorem dX11_changes_1 : decode cX11_changes 1 = .ok (.invokevirtual 222, 3) := by decide +kernel
theorem dX11_changes_4 : decode cX11_changes 4 = .ok (.ifCond .ne 5, 3) := by decide +kernel
theorem dX11_changes_7 : decode cX11_changes 7 = .ok (.iconst 0, 1) := by decide +kernel
theorem dX11_changes_8 : decode cX11_changes 8 = .ok (.ireturn, 1) := by decide +kernel
theorem dX11_changes_9 : decode cX11_changes 9 = .ok (.aload_n 0, 1) := by decide +kernel
theorem dX11_changes_10 : decode cX11_changes 10 = .ok (.invokevirtual 226, 3) := by decide +kernel
theorem dX11_changes_13 : decode cX11_changes 13 = .ok (.aload_n 0, 1) := by decide +kernel
theorem dX11_changes_14 : decode cX11_changes 14 = .ok (.getfield 171, 3) := by decide +kernel
theorem dX11_changes_17 : decode cX11_changes 17 = .ok (.ifCond .le 7, 3) := by decide +kernel
theorem dX11_changes_20 : decode cX11_changes 20 = .ok (.iconst (-1), 1) := by decide +kernel
theorem dX11_changes_21 : decode cX11_changes 21 = .ok (.goto 7, 3) := by decide +kernel
theorem dX11_changes_24 : decode cX11_changes 24 = .ok (.aload_n 0, 1) := by decide +kernel
theorem dX11_changes_25 : decode cX11_changes 25 = .ok (.invokevirtual 229, 3) := by decide +kernel
theorem dX11_changes_28 : decode cX11_changes 28 = .ok (.ireturn, 1) := by decide +kernel
theorem dX11_tableOf_0 : decode cX11_tableOf 0 = .ok (.aload_n 0, 1) := by decide +kernel
theorem dX11_tableOf_1 : decode cX11_tableOf 1 = .ok (.getfield 51, 3) := by decide +kernel
theorem dX11_tableOf_4 : decode cX11_tableOf 4 = .ok (.iload_n 1, 1) := by decide +kernel
theorem dX11_tableOf_5 : decode cX11_tableOf 5 = .ok (.iaload, 1) := by decide +kernel
theorem dX11_tableOf_6 : decode cX11_tableOf 6 = .ok (.iconst 1, 1) := by decide +kernel
theorem dX11_tableOf_7 : decode cX11_tableOf 7 = .ok (.if_icmp .ne 7, 3) := by decide +kernel
theorem dX11_tableOf_10 : decode cX11_tableOf 10 = .ok (.iconst 0, 1) := by decide +kernel
theorem dX11_tableOf_11 : decode cX11_tableOf 11 = .ok (.goto 32, 3) := by decide +kernel
theorem dX11_tableOf_14 : decode cX11_tableOf 14 = .ok (.aload_n 0, 1) := by decide +kernel
theorem dX11_tableOf_15 : decode cX11_tableOf 15 = .ok (.getfield 51, 3) := by decide +kernel
theorem dX11_tableOf_18 : decode cX11_tableOf 18 = .ok (.iload_n 1, 1) := by decide +kernel
theorem dX11_tableOf_19 : decode cX11_tableOf 19 = .ok (.iaload, 1) := by decide +kernel
theorem dX11_tableOf_20 : decode cX11_tableOf 20 = .ok (.iconst 2, 1) := by decide +kernel
theorem dX11_tableOf_21 : decode cX11_tableOf 21 = .ok (.if_icmp .ne 7, 3) := by decide +kernel
theorem dX11_tableOf_24 : decode cX11_tableOf 24 = .ok (.iconst 1, 1) := by decide +kernel
theorem dX11_tableOf_25 : decode cX11_tableOf 25 = .ok (.goto 18, 3) := by decide +kernel
theorem dX11_tableOf_28 : decode cX11_tableOf 28 = .ok (.aload_n 0, 1) := by decide +kernel
theorem dX11_tableOf_29 : decode cX11_tableOf 29 = .ok (.getfield 51, 3) := by decide +kernel
theorem dX11_tableOf_32 : decode cX11_tableOf 32 = .ok (.iload_n 1, 1) := by decide +kernel
theorem dX11_tableOf_33 : decode cX11_tableOf 33 = .ok (.iaload, 1) := by decide +kernel
theorem dX11_tableOf_34 : decode cX11_tableOf 34 = .ok (.iconst 4, 1) := by decide +kernel
theorem dX11_tableOf_35 : decode cX11_tableOf 35 = .ok (.if_icmp .ne 7, 3) := by decide +kernel
theorem dX11_tableOf_38 : decode cX11_tableOf 38 = .ok (.iconst 2, 1) := by decide +kernel
theorem dX11_tableOf_39 : decode cX11_tableOf 39 = .ok (.goto 4, 3) := by decide +kernel
theorem dX11_tableOf_42 : decode cX11_tableOf 42 = .ok (.iconst (-1), 1) := by decide +kernel
theorem dX11_tableOf_43 : decode cX11_tableOf 43 = .ok (.ireturn, 1) := by decide +kernel
theorem dX11_count_0 : decode cX11_count 0 = .ok (.iconst 0, 1) := by decide +kernel
theorem dX11_count_1 : decode cX11_count 1 = .ok (.istore_n 1, 1) := by decide +kernel
theorem dX11_count_2 : decode cX11_count 2 = .ok (.iload_n 0, 1) := by decide +kernel
theorem dX11_count_3 : decode cX11_count 3 = .ok (.istore_n 2, 1) := by decide +kernel
theorem dX11_count_4 : decode cX11_count 4 = .ok (.iload_n 2, 1) := by decide +kernel
theorem dX11_count_5 : decode cX11_count 5 = .ok (.ifCond .le 16, 3) := by decide +kernel
theorem dX11_count_8 : decode cX11_count 8 = .ok (.iload_n 1, 1) := by decide +kernel
theorem dX11_count_9 : decode cX11_count 9 = .ok (.iload_n 2, 1) := by decide +kernel
theorem dX11_count_10 : decode cX11_count 10 = .ok (.iconst 2, 1) := by decide +kernel
theorem dX11_count_11 : decode cX11_count 11 = .ok (.irem, 1) := by decide +kernel
theorem dX11_count_12 : decode cX11_count 12 = .ok (.iadd, 1) := by decide +kernel
theorem dX11_count_13 : decode cX11_count 13 = .ok (.istore_n 1, 1) := by decide +kernel
theorem dX11_count_14 : decode cX11_count 14 = .ok (.iload_n 2, 1) := by decide +kernel
theorem dX11_count_15 : decode cX11_count 15 = .ok (.iconst 2, 1) := by decide +kernel
theorem dX11_count_16 : decode cX11_count 16 = .ok (.idiv, 1) := by decide +kernel
theorem dX11_count_17 : decode cX11_count 17 = .ok (.istore_n 2, 1) := by decide +kernel
theorem dX11_count_18 : decode cX11_count 18 = .ok (.goto (-14), 3) := by decide +kernel
theorem dX11_count_21 : decode cX11_count 21 = .ok (.iload_n 1, 1) := by decide +kernel
theorem dX11_count_22 : decode cX11_count 22 = .ok (.ireturn, 1) := by decide +kernel
theorem dX11_canTry_0 : decode cX11_canTry 0 = .ok (.aload_n 0, 1) := by decide +kernel
theorem dX11_canTry_1 : decode cX11_canTry 1 = .ok (.aload_n 0, 1) := by decide +kernel
theorem dX11_canTry_2 : decode cX11_canTry 2 = .ok (.getfield 165, 3) := by decide +kernel
theorem dX11_canTry_5 : decode cX11_canTry 5 = .ok (.invokevirtual 233, 3) := by decide +kernel
theorem dX11_canTry_8 : decode cX11_canTry 8 = .ok (.istore_n 1, 1) := by decide +kernel
theorem dX11_canTry_9 : decode cX11_canTry 9 = .ok (.iload_n 1, 1) := by decide +kernel
theorem dX11_canTry_10 : decode cX11_canTry 10 = .ok (.iconst (-1), 1) := by decide +kernel
theorem dX11_canTry_11 : decode cX11_canTry 11 = .ok (.if_icmp .eq 20, 3) := by decide +kernel
theorem dX11_canTry_14 : decode cX11_canTry 14 = .ok (.aload_n 0, 1) := by decide +kernel
theorem dX11_canTry_15 : decode cX11_canTry 15 = .ok (.getfield 14, 3) := by decide +kernel
theorem dX11_canTry_18 : decode cX11_canTry 18 = .ok (.iload_n 1, 1) := by decide +kernel
theorem dX11_canTry_19 : decode cX11_canTry 19 = .ok (.iaload, 1) := by decide +kernel
theorem dX11_canTry_20 : decode cX11_canTry 20 = .ok (.invokestatic 236, 3) := by decide +kernel
theorem dX11_canTry_23 : decode cX11_canTry 23 = .ok (.iconst 2, 1) := by decide +kernel
theorem dX11_canTry_24 : decode cX11_canTry 24 = .ok (.if_icmp .gt 7, 3) := by decide +kernel
theorem dX11_canTry_27 : decode cX11_canTry 27 = .ok (.iconst 1, 1) := by decide +kernel
theorem dX11_canTry_28 : decode cX11_canTry 28 = .ok (.goto 4, 3) := by decide +kernel
theorem dX11_canTry_31 : decode cX11_canTry 31 = .ok (.iconst 0, 1) := by decide +kernel
theorem dX11_canTry_32 : decode cX11_canTry 32 = .ok (.istore_n 2, 1) := by decide +kernel
theorem dX11_canTry_33 : decode cX11_canTry 33 = .ok (.iconst 0, 1) := by decide +kernel
theorem dX11_canTry_34 : decode cX11_canTry 34 = .ok (.istore_n 3, 1) := by decide +kernel
theorem dX11_canTry_35 : decode cX11_canTry 35 = .ok (.iload_n 2, 1) := by decide +kernel
theorem dX11_canTry_36 : decode cX11_canTry 36 = .ok (.ifCond .eq 66, 3) := by decide +kernel
theorem dX11_canTry_39 : decode cX11_canTry 39 = .ok (.iload_n 3, 1) := by decide +kernel
theorem dX11_canTry_40 : decode cX11_canTry 40 = .ok (.aload_n 0, 1) := by decide +kernel
theorem dX11_canTry_41 : decode cX11_canTry 41 = .ok (.getfield 20, 3) := by decide +kernel
theorem dX11_canTry_44 : decode cX11_canTry 44 = .ok (.iload_n 1, 1) := by decide +kernel
theorem dX11_canTry_45 : decode cX11_canTry 45 = .ok (.iaload, 1) := by decide +kernel
theorem dX11_canTry_46 : decode cX11_canTry 46 = .ok (.if_icmp .ge 56, 3) := by decide +kernel
theorem dX11_canTry_49 : decode cX11_canTry 49 = .ok (.iconst 0, 1) := by decide +kernel
theorem dX11_canTry_50 : decode cX11_canTry 50 = .ok (.istore 4, 2) := by decide +kernel
theorem dX11_canTry_52 : decode cX11_canTry 52 = .ok (.iload 4, 2) := by decide +kernel
theorem dX11_canTry_54 : decode cX11_canTry 54 = .ok (.bipush 6, 2) := by decide +kernel
theorem dX11_canTry_56 : decode cX11_canTry 56 = .ok (.if_icmp .ge 40, 3) := by decide +kernel
theorem dX11_canTry_59 : decode cX11_canTry 59 = .ok (.iload_n 2, 1) := by decide +kernel
theorem dX11_canTry_60 : decode cX11_canTry 60 = .ok (.ifCond .eq 28, 3) := by decide +kernel
theorem dX11_canTry_63 : decode cX11_canTry 63 = .ok (.aload_n 0, 1) := by decide +kernel
theorem dX11_canTry_64 : decode cX11_canTry 64 = .ok (.aload_n 0, 1) := by decide +kernel
theorem dX11_canTry_65 : decode cX11_canTry 65 = .ok (.getfield 23, 3) := by decide +kernel
theorem dX11_canTry_68 : decode cX11_canTry 68 = .ok (.bipush 12, 2) := by decide +kernel
theorem dX11_canTry_70 : decode cX11_canTry 70 = .ok (.iload_n 1, 1) := by decide +kernel
theorem dX11_canTry_71 : decode cX11_canTry 71 = .ok (.imul, 1) := by decide +kernel
theorem dX11_canTry_72 : decode cX11_canTry 72 = .ok (.iload_n 3, 1) := by decide +kernel
theorem dX11_canTry_73 : decode cX11_canTry 73 = .ok (.iadd, 1) := by decide +kernel
theorem dX11_canTry_74 : decode cX11_canTry 74 = .ok (.iaload, 1) := by decide +kernel
theorem dX11_canTry_75 : decode cX11_canTry 75 = .ok (.iload 4, 2) := by decide +kernel
theorem dX11_canTry_77 : decode cX11_canTry 77 = .ok (.invokevirtual 91, 3) := by decide +kernel
theorem dX11_canTry_80 : decode cX11_canTry 80 = .ok (.iconst 2, 1) := by decide +kernel
theorem dX11_canTry_81 : decode cX11_canTry 81 = .ok (.if_icmp .gt 7, 3) := by decide +kernel
theorem dX11_canTry_84 : decode cX11_canTry 84 = .ok (.iconst 1, 1) := by decide +kernel
theorem dX11_canTry_85 : decode cX11_canTry 85 = .ok (.goto 4, 3) := by decide +kernel
theorem dX11_canTry_88 : decode cX11_canTry 88 = .ok (.iconst 0, 1) := by decide +kernel
theorem dX11_canTry_89 : decode cX11_canTry 89 = .ok (.istore_n 2, 1) := by decide +kernel
theorem dX11_canTry_90 : decode cX11_canTry 90 = .ok (.iinc 4 1, 3) := by decide +kernel
theorem dX11_canTry_93 : decode cX11_canTry 93 = .ok (.goto (-41), 3) := by decide +kernel
theorem dX11_canTry_96 : decode cX11_canTry 96 = .ok (.iinc 3 1, 3) := by decide +kernel
theorem dX11_canTry_99 : decode cX11_canTry 99 = .ok (.goto (-64), 3) := by decide +kernel
theorem dX11_canTry_102 : decode cX11_canTry 102 = .ok (.iload_n 2, 1) := by decide +kernel
theorem dX11_canTry_103 : decode cX11_canTry 103 = .ok (.ireturn, 1) := by decide +kernel
theorem dX11_rowBy_0 : decode cX11_rowBy 0 = .ok (.iload_n 2, 1) := by decide +kernel
theorem dX11_rowBy_1 : decode cX11_rowBy 1 = .ok (.istore_n 3, 1) := by decide +kernel
theorem dX11_rowBy_2 : decode cX11_rowBy 2 = .ok (.iconst 0, 1) := by decide +kernel
theorem dX11_rowBy_3 : decode cX11_rowBy 3 = .ok (.istore 4, 2) := by decide +kernel
theorem dX11_rowBy_5 : decode cX11_rowBy 5 = .ok (.iconst 0, 1) := by decide +kernel
theorem dX11_rowBy_6 : decode cX11_rowBy 6 = .ok (.istore 5, 2) := by decide +kernel
theorem dX11_rowBy_8 : decode cX11_rowBy 8 = .ok (.iload 5, 2) := by decide +kernel
theorem dX11_rowBy_10 : decode cX11_rowBy 10 = .ok (.bipush 6, 2) := by decide +kernel
theorem dX11_rowBy_12 : decode cX11_rowBy 12 = .ok (.if_icmp .ge 39, 3) := by decide +kernel
theorem dX11_rowBy_15 : decode cX11_rowBy 15 = .ok (.iload_n 1, 1) := by decide +kernel
theorem dX11_rowBy_16 : decode cX11_rowBy 16 = .ok (.iload 5, 2) := by decide +kernel
theorem dX11_rowBy_18 : decode cX11_rowBy 18 = .ok (.ishr, 1) := by decide +kernel
theorem dX11_rowBy_19 : decode cX11_rowBy 19 = .ok (.iconst 1, 1) := by decide +kernel
theorem dX11_rowBy_20 : decode cX11_rowBy 20 = .ok (.iand, 1) := by decide +kernel
theorem dX11_rowBy_21 : decode cX11_rowBy 21 = .ok (.iconst 1, 1) := by decide +kernel
theorem dX11_rowBy_22 : decode cX11_rowBy 22 = .ok (.if_icmp .ne 23, 3) := by decide +kernel
theorem dX11_rowBy_25 : decode cX11_rowBy 25 = .ok (.iload 4, 2) := by decide +kernel
theorem dX11_rowBy_27 : decode cX11_rowBy 27 = .ok (.iload_n 3, 1) := by decide +kernel
theorem dX11_rowBy_28 : decode cX11_rowBy 28 = .ok (.iconst 3, 1) := by decide +kernel
theorem dX11_rowBy_29 : decode cX11_rowBy 29 = .ok (.irem, 1) := by decide +kernel
theorem dX11_rowBy_30 : decode cX11_rowBy 30 = .ok (.aload_n 0, 1) := by decide +kernel
theorem dX11_rowBy_31 : decode cX11_rowBy 31 = .ok (.getfield 8, 3) := by decide +kernel
theorem dX11_rowBy_34 : decode cX11_rowBy 34 = .ok (.iload 5, 2) := by decide +kernel
theorem dX11_rowBy_36 : decode cX11_rowBy 36 = .ok (.iaload, 1) := by decide +kernel
theorem dX11_rowBy_37 : decode cX11_rowBy 37 = .ok (.imul, 1) := by decide +kernel
theorem dX11_rowBy_38 : decode cX11_rowBy 38 = .ok (.iadd, 1) := by decide +kernel
theorem dX11_rowBy_39 : decode cX11_rowBy 39 = .ok (.istore 4, 2) := by decide +kernel
theorem dX11_rowBy_41 : decode cX11_rowBy 41 = .ok (.iload_n 3, 1) := by decide +kernel
theorem dX11_rowBy_42 : decode cX11_rowBy 42 = .ok (.iconst 3, 1) := by decide +kernel
theorem dX11_rowBy_43 : decode cX11_rowBy 43 = .ok (.idiv, 1) := by decide +kernel
theorem dX11_rowBy_44 : decode cX11_rowBy 44 = .ok (.istore_n 3, 1) := by decide +kernel
theorem dX11_rowBy_45 : decode cX11_rowBy 45 = .ok (.iinc 5 1, 3) := by decide +kernel
theorem dX11_rowBy_48 : decode cX11_rowBy 48 = .ok (.goto (-40), 3) := by decide +kernel
theorem dX11_rowBy_51 : decode cX11_rowBy 51 = .ok (.iload_n 3, 1) := by decide +kernel
theorem dX11_rowBy_52 : decode cX11_rowBy 52 = .ok (.ifCond .le 7, 3) := by decide +kernel
theorem dX11_rowBy_55 : decode cX11_rowBy 55 = .ok (.iconst (-1), 1) := by decide +kernel
theorem dX11_rowBy_56 : decode cX11_rowBy 56 = .ok (.goto 5, 3) := by decide +kernel
theorem dX11_rowBy_59 : decode cX11_rowBy 59 = .ok (.iload 4, 2) := by decide +kernel
theorem dX11_rowBy_61 : decode cX11_rowBy 61 = .ok (.ireturn, 1) := by decide +kernel
theorem dX11_laysTable_0 : decode cX11_laysTable 0 = .ok (.aload_n 0, 1) := by decide +kernel
theorem dX11_laysTable_1 : decode cX11_laysTable 1 = .ok (.getfield 20, 3) := by decide +kernel
theorem dX11_laysTable_4 : decode cX11_laysTable 4 = .ok (.iload_n 1, 1) := by decide +kernel
theorem dX11_laysTable_5 : decode cX11_laysTable 5 = .ok (.iconst 0, 1) := by decide +kernel
theorem dX11_laysTable_6 : decode cX11_laysTable 6 = .ok (.iastore, 1) := by decide +kernel
theorem dX11_laysTable_7 : decode cX11_laysTable 7 = .ok (.iconst 1, 1) := by decide +kernel
theorem dX11_laysTable_8 : decode cX11_laysTable 8 = .ok (.istore_n 3, 1) := by decide +kernel
theorem dX11_laysTable_9 : decode cX11_laysTable 9 = .ok (.iconst 0, 1) := by decide +kernel
theorem dX11_laysTable_10 : decode cX11_laysTable 10 = .ok (.istore 4, 2) := by decide +kernel
theorem dX11_laysTable_12 : decode cX11_laysTable 12 = .ok (.iload 4, 2) := by decide +kernel
theorem dX11_laysTable_14 : decode cX11_laysTable 14 = .ok (.bipush 9, 2) := by decide +kernel
theorem dX11_laysTable_16 : decode cX11_laysTable 16 = .ok (.if_icmp .ge 127, 3) := by decide +kernel
theorem dX11_laysTable_19 : decode cX11_laysTable 19 = .ok (.aload_n 0, 1) := by decide +kernel
theorem dX11_laysTable_20 : decode cX11_laysTable 20 = .ok (.aload_n 0, 1) := by decide +kernel
theorem dX11_laysTable_21 : decode cX11_laysTable 21 = .ok (.getfield 14, 3) := by decide +kernel
theorem dX11_laysTable_24 : decode cX11_laysTable 24 = .ok (.iload_n 1, 1) := by decide +kernel
theorem dX11_laysTable_25 : decode cX11_laysTable 25 = .ok (.iaload, 1) := by decide +kernel
theorem dX11_laysTable_26 : decode cX11_laysTable 26 = .ok (.iload 4, 2) := by decide +kernel
theorem dX11_laysTable_28 : decode cX11_laysTable 28 = .ok (.invokevirtual 239, 3) := by decide +kernel
theorem dX11_laysTable_31 : decode cX11_laysTable 31 = .ok (.istore 5, 2) := by decide +kernel
theorem dX11_laysTable_33 : decode cX11_laysTable 33 = .ok (.iload_n 2, 1) := by decide +kernel
theorem dX11_laysTable_34 : decode cX11_laysTable 34 = .ok (.iload 4, 2) := by decide +kernel
theorem dX11_laysTable_36 : decode cX11_laysTable 36 = .ok (.ishr, 1) := by decide +kernel
theorem dX11_laysTable_37 : decode cX11_laysTable 37 = .ok (.iconst 1, 1) := by decide +kernel
theorem dX11_laysTable_38 : decode cX11_laysTable 38 = .ok (.iand, 1) := by decide +kernel
theorem dX11_laysTable_39 : decode cX11_laysTable 39 = .ok (.iconst 1, 1) := by decide +kernel
theorem dX11_laysTable_40 : decode cX11_laysTable 40 = .ok (.if_icmp .ne 97, 3) := by decide +kernel
theorem dX11_laysTable_43 : decode cX11_laysTable 43 = .ok (.iload_n 3, 1) := by decide +kernel
theorem dX11_laysTable_44 : decode cX11_laysTable 44 = .ok (.ifCond .eq 53, 3) := by decide +kernel
theorem dX11_laysTable_47 : decode cX11_laysTable 47 = .ok (.iload 5, 2) := by decide +kernel
theorem dX11_laysTable_49 : decode cX11_laysTable 49 = .ok (.iconst (-1), 1) := by decide +kernel
theorem dX11_laysTable_50 : decode cX11_laysTable 50 = .ok (.if_icmp .eq 47, 3) := by decide +kernel
theorem dX11_laysTable_53 : decode cX11_laysTable 53 = .ok (.aload_n 0, 1) := by decide +kernel
theorem dX11_laysTable_54 : decode cX11_laysTable 54 = .ok (.aload_n 0, 1) := by decide +kernel
theorem dX11_laysTable_55 : decode cX11_laysTable 55 = .ok (.getfield 23, 3) := by decide +kernel
theorem dX11_laysTable_58 : decode cX11_laysTable 58 = .ok (.bipush 12, 2) := by decide +kernel
theorem dX11_laysTable_60 : decode cX11_laysTable 60 = .ok (.iload_n 1, 1) := by decide +kernel
theorem dX11_laysTable_61 : decode cX11_laysTable 61 = .ok (.imul, 1) := by decide +kernel
theorem dX11_laysTable_62 : decode cX11_laysTable 62 = .ok (.aload_n 0, 1) := by decide +kernel
theorem dX11_laysTable_63 : decode cX11_laysTable 63 = .ok (.getfield 20, 3) := by decide +kernel
theorem dX11_laysTable_66 : decode cX11_laysTable 66 = .ok (.iload_n 1, 1) := by decide +kernel
theorem dX11_laysTable_67 : decode cX11_laysTable 67 = .ok (.iaload, 1) := by decide +kernel
theorem dX11_laysTable_68 : decode cX11_laysTable 68 = .ok (.aload_n 0, 1) := by decide +kernel
theorem dX11_laysTable_69 : decode cX11_laysTable 69 = .ok (.getfield 17, 3) := by decide +kernel
theorem dX11_laysTable_72 : decode cX11_laysTable 72 = .ok (.iload_n 1, 1) := by decide +kernel
theorem dX11_laysTable_73 : decode cX11_laysTable 73 = .ok (.iaload, 1) := by decide +kernel
theorem dX11_laysTable_74 : decode cX11_laysTable 74 = .ok (.aload_n 0, 1) := by decide +kernel
theorem dX11_laysTable_75 : decode cX11_laysTable 75 = .ok (.iload 5, 2) := by decide +kernel
theorem dX11_laysTable_77 : decode cX11_laysTable 77 = .ok (.aload_n 0, 1) := by decide +kernel
theorem dX11_laysTable_78 : decode cX11_laysTable 78 = .ok (.getfield 17, 3) := by decide +kernel
theorem dX11_laysTable_81 : decode cX11_laysTable 81 = .ok (.iload_n 1, 1) := by decide +kernel
theorem dX11_laysTable_82 : decode cX11_laysTable 82 = .ok (.iaload, 1) := by decide +kernel
theorem dX11_laysTable_83 : decode cX11_laysTable 83 = .ok (.invokevirtual 100, 3) := by decide +kernel
theorem dX11_laysTable_86 : decode cX11_laysTable 86 = .ok (.invokevirtual 114, 3) := by decide +kernel
theorem dX11_laysTable_89 : decode cX11_laysTable 89 = .ok (.iconst (-1), 1) := by decide +kernel
theorem dX11_laysTable_90 : decode cX11_laysTable 90 = .ok (.if_icmp .ne 7, 3) := by decide +kernel
theorem dX11_laysTable_93 : decode cX11_laysTable 93 = .ok (.iconst 1, 1) := by decide +kernel
theorem dX11_laysTable_94 : decode cX11_laysTable 94 = .ok (.goto 4, 3) := by decide +kernel
theorem dX11_laysTable_97 : decode cX11_laysTable 97 = .ok (.iconst 0, 1) := by decide +kernel
theorem dX11_laysTable_98 : decode cX11_laysTable 98 = .ok (.istore_n 3, 1) := by decide +kernel
theorem dX11_laysTable_99 : decode cX11_laysTable 99 = .ok (.aload_n 0, 1) := by decide +kernel
theorem dX11_laysTable_100 : decode cX11_laysTable 100 = .ok (.getfield 20, 3) := by decide +kernel
theorem dX11_laysTable_103 : decode cX11_laysTable 103 = .ok (.iload_n 1, 1) := by decide +kernel
theorem dX11_laysTable_104 : decode cX11_laysTable 104 = .ok (.iload_n 3, 1) := by decide +kernel
theorem dX11_laysTable_105 : decode cX11_laysTable 105 = .ok (.ifCond .eq 25, 3) := by decide +kernel
theorem dX11_laysTable_108 : decode cX11_laysTable 108 = .ok (.aload_n 0, 1) := by decide +kernel
theorem dX11_laysTable_109 : decode cX11_laysTable 109 = .ok (.getfield 23, 3) := by decide +kernel
theorem dX11_laysTable_112 : decode cX11_laysTable 112 = .ok (.bipush 12, 2) := by decide +kernel
theorem dX11_laysTable_114 : decode cX11_laysTable 114 = .ok (.iload_n 1, 1) := by decide +kernel
theorem dX11_laysTable_115 : decode cX11_laysTable 115 = .ok (.imul, 1) := by decide +kernel
theorem dX11_laysTable_116 : decode cX11_laysTable 116 = .ok (.aload_n 0, 1) := by decide +kernel
theorem dX11_laysTable_117 : decode cX11_laysTable 117 = .ok (.getfield 20, 3) := by decide +kernel
theorem dX11_laysTable_120 : decode cX11_laysTable 120 = .ok (.iload_n 1, 1) := by decide +kernel
theorem dX11_laysTable_121 : decode cX11_laysTable 121 = .ok (.iaload, 1) := by decide +kernel
theorem dX11_laysTable_122 : decode cX11_laysTable 122 = .ok (.iload 5, 2) := by decide +kernel
theorem dX11_laysTable_124 : decode cX11_laysTable 124 = .ok (.invokestatic 118, 3) := by decide +kernel
theorem dX11_laysTable_127 : decode cX11_laysTable 127 = .ok (.goto 9, 3) := by decide +kernel
theorem dX11_laysTable_130 : decode cX11_laysTable 130 = .ok (.aload_n 0, 1) := by decide +kernel
theorem dX11_laysTable_131 : decode cX11_laysTable 131 = .ok (.getfield 20, 3) := by decide +kernel
theorem dX11_laysTable_134 : decode cX11_laysTable 134 = .ok (.iload_n 1, 1) := by decide +kernel
theorem dX11_laysTable_135 : decode cX11_laysTable 135 = .ok (.iaload, 1) := by decide +kernel
theorem dX11_laysTable_136 : decode cX11_laysTable 136 = .ok (.iastore, 1) := by decide +kernel
theorem dX11_laysTable_137 : decode cX11_laysTable 137 = .ok (.iinc 4 1, 3) := by decide +kernel
theorem dX11_laysTable_140 : decode cX11_laysTable 140 = .ok (.goto (-128), 3) := by decide +kernel
theorem dX11_laysTable_143 : decode cX11_laysTable 143 = .ok (.iload_n 3, 1) := by decide +kernel
theorem dX11_laysTable_144 : decode cX11_laysTable 144 = .ok (.ireturn, 1) := by decide +kernel
theorem dX11_isDraft_0 : decode cX11_isDraft 0 = .ok (.aload_n 0, 1) := by decide +kernel
theorem dX11_isDraft_1 : decode cX11_isDraft 1 = .ok (.invokevirtual 158, 3) := by decide +kernel
theorem dX11_isDraft_4 : decode cX11_isDraft 4 = .ok (.aload_n 0, 1) := by decide +kernel
theorem dX11_isDraft_5 : decode cX11_isDraft 5 = .ok (.getfield 54, 3) := by decide +kernel
theorem dX11_isDraft_8 : decode cX11_isDraft 8 = .ok (.aload_n 0, 1) := by decide +kernel
theorem dX11_isDraft_9 : decode cX11_isDraft 9 = .ok (.getfield 165, 3) := by decide +kernel
theorem dX11_isDraft_12 : decode cX11_isDraft 12 = .ok (.iaload, 1) := by decide +kernel
theorem dX11_isDraft_13 : decode cX11_isDraft 13 = .ok (.aload_n 0, 1) := by decide +kernel
theorem dX11_isDraft_14 : decode cX11_isDraft 14 = .ok (.getfield 168, 3) := by decide +kernel
theorem dX11_isDraft_17 : decode cX11_isDraft 17 = .ok (.if_icmp .ne 7, 3) := by decide +kernel
theorem dX11_isDraft_20 : decode cX11_isDraft 20 = .ok (.iconst 1, 1) := by decide +kernel
theorem dX11_isDraft_21 : decode cX11_isDraft 21 = .ok (.goto 4, 3) := by decide +kernel
theorem dX11_isDraft_24 : decode cX11_isDraft 24 = .ok (.iconst 0, 1) := by decide +kernel
theorem dX11_isDraft_25 : decode cX11_isDraft 25 = .ok (.istore_n 1, 1) := by decide +kernel
theorem dX11_isDraft_26 : decode cX11_isDraft 26 = .ok (.iconst 0, 1) := by decide +kernel
theorem dX11_isDraft_27 : decode cX11_isDraft 27 = .ok (.istore_n 2, 1) := by decide +kernel
theorem dX11_isDraft_28 : decode cX11_isDraft 28 = .ok (.iload_n 2, 1) := by decide +kernel
theorem dX11_isDraft_29 : decode cX11_isDraft 29 = .ok (.aload_n 0, 1) := by decide +kernel
theorem dX11_isDraft_30 : decode cX11_isDraft 30 = .ok (.getfield 168, 3) := by decide +kernel
theorem dX11_isDraft_33 : decode cX11_isDraft 33 = .ok (.if_icmp .ge 42, 3) := by decide +kernel
theorem dX11_isDraft_36 : decode cX11_isDraft 36 = .ok (.iload_n 1, 1) := by decide +kernel
theorem dX11_isDraft_37 : decode cX11_isDraft 37 = .ok (.ifCond .eq 38, 3) := by decide +kernel
theorem dX11_isDraft_40 : decode cX11_isDraft 40 = .ok (.aload_n 0, 1) := by decide +kernel
theorem dX11_isDraft_41 : decode cX11_isDraft 41 = .ok (.getfield 57, 3) := by decide +kernel
theorem dX11_isDraft_44 : decode cX11_isDraft 44 = .ok (.bipush 40, 2) := by decide +kernel
theorem dX11_isDraft_46 : decode cX11_isDraft 46 = .ok (.aload_n 0, 1) := by decide +kernel
theorem dX11_isDraft_47 : decode cX11_isDraft 47 = .ok (.getfield 165, 3) := by decide +kernel
theorem dX11_isDraft_50 : decode cX11_isDraft 50 = .ok (.imul, 1) := by decide +kernel
theorem dX11_isDraft_51 : decode cX11_isDraft 51 = .ok (.iload_n 2, 1) := by decide +kernel
theorem dX11_isDraft_52 : decode cX11_isDraft 52 = .ok (.iadd, 1) := by decide +kernel
theorem dX11_isDraft_53 : decode cX11_isDraft 53 = .ok (.iaload, 1) := by decide +kernel
theorem dX11_isDraft_54 : decode cX11_isDraft 54 = .ok (.aload_n 0, 1) := by decide +kernel
theorem dX11_isDraft_55 : decode cX11_isDraft 55 = .ok (.getfield 66, 3) := by decide +kernel
theorem dX11_isDraft_58 : decode cX11_isDraft 58 = .ok (.iload_n 2, 1) := by decide +kernel
theorem dX11_isDraft_59 : decode cX11_isDraft 59 = .ok (.iaload, 1) := by decide +kernel
theorem dX11_isDraft_60 : decode cX11_isDraft 60 = .ok (.if_icmp .ne 7, 3) := by decide +kernel
theorem dX11_isDraft_63 : decode cX11_isDraft 63 = .ok (.iconst 1, 1) := by decide +kernel
theorem dX11_isDraft_64 : decode cX11_isDraft 64 = .ok (.goto 4, 3) := by decide +kernel
theorem dX11_isDraft_67 : decode cX11_isDraft 67 = .ok (.iconst 0, 1) := by decide +kernel
theorem dX11_isDraft_68 : decode cX11_isDraft 68 = .ok (.istore_n 1, 1) := by decide +kernel
theorem dX11_isDraft_69 : decode cX11_isDraft 69 = .ok (.iinc 2 1, 3) := by decide +kernel
theorem dX11_isDraft_72 : decode cX11_isDraft 72 = .ok (.goto (-44), 3) := by decide +kernel
theorem dX11_isDraft_75 : decode cX11_isDraft 75 = .ok (.iload_n 1, 1) := by decide +kernel
theorem dX11_isDraft_76 : decode cX11_isDraft 76 = .ok (.ireturn, 1) := by decide +kernel
theorem dX11_differs_0 : decode cX11_differs 0 = .ok (.iconst 0, 1) := by decide +kernel
theorem dX11_differs_1 : decode cX11_differs 1 = .ok (.istore_n 3, 1) := by decide +kernel
theorem dX11_differs_2 : decode cX11_differs 2 = .ok (.iconst 0, 1) := by decide +kernel
theorem dX11_differs_3 : decode cX11_differs 3 = .ok (.istore 4, 2) := by decide +kernel
theorem dX11_differs_5 : decode cX11_differs 5 = .ok (.iload 4, 2) := by decide +kernel
theorem dX11_differs_7 : decode cX11_differs 7 = .ok (.iload_n 2, 1) := by decide +kernel
theorem dX11_differs_8 : decode cX11_differs 8 = .ok (.if_icmp .ge 45, 3) := by decide +kernel
theorem dX11_differs_11 : decode cX11_differs 11 = .ok (.iload_n 3, 1) := by decide +kernel
theorem dX11_differs_12 : decode cX11_differs 12 = .ok (.aload_n 0, 1) := by decide +kernel
theorem dX11_differs_13 : decode cX11_differs 13 = .ok (.getfield 23, 3) := by decide +kernel
theorem dX11_differs_16 : decode cX11_differs 16 = .ok (.bipush 12, 2) := by decide +kernel
theorem dX11_differs_18 : decode cX11_differs 18 = .ok (.iload_n 1, 1) := by decide +kernel
theorem dX11_differs_19 : decode cX11_differs 19 = .ok (.imul, 1) := by decide +kernel
theorem dX11_differs_20 : decode cX11_differs 20 = .ok (.aload_n 0, 1) := by decide +kernel
theorem dX11_differs_21 : decode cX11_differs 21 = .ok (.getfield 20, 3) := by decide +kernel
theorem dX11_differs_24 : decode cX11_differs 24 = .ok (.iload_n 1, 1) := by decide +kernel
theorem dX11_differs_25 : decode cX11_differs 25 = .ok (.iaload, 1) := by decide +kernel
theorem dX11_differs_26 : decode cX11_differs 26 = .ok (.aload_n 0, 1) := by decide +kernel
theorem dX11_differs_27 : decode cX11_differs 27 = .ok (.getfield 84, 3) := by decide +kernel
theorem dX11_differs_30 : decode cX11_differs 30 = .ok (.iload 4, 2) := by decide +kernel
theorem dX11_differs_32 : decode cX11_differs 32 = .ok (.iaload, 1) := by decide +kernel
theorem dX11_differs_33 : decode cX11_differs 33 = .ok (.invokestatic 122, 3) := by decide +kernel
theorem dX11_differs_36 : decode cX11_differs 36 = .ok (.iconst (-1), 1) := by decide +kernel
theorem dX11_differs_37 : decode cX11_differs 37 = .ok (.if_icmp .ne 7, 3) := by decide +kernel
theorem dX11_differs_40 : decode cX11_differs 40 = .ok (.iconst 1, 1) := by decide +kernel
theorem dX11_differs_41 : decode cX11_differs 41 = .ok (.goto 4, 3) := by decide +kernel
theorem dX11_differs_44 : decode cX11_differs 44 = .ok (.iconst 0, 1) := by decide +kernel
theorem dX11_differs_45 : decode cX11_differs 45 = .ok (.iadd, 1) := by decide +kernel
theorem dX11_differs_46 : decode cX11_differs 46 = .ok (.istore_n 3, 1) := by decide +kernel
theorem dX11_differs_47 : decode cX11_differs 47 = .ok (.iinc 4 1, 3) := by decide +kernel
theorem dX11_differs_50 : decode cX11_differs 50 = .ok (.goto (-45), 3) := by decide +kernel
theorem dX11_differs_53 : decode cX11_differs 53 = .ok (.iconst 0, 1) := by decide +kernel
theorem dX11_differs_54 : decode cX11_differs 54 = .ok (.istore 4, 2) := by decide +kernel
theorem dX11_differs_56 : decode cX11_differs 56 = .ok (.iload 4, 2) := by decide +kernel
theorem dX11_differs_58 : decode cX11_differs 58 = .ok (.aload_n 0, 1) := by decide +kernel
theorem dX11_differs_59 : decode cX11_differs 59 = .ok (.getfield 20, 3) := by decide +kernel
theorem dX11_differs_62 : decode cX11_differs 62 = .ok (.iload_n 1, 1) := by decide +kernel
theorem dX11_differs_63 : decode cX11_differs 63 = .ok (.iaload, 1) := by decide +kernel
theorem dX11_differs_64 : decode cX11_differs 64 = .ok (.if_icmp .ge 42, 3) := by decide +kernel
theorem dX11_differs_67 : decode cX11_differs 67 = .ok (.iload_n 3, 1) := by decide +kernel
theorem dX11_differs_68 : decode cX11_differs 68 = .ok (.aload_n 0, 1) := by decide +kernel
theorem dX11_differs_69 : decode cX11_differs 69 = .ok (.getfield 84, 3) := by decide +kernel
theorem dX11_differs_72 : decode cX11_differs 72 = .ok (.iconst 0, 1) := by decide +kernel
theorem dX11_differs_73 : decode cX11_differs 73 = .ok (.iload_n 2, 1) := by decide +kernel
theorem dX11_differs_74 : decode cX11_differs 74 = .ok (.aload_n 0, 1) := by decide +kernel
theorem dX11_differs_75 : decode cX11_differs 75 = .ok (.getfield 23, 3) := by decide +kernel
theorem dX11_differs_78 : decode cX11_differs 78 = .ok (.bipush 12, 2) := by decide +kernel
theorem dX11_differs_80 : decode cX11_differs 80 = .ok (.iload_n 1, 1) := by decide +kernel
theorem dX11_differs_81 : decode cX11_differs 81 = .ok (.imul, 1) := by decide +kernel
theorem dX11_differs_82 : decode cX11_differs 82 = .ok (.iload 4, 2) := by decide +kernel
theorem dX11_differs_84 : decode cX11_differs 84 = .ok (.iadd, 1) := by decide +kernel
theorem dX11_differs_85 : decode cX11_differs 85 = .ok (.iaload, 1) := by decide +kernel
theorem dX11_differs_86 : decode cX11_differs 86 = .ok (.invokestatic 122, 3) := by decide +kernel
theorem dX11_differs_89 : decode cX11_differs 89 = .ok (.iconst (-1), 1) := by decide +kernel
theorem dX11_differs_90 : decode cX11_differs 90 = .ok (.if_icmp .ne 7, 3) := by decide +kernel
theorem dX11_differs_93 : decode cX11_differs 93 = .ok (.iconst 1, 1) := by decide +kernel
theorem dX11_differs_94 : decode cX11_differs 94 = .ok (.goto 4, 3) := by decide +kernel
theorem dX11_differs_97 : decode cX11_differs 97 = .ok (.iconst 0, 1) := by decide +kernel
theorem dX11_differs_98 : decode cX11_differs 98 = .ok (.iadd, 1) := by decide +kernel
theorem dX11_differs_99 : decode cX11_differs 99 = .ok (.istore_n 3, 1) := by decide +kernel
theorem dX11_differs_100 : decode cX11_differs 100 = .ok (.iinc 4 1, 3) := by decide +kernel
theorem dX11_differs_103 : decode cX11_differs 103 = .ok (.goto (-47), 3) := by decide +kernel
theorem dX11_differs_106 : decode cX11_differs 106 = .ok (.iload_n 3, 1) := by decide +kernel
theorem dX11_differs_107 : decode cX11_differs 107 = .ok (.ireturn, 1) := by decide +kernel
theorem dX11_fewest_0 : decode cX11_fewest 0 = .ok (.aload_n 0, 1) := by decide +kernel
theorem dX11_fewest_1 : decode cX11_fewest 1 = .ok (.aload_n 0, 1) := by decide +kernel
theorem dX11_fewest_2 : decode cX11_fewest 2 = .ok (.getfield 161, 3) := by decide +kernel
theorem dX11_fewest_5 : decode cX11_fewest 5 = .ok (.ifCond .eq 10, 3) := by decide +kernel
theorem dX11_fewest_8 : decode cX11_fewest 8 = .ok (.aload_n 0, 1) := by decide +kernel
theorem dX11_fewest_9 : decode cX11_fewest 9 = .ok (.invokevirtual 242, 3) := by decide +kernel
theorem dX11_fewest_12 : decode cX11_fewest 12 = .ok (.ifCond .ne 7, 3) := by decide +kernel
theorem dX11_fewest_15 : decode cX11_fewest 15 = .ok (.iconst 1, 1) := by decide +kernel
theorem dX11_fewest_16 : decode cX11_fewest 16 = .ok (.goto 4, 3) := by decide +kernel
theorem dX11_fewest_19 : decode cX11_fewest 19 = .ok (.iconst 0, 1) := by decide +kernel
theorem dX11_fewest_20 : decode cX11_fewest 20 = .ok (.putfield 87, 3) := by decide +kernel
theorem dX11_fewest_23 : decode cX11_fewest 23 = .ok (.aload_n 0, 1) := by decide +kernel
theorem dX11_fewest_24 : decode cX11_fewest 24 = .ok (.getfield 87, 3) := by decide +kernel
theorem dX11_fewest_27 : decode cX11_fewest 27 = .ok (.ifCond .le 5, 3) := by decide +kernel
theorem dX11_fewest_30 : decode cX11_fewest 30 = .ok (.iconst 0, 1) := by decide +kernel
theorem dX11_fewest_31 : decode cX11_fewest 31 = .ok (.ireturn, 1) := by decide +kernel
theorem dX11_fewest_32 : decode cX11_fewest 32 = .ok (.aload_n 0, 1) := by decide +kernel
theorem dX11_fewest_33 : decode cX11_fewest 33 = .ok (.aload_n 0, 1) := by decide +kernel
theorem dX11_fewest_34 : decode cX11_fewest 34 = .ok (.getfield 165, 3) := by decide +kernel
theorem dX11_fewest_37 : decode cX11_fewest 37 = .ok (.invokevirtual 233, 3) := by decide +kernel
theorem dX11_fewest_40 : decode cX11_fewest 40 = .ok (.istore_n 1, 1) := by decide +kernel
theorem dX11_fewest_41 : decode cX11_fewest 41 = .ok (.aload_n 0, 1) := by decide +kernel
theorem dX11_fewest_42 : decode cX11_fewest 42 = .ok (.getfield 20, 3) := by decide +kernel
theorem dX11_fewest_45 : decode cX11_fewest 45 = .ok (.iload_n 1, 1) := by decide +kernel
theorem dX11_fewest_46 : decode cX11_fewest 46 = .ok (.iaload, 1) := by decide +kernel
theorem dX11_fewest_47 : decode cX11_fewest 47 = .ok (.istore_n 2, 1) := by decide +kernel
theorem dX11_fewest_48 : decode cX11_fewest 48 = .ok (.iconst 0, 1) := by decide +kernel
theorem dX11_fewest_49 : decode cX11_fewest 49 = .ok (.istore_n 3, 1) := by decide +kernel
theorem dX11_fewest_50 : decode cX11_fewest 50 = .ok (.iload_n 3, 1) := by decide +kernel
theorem dX11_fewest_51 : decode cX11_fewest 51 = .ok (.iload_n 2, 1) := by decide +kernel
theorem dX11_fewest_52 : decode cX11_fewest 52 = .ok (.if_icmp .ge 26, 3) := by decide +kernel
theorem dX11_fewest_55 : decode cX11_fewest 55 = .ok (.aload_n 0, 1) := by decide +kernel
theorem dX11_fewest_56 : decode cX11_fewest 56 = .ok (.getfield 84, 3) := by decide +kernel
theorem dX11_fewest_59 : decode cX11_fewest 59 = .ok (.iload_n 3, 1) := by decide +kernel
theorem dX11_fewest_60 : decode cX11_fewest 60 = .ok (.aload_n 0, 1) := by decide +kernel
theorem dX11_fewest_61 : decode cX11_fewest 61 = .ok (.getfield 23, 3) := by decide +kernel
theorem dX11_fewest_64 : decode cX11_fewest 64 = .ok (.bipush 12, 2) := by decide +kernel
theorem dX11_fewest_66 : decode cX11_fewest 66 = .ok (.iload_n 1, 1) := by decide +kernel
theorem dX11_fewest_67 : decode cX11_fewest 67 = .ok (.imul, 1) := by decide +kernel
theorem dX11_fewest_68 : decode cX11_fewest 68 = .ok (.iload_n 3, 1) := by decide +kernel
theorem dX11_fewest_69 : decode cX11_fewest 69 = .ok (.iadd, 1) := by decide +kernel
theorem dX11_fewest_70 : decode cX11_fewest 70 = .ok (.iaload, 1) := by decide +kernel
theorem dX11_fewest_71 : decode cX11_fewest 71 = .ok (.iastore, 1) := by decide +kernel
theorem dX11_fewest_72 : decode cX11_fewest 72 = .ok (.iinc 3 1, 3) := by decide +kernel
theorem dX11_fewest_75 : decode cX11_fewest 75 = .ok (.goto (-25), 3) := by decide +kernel
theorem dX11_fewest_78 : decode cX11_fewest 78 = .ok (.iconst (-1), 1) := by decide +kernel
theorem dX11_fewest_79 : decode cX11_fewest 79 = .ok (.istore_n 3, 1) := by decide +kernel
theorem dX11_fewest_80 : decode cX11_fewest 80 = .ok (.iconst 0, 1) := by decide +kernel
theorem dX11_fewest_81 : decode cX11_fewest 81 = .ok (.istore 4, 2) := by decide +kernel
theorem dX11_fewest_83 : decode cX11_fewest 83 = .ok (.iload 4, 2) := by decide +kernel
theorem dX11_fewest_85 : decode cX11_fewest 85 = .ok (.sipush 512, 3) := by decide +kernel
theorem dX11_fewest_88 : decode cX11_fewest 88 = .ok (.if_icmp .ge 52, 3) := by decide +kernel
theorem dX11_fewest_91 : decode cX11_fewest 91 = .ok (.aload_n 0, 1) := by decide +kernel
theorem dX11_fewest_92 : decode cX11_fewest 92 = .ok (.iload_n 1, 1) := by decide +kernel
theorem dX11_fewest_93 : decode cX11_fewest 93 = .ok (.iload 4, 2) := by decide +kernel
theorem dX11_fewest_95 : decode cX11_fewest 95 = .ok (.invokevirtual 245, 3) := by decide +kernel
theorem dX11_fewest_98 : decode cX11_fewest 98 = .ok (.ifCond .eq 36, 3) := by decide +kernel
theorem dX11_fewest_101 : decode cX11_fewest 101 = .ok (.aload_n 0, 1) := by decide +kernel
theorem dX11_fewest_102 : decode cX11_fewest 102 = .ok (.invokevirtual 248, 3) := by decide +kernel
theorem dX11_fewest_105 : decode cX11_fewest 105 = .ok (.ifCond .eq 29, 3) := by decide +kernel
theorem dX11_fewest_108 : decode cX11_fewest 108 = .ok (.aload_n 0, 1) := by decide +kernel
theorem dX11_fewest_109 : decode cX11_fewest 109 = .ok (.iload_n 1, 1) := by decide +kernel
theorem dX11_fewest_110 : decode cX11_fewest 110 = .ok (.iload_n 2, 1) := by decide +kernel
theorem dX11_fewest_111 : decode cX11_fewest 111 = .ok (.invokevirtual 251, 3) := by decide +kernel
theorem dX11_fewest_114 : decode cX11_fewest 114 = .ok (.istore 5, 2) := by decide +kernel
theorem dX11_fewest_116 : decode cX11_fewest 116 = .ok (.iload_n 3, 1) := by decide +kernel
theorem dX11_fewest_117 : decode cX11_fewest 117 = .ok (.iconst (-1), 1) := by decide +kernel
theorem dX11_fewest_118 : decode cX11_fewest 118 = .ok (.if_icmp .eq 9, 3) := by decide +kernel
theorem dX11_fewest_121 : decode cX11_fewest 121 = .ok (.iload 5, 2) := by decide +kernel
theorem dX11_fewest_123 : decode cX11_fewest 123 = .ok (.iload_n 3, 1) := by decide +kernel
theorem dX11_fewest_124 : decode cX11_fewest 124 = .ok (.if_icmp .ge 8, 3) := by decide +kernel
theorem dX11_fewest_127 : decode cX11_fewest 127 = .ok (.iload 5, 2) := by decide +kernel
theorem dX11_fewest_129 : decode cX11_fewest 129 = .ok (.goto 4, 3) := by decide +kernel
theorem dX11_fewest_132 : decode cX11_fewest 132 = .ok (.iload_n 3, 1) := by decide +kernel
theorem dX11_fewest_133 : decode cX11_fewest 133 = .ok (.istore_n 3, 1) := by decide +kernel
theorem dX11_fewest_134 : decode cX11_fewest 134 = .ok (.iinc 4 1, 3) := by decide +kernel
theorem dX11_fewest_137 : decode cX11_fewest 137 = .ok (.goto (-54), 3) := by decide +kernel
theorem dX11_fewest_140 : decode cX11_fewest 140 = .ok (.aload_n 0, 1) := by decide +kernel
theorem dX11_fewest_141 : decode cX11_fewest 141 = .ok (.getfield 20, 3) := by decide +kernel
theorem dX11_fewest_144 : decode cX11_fewest 144 = .ok (.iload_n 1, 1) := by decide +kernel
theorem dX11_fewest_145 : decode cX11_fewest 145 = .ok (.iload_n 2, 1) := by decide +kernel
theorem dX11_fewest_146 : decode cX11_fewest 146 = .ok (.iastore, 1) := by decide +kernel
theorem dX11_fewest_147 : decode cX11_fewest 147 = .ok (.iconst 0, 1) := by decide +kernel
theorem dX11_fewest_148 : decode cX11_fewest 148 = .ok (.istore 4, 2) := by decide +kernel
theorem dX11_fewest_150 : decode cX11_fewest 150 = .ok (.iload 4, 2) := by decide +kernel
theorem dX11_fewest_152 : decode cX11_fewest 152 = .ok (.iload_n 2, 1) := by decide +kernel
theorem dX11_fewest_153 : decode cX11_fewest 153 = .ok (.if_icmp .ge 28, 3) := by decide +kernel
theorem dX11_fewest_156 : decode cX11_fewest 156 = .ok (.aload_n 0, 1) := by decide +kernel
theorem dX11_fewest_157 : decode cX11_fewest 157 = .ok (.getfield 23, 3) := by decide +kernel
theorem dX11_fewest_160 : decode cX11_fewest 160 = .ok (.bipush 12, 2) := by decide +kernel
theorem dX11_fewest_162 : decode cX11_fewest 162 = .ok (.iload_n 1, 1) := by decide +kernel
theorem dX11_fewest_163 : decode cX11_fewest 163 = .ok (.imul, 1) := by decide +kernel
theorem dX11_fewest_164 : decode cX11_fewest 164 = .ok (.iload 4, 2) := by decide +kernel
theorem dX11_fewest_166 : decode cX11_fewest 166 = .ok (.iadd, 1) := by decide +kernel
theorem dX11_fewest_167 : decode cX11_fewest 167 = .ok (.aload_n 0, 1) := by decide +kernel
theorem dX11_fewest_168 : decode cX11_fewest 168 = .ok (.getfield 84, 3) := by decide +kernel
theorem dX11_fewest_171 : decode cX11_fewest 171 = .ok (.iload 4, 2) := by decide +kernel
theorem dX11_fewest_173 : decode cX11_fewest 173 = .ok (.iaload, 1) := by decide +kernel
theorem dX11_fewest_174 : decode cX11_fewest 174 = .ok (.iastore, 1) := by decide +kernel
theorem dX11_fewest_175 : decode cX11_fewest 175 = .ok (.iinc 4 1, 3) := by decide +kernel
theorem dX11_fewest_178 : decode cX11_fewest 178 = .ok (.goto (-28), 3) := by decide +kernel
theorem dX11_fewest_181 : decode cX11_fewest 181 = .ok (.iload_n 3, 1) := by decide +kernel
theorem dX11_fewest_182 : decode cX11_fewest 182 = .ok (.ireturn, 1) := by decide +kernel
theorem dX11_keeps_0 : decode cX11_keeps 0 = .ok (.aload_n 0, 1) := by decide +kernel
theorem dX11_keeps_1 : decode cX11_keeps 1 = .ok (.getfield 254, 3) := by decide +kernel
theorem dX11_keeps_4 : decode cX11_keeps 4 = .ok (.iconst 5, 1) := by decide +kernel
theorem dX11_keeps_5 : decode cX11_keeps 5 = .ok (.if_icmp .ne 71, 3) := by decide +kernel
theorem dX11_keeps_8 : decode cX11_keeps 8 = .ok (.iconst 0, 1) := by decide +kernel
theorem dX11_keeps_9 : decode cX11_keeps 9 = .ok (.istore_n 1, 1) := by decide +kernel
theorem dX11_keeps_10 : decode cX11_keeps 10 = .ok (.iload_n 1, 1) := by decide +kernel
theorem dX11_keeps_11 : decode cX11_keeps 11 = .ok (.bipush 12, 2) := by decide +kernel
theorem dX11_keeps_13 : decode cX11_keeps 13 = .ok (.if_icmp .ge 23, 3) := by decide +kernel
theorem dX11_keeps_16 : decode cX11_keeps 16 = .ok (.aload_n 0, 1) := by decide +kernel
theorem dX11_keeps_17 : decode cX11_keeps 17 = .ok (.getfield 78, 3) := by decide +kernel
theorem dX11_keeps_20 : decode cX11_keeps 20 = .ok (.iload_n 1, 1) := by decide +kernel
theorem dX11_keeps_21 : decode cX11_keeps 21 = .ok (.aload_n 0, 1) := by decide +kernel
theorem dX11_keeps_22 : decode cX11_keeps 22 = .ok (.getfield 78, 3) := by decide +kernel
theorem dX11_keeps_25 : decode cX11_keeps 25 = .ok (.iload_n 1, 1) := by decide +kernel
theorem dX11_keeps_26 : decode cX11_keeps 26 = .ok (.iconst 3, 1) := by decide +kernel
theorem dX11_keeps_27 : decode cX11_keeps 27 = .ok (.iadd, 1) := by decide +kernel
theorem dX11_keeps_28 : decode cX11_keeps 28 = .ok (.iaload, 1) := by decide +kernel
theorem dX11_keeps_29 : decode cX11_keeps 29 = .ok (.iastore, 1) := by decide +kernel
theorem dX11_keeps_30 : decode cX11_keeps 30 = .ok (.iinc 1 1, 3) := by decide +kernel
theorem dX11_keeps_33 : decode cX11_keeps 33 = .ok (.goto (-23), 3) := by decide +kernel
theorem dX11_keeps_36 : decode cX11_keeps 36 = .ok (.iconst 0, 1) := by decide +kernel
theorem dX11_keeps_37 : decode cX11_keeps 37 = .ok (.istore_n 1, 1) := by decide +kernel
theorem dX11_keeps_38 : decode cX11_keeps 38 = .ok (.iload_n 1, 1) := by decide +kernel
theorem dX11_keeps_39 : decode cX11_keeps 39 = .ok (.sipush 144, 3) := by decide +kernel
theorem dX11_keeps_42 : decode cX11_keeps 42 = .ok (.if_icmp .ge 24, 3) := by decide +kernel
theorem dX11_keeps_45 : decode cX11_keeps 45 = .ok (.aload_n 0, 1) := by decide +kernel
theorem dX11_keeps_46 : decode cX11_keeps 46 = .ok (.getfield 81, 3) := by decide +kernel
theorem dX11_keeps_49 : decode cX11_keeps 49 = .ok (.iload_n 1, 1) := by decide +kernel
theorem dX11_keeps_50 : decode cX11_keeps 50 = .ok (.aload_n 0, 1) := by decide +kernel
theorem dX11_keeps_51 : decode cX11_keeps 51 = .ok (.getfield 81, 3) := by decide +kernel
theorem dX11_keeps_54 : decode cX11_keeps 54 = .ok (.iload_n 1, 1) := by decide +kernel
theorem dX11_keeps_55 : decode cX11_keeps 55 = .ok (.bipush 36, 2) := by decide +kernel
theorem dX11_keeps_57 : decode cX11_keeps 57 = .ok (.iadd, 1) := by decide +kernel
theorem dX11_keeps_58 : decode cX11_keeps 58 = .ok (.iaload, 1) := by decide +kernel
theorem dX11_keeps_59 : decode cX11_keeps 59 = .ok (.iastore, 1) := by decide +kernel
theorem dX11_keeps_60 : decode cX11_keeps 60 = .ok (.iinc 1 1, 3) := by decide +kernel
theorem dX11_keeps_63 : decode cX11_keeps 63 = .ok (.goto (-25), 3) := by decide +kernel
theorem dX11_keeps_66 : decode cX11_keeps 66 = .ok (.aload_n 0, 1) := by decide +kernel
theorem dX11_keeps_67 : decode cX11_keeps 67 = .ok (.dup, 1) := by decide +kernel
theorem dX11_keeps_68 : decode cX11_keeps 68 = .ok (.getfield 254, 3) := by decide +kernel
theorem dX11_keeps_71 : decode cX11_keeps 71 = .ok (.iconst 1, 1) := by decide +kernel
theorem dX11_keeps_72 : decode cX11_keeps 72 = .ok (.isub, 1) := by decide +kernel
theorem dX11_keeps_73 : decode cX11_keeps 73 = .ok (.putfield 254, 3) := by decide +kernel
theorem dX11_keeps_76 : decode cX11_keeps 76 = .ok (.iconst 0, 1) := by decide +kernel
theorem dX11_keeps_77 : decode cX11_keeps 77 = .ok (.istore_n 1, 1) := by decide +kernel
theorem dX11_keeps_78 : decode cX11_keeps 78 = .ok (.iload_n 1, 1) := by decide +kernel
theorem dX11_keeps_79 : decode cX11_keeps 79 = .ok (.iconst 3, 1) := by decide +kernel
theorem dX11_keeps_80 : decode cX11_keeps 80 = .ok (.if_icmp .ge 40, 3) := by decide +kernel
theorem dX11_keeps_83 : decode cX11_keeps 83 = .ok (.aload_n 0, 1) := by decide +kernel
theorem dX11_keeps_84 : decode cX11_keeps 84 = .ok (.getfield 78, 3) := by decide +kernel
theorem dX11_keeps_87 : decode cX11_keeps 87 = .ok (.iconst 3, 1) := by decide +kernel
theorem dX11_keeps_88 : decode cX11_keeps 88 = .ok (.aload_n 0, 1) := by decide +kernel
theorem dX11_keeps_89 : decode cX11_keeps 89 = .ok (.getfield 254, 3) := by decide +kernel
theorem dX11_keeps_92 : decode cX11_keeps 92 = .ok (.imul, 1) := by decide +kernel
theorem dX11_keeps_93 : decode cX11_keeps 93 = .ok (.iload_n 1, 1) := by decide +kernel
theorem dX11_keeps_94 : decode cX11_keeps 94 = .ok (.iadd, 1) := by decide +kernel
theorem dX11_keeps_95 : decode cX11_keeps 95 = .ok (.iload_n 1, 1) := by decide +kernel
theorem dX11_keeps_96 : decode cX11_keeps 96 = .ok (.aload_n 0, 1) := by decide +kernel
theorem dX11_keeps_97 : decode cX11_keeps 97 = .ok (.getfield 103, 3) := by decide +kernel
theorem dX11_keeps_100 : decode cX11_keeps 100 = .ok (.if_icmp .ge 12, 3) := by decide +kernel
theorem dX11_keeps_103 : decode cX11_keeps 103 = .ok (.aload_n 0, 1) := by decide +kernel
theorem dX11_keeps_104 : decode cX11_keeps 104 = .ok (.getfield 20, 3) := by decide +kernel
theorem dX11_keeps_107 : decode cX11_keeps 107 = .ok (.iload_n 1, 1) := by decide +kernel
theorem dX11_keeps_108 : decode cX11_keeps 108 = .ok (.iaload, 1) := by decide +kernel
theorem dX11_keeps_109 : decode cX11_keeps 109 = .ok (.goto 4, 3) := by decide +kernel
theorem dX11_keeps_112 : decode cX11_keeps 112 = .ok (.iconst 0, 1) := by decide +kernel
theorem dX11_keeps_113 : decode cX11_keeps 113 = .ok (.iastore, 1) := by decide +kernel
theorem dX11_keeps_114 : decode cX11_keeps 114 = .ok (.iinc 1 1, 3) := by decide +kernel
theorem dX11_keeps_117 : decode cX11_keeps 117 = .ok (.goto (-39), 3) := by decide +kernel
theorem dX11_keeps_120 : decode cX11_keeps 120 = .ok (.iconst 0, 1) := by decide +kernel
theorem dX11_keeps_121 : decode cX11_keeps 121 = .ok (.istore_n 1, 1) := by decide +kernel
theorem dX11_keeps_122 : decode cX11_keeps 122 = .ok (.iload_n 1, 1) := by decide +kernel
theorem dX11_keeps_123 : decode cX11_keeps 123 = .ok (.bipush 36, 2) := by decide +kernel
theorem dX11_keeps_125 : decode cX11_keeps 125 = .ok (.if_icmp .ge 29, 3) := by decide +kernel
theorem dX11_keeps_128 : decode cX11_keeps 128 = .ok (.aload_n 0, 1) := by decide +kernel
theorem dX11_keeps_129 : decode cX11_keeps 129 = .ok (.getfield 81, 3) := by decide +kernel
theorem dX11_keeps_132 : decode cX11_keeps 132 = .ok (.bipush 36, 2) := by decide +kernel
theorem dX11_keeps_134 : decode cX11_keeps 134 = .ok (.aload_n 0, 1) := by decide +kernel
theorem dX11_keeps_135 : decode cX11_keeps 135 = .ok (.getfield 254, 3) := by decide +kernel
theorem dX11_keeps_138 : decode cX11_keeps 138 = .ok (.imul, 1) := by decide +kernel
theorem dX11_keeps_139 : decode cX11_keeps 139 = .ok (.iload_n 1, 1) := by decide +kernel
theorem dX11_keeps_140 : decode cX11_keeps 140 = .ok (.iadd, 1) := by decide +kernel
theorem dX11_keeps_141 : decode cX11_keeps 141 = .ok (.aload_n 0, 1) := by decide +kernel
theorem dX11_keeps_142 : decode cX11_keeps 142 = .ok (.getfield 23, 3) := by decide +kernel
theorem dX11_keeps_145 : decode cX11_keeps 145 = .ok (.iload_n 1, 1) := by decide +kernel
theorem dX11_keeps_146 : decode cX11_keeps 146 = .ok (.iaload, 1) := by decide +kernel
theorem dX11_keeps_147 : decode cX11_keeps 147 = .ok (.iastore, 1) := by decide +kernel
theorem dX11_keeps_148 : decode cX11_keeps 148 = .ok (.iinc 1 1, 3) := by decide +kernel
theorem dX11_keeps_151 : decode cX11_keeps 151 = .ok (.goto (-29), 3) := by decide +kernel
theorem dX11_keeps_154 : decode cX11_keeps 154 = .ok (.aload_n 0, 1) := by decide +kernel
theorem dX11_keeps_155 : decode cX11_keeps 155 = .ok (.dup, 1) := by decide +kernel
theorem dX11_keeps_156 : decode cX11_keeps 156 = .ok (.getfield 254, 3) := by decide +kernel
theorem dX11_keeps_159 : decode cX11_keeps 159 = .ok (.iconst 1, 1) := by decide +kernel
theorem dX11_keeps_160 : decode cX11_keeps 160 = .ok (.iadd, 1) := by decide +kernel
theorem dX11_keeps_161 : decode cX11_keeps 161 = .ok (.putfield 254, 3) := by decide +kernel
theorem dX11_keeps_164 : decode cX11_keeps 164 = .ok (.return_, 1) := by decide +kernel
theorem dX11_putBack_0 : decode cX11_putBack 0 = .ok (.aload_n 0, 1) := by decide +kernel
theorem dX11_putBack_1 : decode cX11_putBack 1 = .ok (.aload_n 0, 1) := by decide +kernel
theorem dX11_putBack_2 : decode cX11_putBack 2 = .ok (.getfield 161, 3) := by decide +kernel
theorem dX11_putBack_5 : decode cX11_putBack 5 = .ok (.ifCond .eq 7, 3) := by decide +kernel
theorem dX11_putBack_8 : decode cX11_putBack 8 = .ok (.iconst 0, 1) := by decide +kernel
theorem dX11_putBack_9 : decode cX11_putBack 9 = .ok (.goto 4, 3) := by decide +kernel
theorem dX11_putBack_12 : decode cX11_putBack 12 = .ok (.iconst 1, 1) := by decide +kernel
theorem dX11_putBack_13 : decode cX11_putBack 13 = .ok (.putfield 87, 3) := by decide +kernel
theorem dX11_putBack_16 : decode cX11_putBack 16 = .ok (.aload_n 0, 1) := by decide +kernel
theorem dX11_putBack_17 : decode cX11_putBack 17 = .ok (.getfield 87, 3) := by decide +kernel
theorem dX11_putBack_20 : decode cX11_putBack 20 = .ok (.ifCond .ne 23, 3) := by decide +kernel
theorem dX11_putBack_23 : decode cX11_putBack 23 = .ok (.aload_n 0, 1) := by decide +kernel
theorem dX11_putBack_24 : decode cX11_putBack 24 = .ok (.invokevirtual 226, 3) := by decide +kernel
theorem dX11_putBack_27 : decode cX11_putBack 27 = .ok (.aload_n 0, 1) := by decide +kernel
theorem dX11_putBack_28 : decode cX11_putBack 28 = .ok (.aload_n 0, 1) := by decide +kernel
theorem dX11_putBack_29 : decode cX11_putBack 29 = .ok (.getfield 171, 3) := by decide +kernel
theorem dX11_putBack_32 : decode cX11_putBack 32 = .ok (.ifCond .le 7, 3) := by decide +kernel
theorem dX11_putBack_35 : decode cX11_putBack 35 = .ok (.iconst 1, 1) := by decide +kernel
theorem dX11_putBack_36 : decode cX11_putBack 36 = .ok (.goto 4, 3) := by decide +kernel
theorem dX11_putBack_39 : decode cX11_putBack 39 = .ok (.iconst 0, 1) := by decide +kernel
theorem dX11_putBack_40 : decode cX11_putBack 40 = .ok (.putfield 87, 3) := by decide +kernel
theorem dX11_putBack_43 : decode cX11_putBack 43 = .ok (.aload_n 0, 1) := by decide +kernel
theorem dX11_putBack_44 : decode cX11_putBack 44 = .ok (.getfield 87, 3) := by decide +kernel
theorem dX11_putBack_47 : decode cX11_putBack 47 = .ok (.ifCond .le 5, 3) := by decide +kernel
theorem dX11_putBack_50 : decode cX11_putBack 50 = .ok (.iconst 0, 1) := by decide +kernel
theorem dX11_putBack_51 : decode cX11_putBack 51 = .ok (.ireturn, 1) := by decide +kernel
theorem dX11_putBack_52 : decode cX11_putBack 52 = .ok (.aload_n 0, 1) := by decide +kernel
theorem dX11_putBack_53 : decode cX11_putBack 53 = .ok (.invokevirtual 229, 3) := by decide +kernel
theorem dX11_putBack_56 : decode cX11_putBack 56 = .ok (.istore_n 1, 1) := by decide +kernel
theorem dX11_putBack_57 : decode cX11_putBack 57 = .ok (.aload_n 0, 1) := by decide +kernel
theorem dX11_putBack_58 : decode cX11_putBack 58 = .ok (.invokevirtual 257, 3) := by decide +kernel
theorem dX11_putBack_61 : decode cX11_putBack 61 = .ok (.iconst 0, 1) := by decide +kernel
theorem dX11_putBack_62 : decode cX11_putBack 62 = .ok (.istore_n 2, 1) := by decide +kernel
theorem dX11_putBack_63 : decode cX11_putBack 63 = .ok (.iload_n 2, 1) := by decide +kernel
theorem dX11_putBack_64 : decode cX11_putBack 64 = .ok (.aload_n 0, 1) := by decide +kernel
theorem dX11_putBack_65 : decode cX11_putBack 65 = .ok (.getfield 103, 3) := by decide +kernel
theorem dX11_putBack_68 : decode cX11_putBack 68 = .ok (.if_icmp .ge 61, 3) := by decide +kernel
theorem dX11_putBack_71 : decode cX11_putBack 71 = .ok (.aload_n 0, 1) := by decide +kernel
theorem dX11_putBack_72 : decode cX11_putBack 72 = .ok (.getfield 20, 3) := by decide +kernel
theorem dX11_putBack_75 : decode cX11_putBack 75 = .ok (.iload_n 2, 1) := by decide +kernel
theorem dX11_putBack_76 : decode cX11_putBack 76 = .ok (.aload_n 0, 1) := by decide +kernel
theorem dX11_putBack_77 : decode cX11_putBack 77 = .ok (.getfield 69, 3) := by decide +kernel
theorem dX11_putBack_80 : decode cX11_putBack 80 = .ok (.iload_n 2, 1) := by decide +kernel
theorem dX11_putBack_81 : decode cX11_putBack 81 = .ok (.iaload, 1) := by decide +kernel
theorem dX11_putBack_82 : decode cX11_putBack 82 = .ok (.iastore, 1) := by decide +kernel
theorem dX11_putBack_83 : decode cX11_putBack 83 = .ok (.iconst 0, 1) := by decide +kernel
theorem dX11_putBack_84 : decode cX11_putBack 84 = .ok (.istore_n 3, 1) := by decide +kernel
theorem dX11_putBack_85 : decode cX11_putBack 85 = .ok (.iload_n 3, 1) := by decide +kernel
theorem dX11_putBack_86 : decode cX11_putBack 86 = .ok (.aload_n 0, 1) := by decide +kernel
theorem dX11_putBack_87 : decode cX11_putBack 87 = .ok (.getfield 20, 3) := by decide +kernel
theorem dX11_putBack_90 : decode cX11_putBack 90 = .ok (.iload_n 2, 1) := by decide +kernel
theorem dX11_putBack_91 : decode cX11_putBack 91 = .ok (.iaload, 1) := by decide +kernel
theorem dX11_putBack_92 : decode cX11_putBack 92 = .ok (.if_icmp .ge 31, 3) := by decide +kernel
theorem dX11_putBack_95 : decode cX11_putBack 95 = .ok (.aload_n 0, 1) := by decide +kernel
theorem dX11_putBack_96 : decode cX11_putBack 96 = .ok (.getfield 23, 3) := by decide +kernel
theorem dX11_putBack_99 : decode cX11_putBack 99 = .ok (.bipush 12, 2) := by decide +kernel
theorem dX11_putBack_101 : decode cX11_putBack 101 = .ok (.iload_n 2, 1) := by decide +kernel
theorem dX11_putBack_102 : decode cX11_putBack 102 = .ok (.imul, 1) := by decide +kernel
theorem dX11_putBack_103 : decode cX11_putBack 103 = .ok (.iload_n 3, 1) := by decide +kernel
theorem dX11_putBack_104 : decode cX11_putBack 104 = .ok (.iadd, 1) := by decide +kernel
theorem dX11_putBack_105 : decode cX11_putBack 105 = .ok (.aload_n 0, 1) := by decide +kernel
theorem dX11_putBack_106 : decode cX11_putBack 106 = .ok (.getfield 72, 3) := by decide +kernel
theorem dX11_putBack_109 : decode cX11_putBack 109 = .ok (.bipush 12, 2) := by decide +kernel
theorem dX11_putBack_111 : decode cX11_putBack 111 = .ok (.iload_n 2, 1) := by decide +kernel
theorem dX11_putBack_112 : decode cX11_putBack 112 = .ok (.imul, 1) := by decide +kernel
theorem dX11_putBack_113 : decode cX11_putBack 113 = .ok (.iload_n 3, 1) := by decide +kernel
theorem dX11_putBack_114 : decode cX11_putBack 114 = .ok (.iadd, 1) := by decide +kernel
theorem dX11_putBack_115 : decode cX11_putBack 115 = .ok (.iaload, 1) := by decide +kernel
theorem dX11_putBack_116 : decode cX11_putBack 116 = .ok (.iastore, 1) := by decide +kernel
theorem dX11_putBack_117 : decode cX11_putBack 117 = .ok (.iinc 3 1, 3) := by decide +kernel
theorem dX11_putBack_120 : decode cX11_putBack 120 = .ok (.goto (-35), 3) := by decide +kernel
theorem dX11_putBack_123 : decode cX11_putBack 123 = .ok (.iinc 2 1, 3) := by decide +kernel
theorem dX11_putBack_126 : decode cX11_putBack 126 = .ok (.goto (-63), 3) := by decide +kernel
theorem dX11_putBack_129 : decode cX11_putBack 129 = .ok (.aload_n 0, 1) := by decide +kernel
theorem dX11_putBack_130 : decode cX11_putBack 130 = .ok (.iconst 0, 1) := by decide +kernel
theorem dX11_putBack_131 : decode cX11_putBack 131 = .ok (.putfield 161, 3) := by decide +kernel
theorem dX11_putBack_134 : decode cX11_putBack 134 = .ok (.iload_n 1, 1) := by decide +kernel
theorem dX11_putBack_135 : decode cX11_putBack 135 = .ok (.ireturn, 1) := by decide +kernel
theorem dX11_undo_0 : decode cX11_undo 0 = .ok (.aload_n 0, 1) := by decide +kernel
theorem dX11_undo_1 : decode cX11_undo 1 = .ok (.aload_n 0, 1) := by decide +kernel
theorem dX11_undo_2 : decode cX11_undo 2 = .ok (.getfield 254, 3) := by decide +kernel
theorem dX11_undo_5 : decode cX11_undo 5 = .ok (.ifCond .ne 7, 3) := by decide +kernel
theorem dX11_undo_8 : decode cX11_undo 8 = .ok (.iconst 1, 1) := by decide +kernel
theorem dX11_undo_9 : decode cX11_undo 9 = .ok (.goto 4, 3) := by decide +kernel
theorem dX11_undo_12 : decode cX11_undo 12 = .ok (.iconst 0, 1) := by decide +kernel
theorem dX11_undo_13 : decode cX11_undo 13 = .ok (.putfield 87, 3) := by decide +kernel
theorem dX11_undo_16 : decode cX11_undo 16 = .ok (.aload_n 0, 1) := by decide +kernel
theorem dX11_undo_17 : decode cX11_undo 17 = .ok (.getfield 87, 3) := by decide +kernel
theorem dX11_undo_20 : decode cX11_undo 20 = .ok (.ifCond .le 5, 3) := by decide +kernel
theorem dX11_undo_23 : decode cX11_undo 23 = .ok (.iconst 0, 1) := by decide +kernel
theorem dX11_undo_24 : decode cX11_undo 24 = .ok (.ireturn, 1) := by decide +kernel
theorem dX11_undo_25 : decode cX11_undo 25 = .ok (.aload_n 0, 1) := by decide +kernel
theorem dX11_undo_26 : decode cX11_undo 26 = .ok (.dup, 1) := by decide +kernel
theorem dX11_undo_27 : decode cX11_undo 27 = .ok (.getfield 254, 3) := by decide +kernel
theorem dX11_undo_30 : decode cX11_undo 30 = .ok (.iconst 1, 1) := by decide +kernel
theorem dX11_undo_31 : decode cX11_undo 31 = .ok (.isub, 1) := by decide +kernel
theorem dX11_undo_32 : decode cX11_undo 32 = .ok (.putfield 254, 3) := by decide +kernel
theorem dX11_undo_35 : decode cX11_undo 35 = .ok (.iconst 0, 1) := by decide +kernel
theorem dX11_undo_36 : decode cX11_undo 36 = .ok (.istore_n 1, 1) := by decide +kernel
theorem dX11_undo_37 : decode cX11_undo 37 = .ok (.iload_n 1, 1) := by decide +kernel
theorem dX11_undo_38 : decode cX11_undo 38 = .ok (.aload_n 0, 1) := by decide +kernel
theorem dX11_undo_39 : decode cX11_undo 39 = .ok (.getfield 103, 3) := by decide +kernel
theorem dX11_undo_42 : decode cX11_undo 42 = .ok (.if_icmp .ge 28, 3) := by decide +kernel
theorem dX11_undo_45 : decode cX11_undo 45 = .ok (.aload_n 0, 1) := by decide +kernel
theorem dX11_undo_46 : decode cX11_undo 46 = .ok (.getfield 20, 3) := by decide +kernel
theorem dX11_undo_49 : decode cX11_undo 49 = .ok (.iload_n 1, 1) := by decide +kernel
theorem dX11_undo_50 : decode cX11_undo 50 = .ok (.aload_n 0, 1) := by decide +kernel
theorem dX11_undo_51 : decode cX11_undo 51 = .ok (.getfield 78, 3) := by decide +kernel
theorem dX11_undo_54 : decode cX11_undo 54 = .ok (.iconst 3, 1) := by decide +kernel
theorem dX11_undo_55 : decode cX11_undo 55 = .ok (.aload_n 0, 1) := by decide +kernel
theorem dX11_undo_56 : decode cX11_undo 56 = .ok (.getfield 254, 3) := by decide +kernel
theorem dX11_undo_59 : decode cX11_undo 59 = .ok (.imul, 1) := by decide +kernel
theorem dX11_undo_60 : decode cX11_undo 60 = .ok (.iload_n 1, 1) := by decide +kernel
theorem dX11_undo_61 : decode cX11_undo 61 = .ok (.iadd, 1) := by decide +kernel
theorem dX11_undo_62 : decode cX11_undo 62 = .ok (.iaload, 1) := by decide +kernel
theorem dX11_undo_63 : decode cX11_undo 63 = .ok (.iastore, 1) := by decide +kernel
theorem dX11_undo_64 : decode cX11_undo 64 = .ok (.iinc 1 1, 3) := by decide +kernel
theorem dX11_undo_67 : decode cX11_undo 67 = .ok (.goto (-30), 3) := by decide +kernel
theorem dX11_undo_70 : decode cX11_undo 70 = .ok (.iconst 0, 1) := by decide +kernel
theorem dX11_undo_71 : decode cX11_undo 71 = .ok (.istore_n 1, 1) := by decide +kernel
theorem dX11_undo_72 : decode cX11_undo 72 = .ok (.iload_n 1, 1) := by decide +kernel
theorem dX11_undo_73 : decode cX11_undo 73 = .ok (.bipush 36, 2) := by decide +kernel
theorem dX11_undo_75 : decode cX11_undo 75 = .ok (.if_icmp .ge 29, 3) := by decide +kernel
theorem dX11_undo_78 : decode cX11_undo 78 = .ok (.aload_n 0, 1) := by decide +kernel
theorem dX11_undo_79 : decode cX11_undo 79 = .ok (.getfield 23, 3) := by decide +kernel
theorem dX11_undo_82 : decode cX11_undo 82 = .ok (.iload_n 1, 1) := by decide +kernel
theorem dX11_undo_83 : decode cX11_undo 83 = .ok (.aload_n 0, 1) := by decide +kernel
theorem dX11_undo_84 : decode cX11_undo 84 = .ok (.getfield 81, 3) := by decide +kernel
theorem dX11_undo_87 : decode cX11_undo 87 = .ok (.bipush 36, 2) := by decide +kernel
theorem dX11_undo_89 : decode cX11_undo 89 = .ok (.aload_n 0, 1) := by decide +kernel
theorem dX11_undo_90 : decode cX11_undo 90 = .ok (.getfield 254, 3) := by decide +kernel
theorem dX11_undo_93 : decode cX11_undo 93 = .ok (.imul, 1) := by decide +kernel
theorem dX11_undo_94 : decode cX11_undo 94 = .ok (.iload_n 1, 1) := by decide +kernel
theorem dX11_undo_95 : decode cX11_undo 95 = .ok (.iadd, 1) := by decide +kernel
theorem dX11_undo_96 : decode cX11_undo 96 = .ok (.iaload, 1) := by decide +kernel
theorem dX11_undo_97 : decode cX11_undo 97 = .ok (.iastore, 1) := by decide +kernel
theorem dX11_undo_98 : decode cX11_undo 98 = .ok (.iinc 1 1, 3) := by decide +kernel
theorem dX11_undo_101 : decode cX11_undo 101 = .ok (.goto (-29), 3) := by decide +kernel
theorem dX11_undo_104 : decode cX11_undo 104 = .ok (.aload_n 0, 1) := by decide +kernel
theorem dX11_undo_105 : decode cX11_undo 105 = .ok (.getfield 254, 3) := by decide +kernel
theorem dX11_undo_108 : decode cX11_undo 108 = .ok (.ireturn, 1) := by decide +kernel
