theorem dL_hinders_169 : decode cL_hinders 169 = .ok (.ifCond .ne 19, 3) := by decide +kernel
theorem dL_hinders_172 : decode cL_hinders 172 = .ok (.iload 7, 2) := by decide +kernel
theorem dL_hinders_174 : decode cL_hinders 174 = .ok (.bipush 12, 2) := by decide +kernel
theorem dL_hinders_176 : decode cL_hinders 176 = .ok (.if_icmp .le 12, 3) := by decide +kernel
theorem dL_hinders_179 : decode cL_hinders 179 = .ok (.aload_n 1, 1) := by decide +kernel
theorem dL_hinders_180 : decode cL_hinders 180 = .ok (.iconst 4, 1) := by decide +kernel
theorem dL_hinders_181 : decode cL_hinders 181 = .ok (.bipush 10, 2) := by decide +kernel
theorem dL_hinders_183 : decode cL_hinders 183 = .ok (.iload_n 2, 1) := by decide +kernel
theorem dL_hinders_184 : decode cL_hinders 184 = .ok (.imul, 1) := by decide +kernel
theorem dL_hinders_185 : decode cL_hinders 185 = .ok (.iconst 4, 1) := by decide +kernel
theorem dL_hinders_186 : decode cL_hinders 186 = .ok (.iadd, 1) := by decide +kernel
theorem dL_hinders_187 : decode cL_hinders 187 = .ok (.iastore, 1) := by decide +kernel
theorem dL_hinders_188 : decode cL_hinders 188 = .ok (.aload_n 1, 1) := by decide +kernel
theorem dL_hinders_189 : decode cL_hinders 189 = .ok (.iconst 4, 1) := by decide +kernel
theorem dL_hinders_190 : decode cL_hinders 190 = .ok (.iaload, 1) := by decide +kernel
theorem dL_hinders_191 : decode cL_hinders 191 = .ok (.ifCond .le 7, 3) := by decide +kernel
theorem dL_hinders_194 : decode cL_hinders 194 = .ok (.iconst 1, 1) := by decide +kernel
theorem dL_hinders_195 : decode cL_hinders 195 = .ok (.goto 4, 3) := by decide +kernel
theorem dL_hinders_198 : decode cL_hinders 198 = .ok (.iconst 0, 1) := by decide +kernel
theorem dL_hinders_199 : decode cL_hinders 199 = .ok (.ireturn, 1) := by decide +kernel
theorem dL_put_0 : decode cL_put 0 = .ok (.aload_n 0, 1) := by decide +kernel
theorem dL_put_1 : decode cL_put 1 = .ok (.aload_n 1, 1) := by decide +kernel
theorem dL_put_2 : decode cL_put 2 = .ok (.aload_n 2, 1) := by decide +kernel
theorem dL_put_3 : decode cL_put 3 = .ok (.aload 5, 2) := by decide +kernel
theorem dL_put_5 : decode cL_put 5 = .ok (.invokestatic 121, 3) := by decide +kernel
theorem dL_put_8 : decode cL_put 8 = .ok (.aload 5, 2) := by decide +kernel
theorem dL_put_10 : decode cL_put 10 = .ok (.iconst 4, 1) := by decide +kernel
theorem dL_put_11 : decode cL_put 11 = .ok (.iconst 0, 1) := by decide +kernel
theorem dL_put_12 : decode cL_put 12 = .ok (.iastore, 1) := by decide +kernel
theorem dL_put_13 : decode cL_put 13 = .ok (.aload 5, 2) := by decide +kernel
theorem dL_put_15 : decode cL_put 15 = .ok (.iconst 5, 1) := by decide +kernel
theorem dL_put_16 : decode cL_put 16 = .ok (.iconst 0, 1) := by decide +kernel
theorem dL_put_17 : decode cL_put 17 = .ok (.iastore, 1) := by decide +kernel
theorem dL_put_18 : decode cL_put 18 = .ok (.iconst 0, 1) := by decide +kernel
theorem dL_put_19 : decode cL_put 19 = .ok (.istore 6, 2) := by decide +kernel
theorem dL_put_21 : decode cL_put 21 = .ok (.iload 6, 2) := by decide +kernel
theorem dL_put_23 : decode cL_put 23 = .ok (.iconst 3, 1) := by decide +kernel
theorem dL_put_24 : decode cL_put 24 = .ok (.if_icmp .ge 20, 3) := by decide +kernel
theorem dL_put_27 : decode cL_put 27 = .ok (.aload 4, 2) := by decide +kernel
theorem dL_put_29 : decode cL_put 29 = .ok (.iload 6, 2) := by decide +kernel
theorem dL_put_31 : decode cL_put 31 = .ok (.aload_n 0, 1) := by decide +kernel
theorem dL_put_32 : decode cL_put 32 = .ok (.iconst 3, 1) := by decide +kernel
theorem dL_put_33 : decode cL_put 33 = .ok (.iload 6, 2) := by decide +kernel
theorem dL_put_35 : decode cL_put 35 = .ok (.iadd, 1) := by decide +kernel
theorem dL_put_36 : decode cL_put 36 = .ok (.iaload, 1) := by decide +kernel
theorem dL_put_37 : decode cL_put 37 = .ok (.iastore, 1) := by decide +kernel
theorem dL_put_38 : decode cL_put 38 = .ok (.iinc 6 1, 3) := by decide +kernel
theorem dL_put_41 : decode cL_put 41 = .ok (.goto (-20), 3) := by decide +kernel
theorem dL_put_44 : decode cL_put 44 = .ok (.bipush 12, 2) := by decide +kernel
theorem dL_put_46 : decode cL_put 46 = .ok (.newarray .int, 2) := by decide +kernel
theorem dL_put_48 : decode cL_put 48 = .ok (.astore 6, 2) := by decide +kernel
theorem dL_put_50 : decode cL_put 50 = .ok (.iconst 1, 1) := by decide +kernel
theorem dL_put_51 : decode cL_put 51 = .ok (.istore 7, 2) := by decide +kernel
theorem dL_put_53 : decode cL_put 53 = .ok (.aload 6, 2) := by decide +kernel
theorem dL_put_55 : decode cL_put 55 = .ok (.iconst 0, 1) := by decide +kernel
theorem dL_put_56 : decode cL_put 56 = .ok (.aload 5, 2) := by decide +kernel
theorem dL_put_58 : decode cL_put 58 = .ok (.iconst 2, 1) := by decide +kernel
theorem dL_put_59 : decode cL_put 59 = .ok (.iaload, 1) := by decide +kernel
theorem dL_put_60 : decode cL_put 60 = .ok (.iconst 1, 1) := by decide +kernel
theorem dL_put_61 : decode cL_put 61 = .ok (.isub, 1) := by decide +kernel
theorem dL_put_62 : decode cL_put 62 = .ok (.iastore, 1) := by decide +kernel
theorem dL_put_63 : decode cL_put 63 = .ok (.aload_n 3, 1) := by decide +kernel
theorem dL_put_64 : decode cL_put 64 = .ok (.aload 5, 2) := by decide +kernel
theorem dL_put_66 : decode cL_put 66 = .ok (.iconst 2, 1) := by decide +kernel
theorem dL_put_67 : decode cL_put 67 = .ok (.iaload, 1) := by decide +kernel
theorem dL_put_68 : decode cL_put 68 = .ok (.iconst 1, 1) := by decide +kernel
theorem dL_put_69 : decode cL_put 69 = .ok (.isub, 1) := by decide +kernel
theorem dL_put_70 : decode cL_put 70 = .ok (.aload 5, 2) := by decide +kernel
theorem dL_put_72 : decode cL_put 72 = .ok (.iconst 3, 1) := by decide +kernel
theorem dL_put_73 : decode cL_put 73 = .ok (.iaload, 1) := by decide +kernel
theorem dL_put_74 : decode cL_put 74 = .ok (.iastore, 1) := by decide +kernel
theorem dL_put_75 : decode cL_put 75 = .ok (.iload 7, 2) := by decide +kernel
theorem dL_put_77 : decode cL_put 77 = .ok (.ifCond .le 405, 3) := by decide +kernel
theorem dL_put_80 : decode cL_put 80 = .ok (.iinc 7 (-1), 3) := by decide +kernel
theorem dL_put_83 : decode cL_put 83 = .ok (.aload 6, 2) := by decide +kernel
theorem dL_put_85 : decode cL_put 85 = .ok (.iload 7, 2) := by decide +kernel
theorem dL_put_87 : decode cL_put 87 = .ok (.iaload, 1) := by decide +kernel
theorem dL_put_88 : decode cL_put 88 = .ok (.istore 8, 2) := by decide +kernel
theorem dL_put_90 : decode cL_put 90 = .ok (.aload_n 1, 1) := by decide +kernel
theorem dL_put_91 : decode cL_put 91 = .ok (.aload 5, 2) := by decide +kernel
theorem dL_put_93 : decode cL_put 93 = .ok (.iload 8, 2) := by decide +kernel
theorem dL_put_95 : decode cL_put 95 = .ok (.aload_n 3, 1) := by decide +kernel
theorem dL_put_96 : decode cL_put 96 = .ok (.iload 8, 2) := by decide +kernel
theorem dL_put_98 : decode cL_put 98 = .ok (.iaload, 1) := by decide +kernel
theorem dL_put_99 : decode cL_put 99 = .ok (.invokestatic 125, 3) := by decide +kernel
theorem dL_put_102 : decode cL_put 102 = .ok (.ifCond .eq 4, 3) := by decide +kernel
theorem dL_put_105 : decode cL_put 105 = .ok (.return_, 1) := by decide +kernel
theorem dL_put_106 : decode cL_put 106 = .ok (.aload_n 1, 1) := by decide +kernel
theorem dL_put_107 : decode cL_put 107 = .ok (.iload 8, 2) := by decide +kernel
theorem dL_put_109 : decode cL_put 109 = .ok (.iaload, 1) := by decide +kernel
theorem dL_put_110 : decode cL_put 110 = .ok (.iconst 3, 1) := by decide +kernel
theorem dL_put_111 : decode cL_put 111 = .ok (.iand, 1) := by decide +kernel
theorem dL_put_112 : decode cL_put 112 = .ok (.istore 9, 2) := by decide +kernel
theorem dL_put_114 : decode cL_put 114 = .ok (.aload_n 1, 1) := by decide +kernel
theorem dL_put_115 : decode cL_put 115 = .ok (.iload 8, 2) := by decide +kernel
theorem dL_put_117 : decode cL_put 117 = .ok (.iaload, 1) := by decide +kernel
theorem dL_put_118 : decode cL_put 118 = .ok (.iconst 2, 1) := by decide +kernel
theorem dL_put_119 : decode cL_put 119 = .ok (.ishr, 1) := by decide +kernel
theorem dL_put_120 : decode cL_put 120 = .ok (.bipush 15, 2) := by decide +kernel
theorem dL_put_122 : decode cL_put 122 = .ok (.iand, 1) := by decide +kernel
theorem dL_put_123 : decode cL_put 123 = .ok (.istore 10, 2) := by decide +kernel
theorem dL_put_125 : decode cL_put 125 = .ok (.aload_n 1, 1) := by decide +kernel
theorem dL_put_126 : decode cL_put 126 = .ok (.iload 8, 2) := by decide +kernel
theorem dL_put_128 : decode cL_put 128 = .ok (.iaload, 1) := by decide +kernel
theorem dL_put_129 : decode cL_put 129 = .ok (.bipush 6, 2) := by decide +kernel
theorem dL_put_131 : decode cL_put 131 = .ok (.ishr, 1) := by decide +kernel
theorem dL_put_132 : decode cL_put 132 = .ok (.bipush 15, 2) := by decide +kernel
theorem dL_put_134 : decode cL_put 134 = .ok (.iand, 1) := by decide +kernel
theorem dL_put_135 : decode cL_put 135 = .ok (.istore 11, 2) := by decide +kernel
theorem dL_put_137 : decode cL_put 137 = .ok (.iload 9, 2) := by decide +kernel
theorem dL_put_139 : decode cL_put 139 = .ok (.ifCond .ne 12, 3) := by decide +kernel
theorem dL_put_142 : decode cL_put 142 = .ok (.aload 4, 2) := by decide +kernel
theorem dL_put_144 : decode cL_put 144 = .ok (.iload 10, 2) := by decide +kernel
theorem dL_put_146 : decode cL_put 146 = .ok (.aload_n 3, 1) := by decide +kernel
theorem dL_put_147 : decode cL_put 147 = .ok (.iload 8, 2) := by decide +kernel
theorem dL_put_149 : decode cL_put 149 = .ok (.iaload, 1) := by decide +kernel
theorem dL_put_150 : decode cL_put 150 = .ok (.iastore, 1) := by decide +kernel
theorem dL_put_151 : decode cL_put 151 = .ok (.iload 9, 2) := by decide +kernel
theorem dL_put_153 : decode cL_put 153 = .ok (.iconst 1, 1) := by decide +kernel
theorem dL_put_154 : decode cL_put 154 = .ok (.if_icmp .ne 38, 3) := by decide +kernel
theorem dL_put_157 : decode cL_put 157 = .ok (.aload_n 3, 1) := by decide +kernel
theorem dL_put_158 : decode cL_put 158 = .ok (.iload 10, 2) := by decide +kernel
theorem dL_put_160 : decode cL_put 160 = .ok (.aload_n 3, 1) := by decide +kernel
theorem dL_put_161 : decode cL_put 161 = .ok (.iload 8, 2) := by decide +kernel
theorem dL_put_163 : decode cL_put 163 = .ok (.iaload, 1) := by decide +kernel
theorem dL_put_164 : decode cL_put 164 = .ok (.aload_n 1, 1) := by decide +kernel
theorem dL_put_165 : decode cL_put 165 = .ok (.iload 8, 2) := by decide +kernel
theorem dL_put_167 : decode cL_put 167 = .ok (.iaload, 1) := by decide +kernel
theorem dL_put_168 : decode cL_put 168 = .ok (.aload_n 2, 1) := by decide +kernel
theorem dL_put_169 : decode cL_put 169 = .ok (.iload 10, 2) := by decide +kernel
theorem dL_put_171 : decode cL_put 171 = .ok (.iaload, 1) := by decide +kernel
theorem dL_put_172 : decode cL_put 172 = .ok (.iconst 0, 1) := by decide +kernel
theorem dL_put_173 : decode cL_put 173 = .ok (.invokestatic 103, 3) := by decide +kernel
theorem dL_put_176 : decode cL_put 176 = .ok (.aload_n 3, 1) := by decide +kernel
theorem dL_put_177 : decode cL_put 177 = .ok (.iload 8, 2) := by decide +kernel
theorem dL_put_179 : decode cL_put 179 = .ok (.iaload, 1) := by decide +kernel
theorem dL_put_180 : decode cL_put 180 = .ok (.aload_n 1, 1) := by decide +kernel
theorem dL_put_181 : decode cL_put 181 = .ok (.iload 8, 2) := by decide +kernel
theorem dL_put_183 : decode cL_put 183 = .ok (.invokestatic 114, 3) := by decide +kernel
theorem dL_put_186 : decode cL_put 186 = .ok (.iconst 0, 1) := by decide +kernel
theorem dL_put_187 : decode cL_put 187 = .ok (.invokestatic 129, 3) := by decide +kernel
theorem dL_put_190 : decode cL_put 190 = .ok (.ior, 1) := by decide +kernel
theorem dL_put_191 : decode cL_put 191 = .ok (.iastore, 1) := by decide +kernel
theorem dL_put_192 : decode cL_put 192 = .ok (.iload 9, 2) := by decide +kernel
theorem dL_put_194 : decode cL_put 194 = .ok (.iconst 2, 1) := by decide +kernel
theorem dL_put_195 : decode cL_put 195 = .ok (.if_icmp .ne 144, 3) := by decide +kernel
theorem dL_put_198 : decode cL_put 198 = .ok (.aload_n 3, 1) := by decide +kernel
theorem dL_put_199 : decode cL_put 199 = .ok (.iload 10, 2) := by decide +kernel
theorem dL_put_201 : decode cL_put 201 = .ok (.iconst 0, 1) := by decide +kernel
theorem dL_put_202 : decode cL_put 202 = .ok (.iastore, 1) := by decide +kernel
theorem dL_put_203 : decode cL_put 203 = .ok (.aload_n 1, 1) := by decide +kernel
theorem dL_put_204 : decode cL_put 204 = .ok (.iload 8, 2) := by decide +kernel
theorem dL_put_206 : decode cL_put 206 = .ok (.iaload, 1) := by decide +kernel
theorem dL_put_207 : decode cL_put 207 = .ok (.bipush 10, 2) := by decide +kernel
theorem dL_put_209 : decode cL_put 209 = .ok (.ishr, 1) := by decide +kernel
theorem dL_put_210 : decode cL_put 210 = .ok (.iconst 3, 1) := by decide +kernel
theorem dL_put_211 : decode cL_put 211 = .ok (.iand, 1) := by decide +kernel
theorem dL_put_212 : decode cL_put 212 = .ok (.istore 12, 2) := by decide +kernel
theorem dL_put_214 : decode cL_put 214 = .ok (.iconst 0, 1) := by decide +kernel
theorem dL_put_215 : decode cL_put 215 = .ok (.istore 13, 2) := by decide +kernel
theorem dL_put_217 : decode cL_put 217 = .ok (.iload 13, 2) := by decide +kernel
theorem dL_put_219 : decode cL_put 219 = .ok (.bipush 27, 2) := by decide +kernel
theorem dL_put_221 : decode cL_put 221 = .ok (.if_icmp .ge 118, 3) := by decide +kernel
theorem dL_put_224 : decode cL_put 224 = .ok (.aload_n 3, 1) := by decide +kernel
theorem dL_put_225 : decode cL_put 225 = .ok (.iload 8, 2) := by decide +kernel
theorem dL_put_227 : decode cL_put 227 = .ok (.iaload, 1) := by decide +kernel
theorem dL_put_228 : decode cL_put 228 = .ok (.iload 13, 2) := by decide +kernel
theorem dL_put_230 : decode cL_put 230 = .ok (.ishr, 1) := by decide +kernel
theorem dL_put_231 : decode cL_put 231 = .ok (.iconst 1, 1) := by decide +kernel
theorem dL_put_232 : decode cL_put 232 = .ok (.iand, 1) := by decide +kernel
theorem dL_put_233 : decode cL_put 233 = .ok (.ifCond .ne 6, 3) := by decide +kernel
theorem dL_put_236 : decode cL_put 236 = .ok (.goto 97, 3) := by decide +kernel
theorem dL_put_239 : decode cL_put 239 = .ok (.aload_n 1, 1) := by decide +kernel
theorem dL_put_240 : decode cL_put 240 = .ok (.iload 8, 2) := by decide +kernel
theorem dL_put_242 : decode cL_put 242 = .ok (.iaload, 1) := by decide +kernel
theorem dL_put_243 : decode cL_put 243 = .ok (.bipush 12, 2) := by decide +kernel
theorem dL_put_245 : decode cL_put 245 = .ok (.ishr, 1) := by decide +kernel
theorem dL_put_246 : decode cL_put 246 = .ok (.iconst 3, 1) := by decide +kernel
theorem dL_put_247 : decode cL_put 247 = .ok (.iand, 1) := by decide +kernel
theorem dL_put_248 : decode cL_put 248 = .ok (.istore 14, 2) := by decide +kernel
theorem dL_put_250 : decode cL_put 250 = .ok (.iconst 0, 1) := by decide +kernel
theorem dL_put_251 : decode cL_put 251 = .ok (.istore 15, 2) := by decide +kernel
theorem dL_put_253 : decode cL_put 253 = .ok (.iload 15, 2) := by decide +kernel
theorem dL_put_255 : decode cL_put 255 = .ok (.bipush 27, 2) := by decide +kernel
theorem dL_put_257 : decode cL_put 257 = .ok (.if_icmp .ge 56, 3) := by decide +kernel
theorem dL_put_260 : decode cL_put 260 = .ok (.aload_n 2, 1) := by decide +kernel
theorem dL_put_261 : decode cL_put 261 = .ok (.iload 10, 2) := by decide +kernel
theorem dL_put_263 : decode cL_put 263 = .ok (.iaload, 1) := by decide +kernel
theorem dL_put_264 : decode cL_put 264 = .ok (.iload 15, 2) := by decide +kernel
theorem dL_put_266 : decode cL_put 266 = .ok (.ishr, 1) := by decide +kernel
theorem dL_put_267 : decode cL_put 267 = .ok (.iconst 1, 1) := by decide +kernel
theorem dL_put_268 : decode cL_put 268 = .ok (.iand, 1) := by decide +kernel
theorem dL_put_269 : decode cL_put 269 = .ok (.iconst 1, 1) := by decide +kernel
theorem dL_put_270 : decode cL_put 270 = .ok (.if_icmp .ne 37, 3) := by decide +kernel
theorem dL_put_273 : decode cL_put 273 = .ok (.iload 15, 2) := by decide +kernel
theorem dL_put_275 : decode cL_put 275 = .ok (.aload_n 1, 1) := by decide +kernel
theorem dL_put_276 : decode cL_put 276 = .ok (.iload 8, 2) := by decide +kernel
theorem dL_put_278 : decode cL_put 278 = .ok (.invokestatic 114, 3) := by decide +kernel
theorem dL_put_281 : decode cL_put 281 = .ok (.invokestatic 97, 3) := by decide +kernel
theorem dL_put_284 : decode cL_put 284 = .ok (.iload 13, 2) := by decide +kernel
theorem dL_put_286 : decode cL_put 286 = .ok (.aload_n 1, 1) := by decide +kernel
theorem dL_put_287 : decode cL_put 287 = .ok (.iload 8, 2) := by decide +kernel
theorem dL_put_289 : decode cL_put 289 = .ok (.invokestatic 114, 3) := by decide +kernel
theorem dL_put_292 : decode cL_put 292 = .ok (.invokestatic 97, 3) := by decide +kernel
theorem dL_put_295 : decode cL_put 295 = .ok (.if_icmp .ne 12, 3) := by decide +kernel
theorem dL_put_298 : decode cL_put 298 = .ok (.iload 15, 2) := by decide +kernel
theorem dL_put_300 : decode cL_put 300 = .ok (.iload 12, 2) := by decide +kernel
theorem dL_put_302 : decode cL_put 302 = .ok (.invokestatic 89, 3) := by decide +kernel
theorem dL_put_305 : decode cL_put 305 = .ok (.istore 14, 2) := by decide +kernel
theorem dL_put_307 : decode cL_put 307 = .ok (.iinc 15 1, 3) := by decide +kernel
theorem dL_put_310 : decode cL_put 310 = .ok (.goto (-57), 3) := by decide +kernel
theorem dL_put_313 : decode cL_put 313 = .ok (.aload_n 3, 1) := by decide +kernel
theorem dL_put_314 : decode cL_put 314 = .ok (.iload 10, 2) := by decide +kernel
theorem dL_put_316 : decode cL_put 316 = .ok (.dup2, 1) := by decide +kernel
theorem dL_put_317 : decode cL_put 317 = .ok (.iaload, 1) := by decide +kernel
theorem dL_put_318 : decode cL_put 318 = .ok (.iconst 1, 1) := by decide +kernel
theorem dL_put_319 : decode cL_put 319 = .ok (.iload 13, 2) := by decide +kernel
theorem dL_put_321 : decode cL_put 321 = .ok (.iload 14, 2) := by decide +kernel
theorem dL_put_323 : decode cL_put 323 = .ok (.iload 12, 2) := by decide +kernel
theorem dL_put_325 : decode cL_put 325 = .ok (.invokestatic 94, 3) := by decide +kernel
theorem dL_put_328 : decode cL_put 328 = .ok (.imul, 1) := by decide +kernel
theorem dL_put_329 : decode cL_put 329 = .ok (.iadd, 1) := by decide +kernel
theorem dL_put_330 : decode cL_put 330 = .ok (.ishl, 1) := by decide +kernel
theorem dL_put_331 : decode cL_put 331 = .ok (.ior, 1) := by decide +kernel
theorem dL_put_332 : decode cL_put 332 = .ok (.iastore, 1) := by decide +kernel
theorem dL_put_333 : decode cL_put 333 = .ok (.iinc 13 1, 3) := by decide +kernel
theorem dL_put_336 : decode cL_put 336 = .ok (.goto (-119), 3) := by decide +kernel
theorem dL_put_339 : decode cL_put 339 = .ok (.iload 9, 2) := by decide +kernel
theorem dL_put_341 : decode cL_put 341 = .ok (.iconst 3, 1) := by decide +kernel
theorem dL_put_342 : decode cL_put 342 = .ok (.if_icmp .ne 106, 3) := by decide +kernel
theorem dL_put_345 : decode cL_put 345 = .ok (.aload_n 1, 1) := by decide +kernel
theorem dL_put_346 : decode cL_put 346 = .ok (.iload 10, 2) := by decide +kernel
theorem dL_put_348 : decode cL_put 348 = .ok (.invokestatic 107, 3) := by decide +kernel
theorem dL_put_351 : decode cL_put 351 = .ok (.aload_n 1, 1) := by decide +kernel
theorem dL_put_352 : decode cL_put 352 = .ok (.iload 11, 2) := by decide +kernel
theorem dL_put_354 : decode cL_put 354 = .ok (.invokestatic 107, 3) := by decide +kernel
theorem dL_put_357 : decode cL_put 357 = .ok (.iand, 1) := by decide +kernel
theorem dL_put_358 : decode cL_put 358 = .ok (.istore 12, 2) := by decide +kernel
theorem dL_put_360 : decode cL_put 360 = .ok (.aload_n 3, 1) := by decide +kernel
theorem dL_put_361 : decode cL_put 361 = .ok (.iload 8, 2) := by decide +kernel
theorem dL_put_363 : decode cL_put 363 = .ok (.iaload, 1) := by decide +kernel
theorem dL_put_364 : decode cL_put 364 = .ok (.aload_n 1, 1) := by decide +kernel
theorem dL_put_365 : decode cL_put 365 = .ok (.iload 11, 2) := by decide +kernel
theorem dL_put_367 : decode cL_put 367 = .ok (.invokestatic 107, 3) := by decide +kernel
theorem dL_put_370 : decode cL_put 370 = .ok (.invokestatic 100, 3) := by decide +kernel
theorem dL_put_373 : decode cL_put 373 = .ok (.istore 13, 2) := by decide +kernel
theorem dL_put_375 : decode cL_put 375 = .ok (.aload_n 3, 1) := by decide +kernel
theorem dL_put_376 : decode cL_put 376 = .ok (.iload 11, 2) := by decide +kernel
theorem dL_put_378 : decode cL_put 378 = .ok (.iload 13, 2) := by decide +kernel
theorem dL_put_380 : decode cL_put 380 = .ok (.aload_n 2, 1) := by decide +kernel
theorem dL_put_381 : decode cL_put 381 = .ok (.iload 11, 2) := by decide +kernel
theorem dL_put_383 : decode cL_put 383 = .ok (.iaload, 1) := by decide +kernel
theorem dL_put_384 : decode cL_put 384 = .ok (.iload 13, 2) := by decide +kernel
theorem dL_put_386 : decode cL_put 386 = .ok (.aload_n 1, 1) := by decide +kernel
theorem dL_put_387 : decode cL_put 387 = .ok (.iload 11, 2) := by decide +kernel
theorem dL_put_389 : decode cL_put 389 = .ok (.invokestatic 114, 3) := by decide +kernel
theorem dL_put_392 : decode cL_put 392 = .ok (.iconst 0, 1) := by decide +kernel
theorem dL_put_393 : decode cL_put 393 = .ok (.invokestatic 129, 3) := by decide +kernel
theorem dL_put_396 : decode cL_put 396 = .ok (.ior, 1) := by decide +kernel
theorem dL_put_397 : decode cL_put 397 = .ok (.iastore, 1) := by decide +kernel
theorem dL_put_398 : decode cL_put 398 = .ok (.aload_n 2, 1) := by decide +kernel
theorem dL_put_399 : decode cL_put 399 = .ok (.iload 10, 2) := by decide +kernel
theorem dL_put_401 : decode cL_put 401 = .ok (.iaload, 1) := by decide +kernel
theorem dL_put_402 : decode cL_put 402 = .ok (.aload_n 3, 1) := by decide +kernel
theorem dL_put_403 : decode cL_put 403 = .ok (.iload 8, 2) := by decide +kernel
theorem dL_put_405 : decode cL_put 405 = .ok (.iaload, 1) := by decide +kernel
theorem dL_put_406 : decode cL_put 406 = .ok (.aload_n 1, 1) := by decide +kernel
theorem dL_put_407 : decode cL_put 407 = .ok (.iload 8, 2) := by decide +kernel
theorem dL_put_409 : decode cL_put 409 = .ok (.invokestatic 114, 3) := by decide +kernel
theorem dL_put_412 : decode cL_put 412 = .ok (.iconst 0, 1) := by decide +kernel
theorem dL_put_413 : decode cL_put 413 = .ok (.invokestatic 129, 3) := by decide +kernel
theorem dL_put_416 : decode cL_put 416 = .ok (.istore 14, 2) := by decide +kernel
theorem dL_put_418 : decode cL_put 418 = .ok (.aload_n 3, 1) := by decide +kernel
theorem dL_put_419 : decode cL_put 419 = .ok (.iload 10, 2) := by decide +kernel
theorem dL_put_421 : decode cL_put 421 = .ok (.aload_n 3, 1) := by decide +kernel
theorem dL_put_422 : decode cL_put 422 = .ok (.iload 8, 2) := by decide +kernel
theorem dL_put_424 : decode cL_put 424 = .ok (.iaload, 1) := by decide +kernel
theorem dL_put_425 : decode cL_put 425 = .ok (.aload_n 1, 1) := by decide +kernel
theorem dL_put_426 : decode cL_put 426 = .ok (.iload 10, 2) := by decide +kernel
theorem dL_put_428 : decode cL_put 428 = .ok (.invokestatic 107, 3) := by decide +kernel
theorem dL_put_431 : decode cL_put 431 = .ok (.invokestatic 100, 3) := by decide +kernel
theorem dL_put_434 : decode cL_put 434 = .ok (.iload 14, 2) := by decide +kernel
theorem dL_put_436 : decode cL_put 436 = .ok (.aload_n 3, 1) := by decide +kernel
theorem dL_put_437 : decode cL_put 437 = .ok (.iload 11, 2) := by decide +kernel
theorem dL_put_439 : decode cL_put 439 = .ok (.iaload, 1) := by decide +kernel
theorem dL_put_440 : decode cL_put 440 = .ok (.iload 12, 2) := by decide +kernel
theorem dL_put_442 : decode cL_put 442 = .ok (.iconst 0, 1) := by decide +kernel
theorem dL_put_443 : decode cL_put 443 = .ok (.invokestatic 129, 3) := by decide +kernel
theorem dL_put_446 : decode cL_put 446 = .ok (.ior, 1) := by decide +kernel
theorem dL_put_447 : decode cL_put 447 = .ok (.iastore, 1) := by decide +kernel
theorem dL_put_448 : decode cL_put 448 = .ok (.iload 9, 2) := by decide +kernel
theorem dL_put_450 : decode cL_put 450 = .ok (.ifCond .le 13, 3) := by decide +kernel
theorem dL_put_453 : decode cL_put 453 = .ok (.aload 6, 2) := by decide +kernel
theorem dL_put_455 : decode cL_put 455 = .ok (.iload 7, 2) := by decide +kernel
theorem dL_put_457 : decode cL_put 457 = .ok (.iinc 7 1, 3) := by decide +kernel
theorem dL_put_460 : decode cL_put 460 = .ok (.iload 10, 2) := by decide +kernel
theorem dL_put_462 : decode cL_put 462 = .ok (.iastore, 1) := by decide +kernel
theorem dL_put_463 : decode cL_put 463 = .ok (.iload 9, 2) := by decide +kernel
theorem dL_put_465 : decode cL_put 465 = .ok (.iconst 3, 1) := by decide +kernel
theorem dL_put_466 : decode cL_put 466 = .ok (.if_icmp .ne 13, 3) := by decide +kernel
theorem dL_put_469 : decode cL_put 469 = .ok (.aload 6, 2) := by decide +kernel
theorem dL_put_471 : decode cL_put 471 = .ok (.iload 7, 2) := by decide +kernel
theorem dL_put_473 : decode cL_put 473 = .ok (.iinc 7 1, 3) := by decide +kernel
theorem dL_put_476 : decode cL_put 476 = .ok (.iload 11, 2) := by decide +kernel
theorem dL_put_478 : decode cL_put 478 = .ok (.iastore, 1) := by decide +kernel
theorem dL_put_479 : decode cL_put 479 = .ok (.goto (-404), 3) := by decide +kernel
theorem dL_put_482 : decode cL_put 482 = .ok (.return_, 1) := by decide +kernel
theorem dL_count_0 : decode cL_count 0 = .ok (.iconst 0, 1) := by decide +kernel
theorem dL_count_1 : decode cL_count 1 = .ok (.istore_n 1, 1) := by decide +kernel
theorem dL_count_2 : decode cL_count 2 = .ok (.iload_n 0, 1) := by decide +kernel
theorem dL_count_3 : decode cL_count 3 = .ok (.istore_n 2, 1) := by decide +kernel
theorem dL_count_4 : decode cL_count 4 = .ok (.iload_n 2, 1) := by decide +kernel
theorem dL_count_5 : decode cL_count 5 = .ok (.ifCond .eq 15, 3) := by decide +kernel
theorem dL_count_8 : decode cL_count 8 = .ok (.iinc 1 1, 3) := by decide +kernel
theorem dL_count_11 : decode cL_count 11 = .ok (.iload_n 2, 1) := by decide +kernel
theorem dL_count_12 : decode cL_count 12 = .ok (.iload_n 2, 1) := by decide +kernel
theorem dL_count_13 : decode cL_count 13 = .ok (.iconst 1, 1) := by decide +kernel
theorem dL_count_14 : decode cL_count 14 = .ok (.isub, 1) := by decide +kernel
theorem dL_count_15 : decode cL_count 15 = .ok (.iand, 1) := by decide +kernel
theorem dL_count_16 : decode cL_count 16 = .ok (.istore_n 2, 1) := by decide +kernel
theorem dL_count_17 : decode cL_count 17 = .ok (.goto (-13), 3) := by decide +kernel
theorem dL_count_20 : decode cL_count 20 = .ok (.iload_n 1, 1) := by decide +kernel
theorem dL_count_21 : decode cL_count 21 = .ok (.ireturn, 1) := by decide +kernel
theorem dL_least_0 : decode cL_least 0 = .ok (.aload_n 0, 1) := by decide +kernel
theorem dL_least_1 : decode cL_least 1 = .ok (.iload 4, 2) := by decide +kernel
theorem dL_least_3 : decode cL_least 3 = .ok (.iaload, 1) := by decide +kernel
theorem dL_least_4 : decode cL_least 4 = .ok (.bipush 7, 2) := by decide +kernel
theorem dL_least_6 : decode cL_least 6 = .ok (.iand, 1) := by decide +kernel
theorem dL_least_7 : decode cL_least 7 = .ok (.istore 5, 2) := by decide +kernel
theorem dL_least_9 : decode cL_least 9 = .ok (.aload_n 0, 1) := by decide +kernel
theorem dL_least_10 : decode cL_least 10 = .ok (.iconst 3, 1) := by decide +kernel
theorem dL_least_11 : decode cL_least 11 = .ok (.iload 4, 2) := by decide +kernel
theorem dL_least_13 : decode cL_least 13 = .ok (.iadd, 1) := by decide +kernel
theorem dL_least_14 : decode cL_least 14 = .ok (.iaload, 1) := by decide +kernel
theorem dL_least_15 : decode cL_least 15 = .ok (.istore 6, 2) := by decide +kernel
theorem dL_least_17 : decode cL_least 17 = .ok (.iconst 0, 1) := by decide +kernel
theorem dL_least_18 : decode cL_least 18 = .ok (.istore 7, 2) := by decide +kernel
theorem dL_least_20 : decode cL_least 20 = .ok (.iconst 0, 1) := by decide +kernel
theorem dL_least_21 : decode cL_least 21 = .ok (.istore 8, 2) := by decide +kernel
theorem dL_least_23 : decode cL_least 23 = .ok (.iload 8, 2) := by decide +kernel
theorem dL_least_25 : decode cL_least 25 = .ok (.bipush 27, 2) := by decide +kernel
theorem dL_least_27 : decode cL_least 27 = .ok (.if_icmp .ge 30, 3) := by decide +kernel
theorem dL_least_30 : decode cL_least 30 = .ok (.iload 8, 2) := by decide +kernel
theorem dL_least_32 : decode cL_least 32 = .ok (.iload 5, 2) := by decide +kernel
theorem dL_least_34 : decode cL_least 34 = .ok (.invokestatic 97, 3) := by decide +kernel
theorem dL_least_37 : decode cL_least 37 = .ok (.iload 8, 2) := by decide +kernel
theorem dL_least_39 : decode cL_least 39 = .ok (.if_icmp .ne 12, 3) := by decide +kernel
theorem dL_least_42 : decode cL_least 42 = .ok (.iload 7, 2) := by decide +kernel
theorem dL_least_44 : decode cL_least 44 = .ok (.iconst 1, 1) := by decide +kernel
theorem dL_least_45 : decode cL_least 45 = .ok (.iload 8, 2) := by decide +kernel
theorem dL_least_47 : decode cL_least 47 = .ok (.ishl, 1) := by decide +kernel
theorem dL_least_48 : decode cL_least 48 = .ok (.ior, 1) := by decide +kernel
theorem dL_least_49 : decode cL_least 49 = .ok (.istore 7, 2) := by decide +kernel
theorem dL_least_51 : decode cL_least 51 = .ok (.iinc 8 1, 3) := by decide +kernel
theorem dL_least_54 : decode cL_least 54 = .ok (.goto (-31), 3) := by decide +kernel
theorem dL_least_57 : decode cL_least 57 = .ok (.iconst (-1), 1) := by decide +kernel
theorem dL_least_58 : decode cL_least 58 = .ok (.istore 8, 2) := by decide +kernel
theorem dL_least_60 : decode cL_least 60 = .ok (.iload 7, 2) := by decide +kernel
theorem dL_least_62 : decode cL_least 62 = .ok (.istore 9, 2) := by decide +kernel
theorem dL_least_64 : decode cL_least 64 = .ok (.iload 9, 2) := by decide +kernel
theorem dL_least_66 : decode cL_least 66 = .ok (.ifCond .lt 103, 3) := by decide +kernel
theorem dL_least_69 : decode cL_least 69 = .ok (.iload 9, 2) := by decide +kernel
theorem dL_least_71 : decode cL_least 71 = .ok (.aload_n 0, 1) := by decide +kernel
theorem dL_least_72 : decode cL_least 72 = .ok (.iload 4, 2) := by decide +kernel
theorem dL_least_74 : decode cL_least 74 = .ok (.iaload, 1) := by decide +kernel
theorem dL_least_75 : decode cL_least 75 = .ok (.iconst 3, 1) := by decide +kernel
theorem dL_least_76 : decode cL_least 76 = .ok (.ishr, 1) := by decide +kernel
theorem dL_least_77 : decode cL_least 77 = .ok (.invokestatic 100, 3) := by decide +kernel
theorem dL_least_80 : decode cL_least 80 = .ok (.invokestatic 132, 3) := by decide +kernel
theorem dL_least_83 : decode cL_least 83 = .ok (.iload 9, 2) := by decide +kernel
theorem dL_least_85 : decode cL_least 85 = .ok (.invokestatic 132, 3) := by decide +kernel
theorem dL_least_88 : decode cL_least 88 = .ok (.if_icmp .eq 6, 3) := by decide +kernel
theorem dL_least_91 : decode cL_least 91 = .ok (.goto 57, 3) := by decide +kernel
theorem dL_least_94 : decode cL_least 94 = .ok (.aload_n 0, 1) := by decide +kernel
theorem dL_least_95 : decode cL_least 95 = .ok (.iconst 3, 1) := by decide +kernel
theorem dL_least_96 : decode cL_least 96 = .ok (.iload 4, 2) := by decide +kernel
theorem dL_least_98 : decode cL_least 98 = .ok (.iadd, 1) := by decide +kernel
theorem dL_least_99 : decode cL_least 99 = .ok (.iload 9, 2) := by decide +kernel
theorem dL_least_101 : decode cL_least 101 = .ok (.iastore, 1) := by decide +kernel
theorem dL_least_102 : decode cL_least 102 = .ok (.aload_n 0, 1) := by decide +kernel
theorem dL_least_103 : decode cL_least 103 = .ok (.aload_n 1, 1) := by decide +kernel
theorem dL_least_104 : decode cL_least 104 = .ok (.aload_n 2, 1) := by decide +kernel
theorem dL_least_105 : decode cL_least 105 = .ok (.aload_n 3, 1) := by decide +kernel
theorem dL_least_106 : decode cL_least 106 = .ok (.invokestatic 121, 3) := by decide +kernel
theorem dL_least_109 : decode cL_least 109 = .ok (.iload 9, 2) := by decide +kernel
theorem dL_least_111 : decode cL_least 111 = .ok (.iload 6, 2) := by decide +kernel
theorem dL_least_113 : decode cL_least 113 = .ok (.ixor, 1) := by decide +kernel
theorem dL_least_114 : decode cL_least 114 = .ok (.invokestatic 132, 3) := by decide +kernel
theorem dL_least_117 : decode cL_least 117 = .ok (.istore 10, 2) := by decide +kernel
theorem dL_least_119 : decode cL_least 119 = .ok (.aload_n 2, 1) := by decide +kernel
theorem dL_least_120 : decode cL_least 120 = .ok (.aload_n 3, 1) := by decide +kernel
theorem dL_least_121 : decode cL_least 121 = .ok (.iconst 2, 1) := by decide +kernel
theorem dL_least_122 : decode cL_least 122 = .ok (.iaload, 1) := by decide +kernel
theorem dL_least_123 : decode cL_least 123 = .ok (.iconst 1, 1) := by decide +kernel
theorem dL_least_124 : decode cL_least 124 = .ok (.isub, 1) := by decide +kernel
theorem dL_least_125 : decode cL_least 125 = .ok (.iaload, 1) := by decide +kernel
theorem dL_least_126 : decode cL_least 126 = .ok (.aload_n 3, 1) := by decide +kernel
theorem dL_least_127 : decode cL_least 127 = .ok (.iconst 3, 1) := by decide +kernel
theorem dL_least_128 : decode cL_least 128 = .ok (.iaload, 1) := by decide +kernel
theorem dL_least_129 : decode cL_least 129 = .ok (.if_icmp .ne 19, 3) := by decide +kernel
theorem dL_least_132 : decode cL_least 132 = .ok (.iload 8, 2) := by decide +kernel
theorem dL_least_134 : decode cL_least 134 = .ok (.ifCond .lt 10, 3) := by decide +kernel
theorem dL_least_137 : decode cL_least 137 = .ok (.iload 10, 2) := by decide +kernel
theorem dL_least_139 : decode cL_least 139 = .ok (.iload 8, 2) := by decide +kernel
theorem dL_least_141 : decode cL_least 141 = .ok (.if_icmp .ge 7, 3) := by decide +kernel
theorem dL_least_144 : decode cL_least 144 = .ok (.iload 10, 2) := by decide +kernel
theorem dL_least_146 : decode cL_least 146 = .ok (.istore 8, 2) := by decide +kernel
theorem dL_least_148 : decode cL_least 148 = .ok (.iload 9, 2) := by decide +kernel
theorem dL_least_150 : decode cL_least 150 = .ok (.ifCond .ne 7, 3) := by decide +kernel
theorem dL_least_153 : decode cL_least 153 = .ok (.iconst (-1), 1) := by decide +kernel
theorem dL_least_154 : decode cL_least 154 = .ok (.goto 10, 3) := by decide +kernel
theorem dL_least_157 : decode cL_least 157 = .ok (.iload 9, 2) := by decide +kernel
theorem dL_least_159 : decode cL_least 159 = .ok (.iconst 1, 1) := by decide +kernel
theorem dL_least_160 : decode cL_least 160 = .ok (.isub, 1) := by decide +kernel
theorem dL_least_161 : decode cL_least 161 = .ok (.iload 7, 2) := by decide +kernel
theorem dL_least_163 : decode cL_least 163 = .ok (.iand, 1) := by decide +kernel
theorem dL_least_164 : decode cL_least 164 = .ok (.istore 9, 2) := by decide +kernel
theorem dL_least_166 : decode cL_least 166 = .ok (.goto (-102), 3) := by decide +kernel
theorem dL_least_169 : decode cL_least 169 = .ok (.aload_n 0, 1) := by decide +kernel
theorem dL_least_170 : decode cL_least 170 = .ok (.iconst 3, 1) := by decide +kernel
theorem dL_least_171 : decode cL_least 171 = .ok (.iload 4, 2) := by decide +kernel
theorem dL_least_173 : decode cL_least 173 = .ok (.iadd, 1) := by decide +kernel
theorem dL_least_174 : decode cL_least 174 = .ok (.iload 6, 2) := by decide +kernel
theorem dL_least_176 : decode cL_least 176 = .ok (.iastore, 1) := by decide +kernel
theorem dL_least_177 : decode cL_least 177 = .ok (.iload 8, 2) := by decide +kernel
theorem dL_least_179 : decode cL_least 179 = .ok (.ireturn, 1) := by decide +kernel
theorem dL_draftTold_0 : decode cL_draftTold 0 = .ok (.aload 6, 2) := by decide +kernel
theorem dL_draftTold_2 : decode cL_draftTold 2 = .ok (.iconst 2, 1) := by decide +kernel
theorem dL_draftTold_3 : decode cL_draftTold 3 = .ok (.iaload, 1) := by decide +kernel
theorem dL_draftTold_4 : decode cL_draftTold 4 = .ok (.ifCond .ne 98, 3) := by decide +kernel
theorem dL_draftTold_7 : decode cL_draftTold 7 = .ok (.aload_n 0, 1) := by decide +kernel
theorem dL_draftTold_8 : decode cL_draftTold 8 = .ok (.invokestatic 135, 3) := by decide +kernel
theorem dL_draftTold_11 : decode cL_draftTold 11 = .ok (.sipush (-7300), 3) := by decide +kernel
theorem dL_draftTold_14 : decode cL_draftTold 14 = .ok (.if_icmp .ne 86, 3) := by decide +kernel
theorem dL_draftTold_17 : decode cL_draftTold 17 = .ok (.aload_n 0, 1) := by decide +kernel
theorem dL_draftTold_18 : decode cL_draftTold 18 = .ok (.iconst 2, 1) := by decide +kernel
theorem dL_draftTold_19 : decode cL_draftTold 19 = .ok (.invokestatic 138, 3) := by decide +kernel
theorem dL_draftTold_22 : decode cL_draftTold 22 = .ok (.sipush (-7300), 3) := by decide +kernel
theorem dL_draftTold_25 : decode cL_draftTold 25 = .ok (.if_icmp .ne 75, 3) := by decide +kernel
theorem dL_draftTold_28 : decode cL_draftTold 28 = .ok (.aload_n 0, 1) := by decide +kernel
theorem dL_draftTold_29 : decode cL_draftTold 29 = .ok (.invokestatic 141, 3) := by decide +kernel
theorem dL_draftTold_32 : decode cL_draftTold 32 = .ok (.sipush (-7300), 3) := by decide +kernel
theorem dL_draftTold_35 : decode cL_draftTold 35 = .ok (.if_icmp .ne 65, 3) := by decide +kernel
theorem dL_draftTold_38 : decode cL_draftTold 38 = .ok (.aload_n 0, 1) := by decide +kernel
theorem dL_draftTold_39 : decode cL_draftTold 39 = .ok (.invokestatic 143, 3) := by decide +kernel
theorem dL_draftTold_42 : decode cL_draftTold 42 = .ok (.sipush (-7300), 3) := by decide +kernel
theorem dL_draftTold_45 : decode cL_draftTold 45 = .ok (.if_icmp .ne 55, 3) := by decide +kernel
theorem dL_draftTold_48 : decode cL_draftTold 48 = .ok (.aload_n 0, 1) := by decide +kernel
theorem dL_draftTold_49 : decode cL_draftTold 49 = .ok (.iconst (-1), 1) := by decide +kernel
theorem dL_draftTold_50 : decode cL_draftTold 50 = .ok (.invokestatic 145, 3) := by decide +kernel
theorem dL_draftTold_53 : decode cL_draftTold 53 = .ok (.sipush (-7300), 3) := by decide +kernel
theorem dL_draftTold_56 : decode cL_draftTold 56 = .ok (.if_icmp .ne 44, 3) := by decide +kernel
theorem dL_draftTold_59 : decode cL_draftTold 59 = .ok (.aload_n 0, 1) := by decide +kernel
theorem dL_draftTold_60 : decode cL_draftTold 60 = .ok (.iconst (-1), 1) := by decide +kernel
theorem dL_draftTold_61 : decode cL_draftTold 61 = .ok (.invokestatic 147, 3) := by decide +kernel
theorem dL_draftTold_64 : decode cL_draftTold 64 = .ok (.sipush (-7300), 3) := by decide +kernel
theorem dL_draftTold_67 : decode cL_draftTold 67 = .ok (.if_icmp .ne 33, 3) := by decide +kernel
theorem dL_draftTold_70 : decode cL_draftTold 70 = .ok (.aload_n 0, 1) := by decide +kernel
theorem dL_draftTold_71 : decode cL_draftTold 71 = .ok (.iconst 0, 1) := by decide +kernel
theorem dL_draftTold_72 : decode cL_draftTold 72 = .ok (.invokestatic 149, 3) := by decide +kernel
theorem dL_draftTold_75 : decode cL_draftTold 75 = .ok (.sipush (-7300), 3) := by decide +kernel
theorem dL_draftTold_78 : decode cL_draftTold 78 = .ok (.if_icmp .ne 22, 3) := by decide +kernel
theorem dL_draftTold_81 : decode cL_draftTold 81 = .ok (.aload_n 0, 1) := by decide +kernel
theorem dL_draftTold_82 : decode cL_draftTold 82 = .ok (.iconst 0, 1) := by decide +kernel
theorem dL_draftTold_83 : decode cL_draftTold 83 = .ok (.bipush 9, 2) := by decide +kernel
theorem dL_draftTold_85 : decode cL_draftTold 85 = .ok (.bipush 9, 2) := by decide +kernel
theorem dL_draftTold_87 : decode cL_draftTold 87 = .ok (.invokestatic 151, 3) := by decide +kernel
theorem dL_draftTold_90 : decode cL_draftTold 90 = .ok (.sipush (-7300), 3) := by decide +kernel
theorem dL_draftTold_93 : decode cL_draftTold 93 = .ok (.if_icmp .ne 7, 3) := by decide +kernel
theorem dL_draftTold_96 : decode cL_draftTold 96 = .ok (.iconst 1, 1) := by decide +kernel
theorem dL_draftTold_97 : decode cL_draftTold 97 = .ok (.goto 4, 3) := by decide +kernel
theorem dL_draftTold_100 : decode cL_draftTold 100 = .ok (.iconst 0, 1) := by decide +kernel
theorem dL_draftTold_101 : decode cL_draftTold 101 = .ok (.ireturn, 1) := by decide +kernel
theorem dL_draftTold_102 : decode cL_draftTold 102 = .ok (.iconst 0, 1) := by decide +kernel
theorem dL_draftTold_103 : decode cL_draftTold 103 = .ok (.istore 8, 2) := by decide +kernel
theorem dL_draftTold_105 : decode cL_draftTold 105 = .ok (.iconst 0, 1) := by decide +kernel
theorem dL_draftTold_106 : decode cL_draftTold 106 = .ok (.istore 9, 2) := by decide +kernel
theorem dL_draftTold_108 : decode cL_draftTold 108 = .ok (.iload 9, 2) := by decide +kernel
theorem dL_draftTold_110 : decode cL_draftTold 110 = .ok (.bipush 27, 2) := by decide +kernel
theorem dL_draftTold_112 : decode cL_draftTold 112 = .ok (.if_icmp .ge 43, 3) := by decide +kernel
theorem dL_draftTold_115 : decode cL_draftTold 115 = .ok (.aload 6, 2) := by decide +kernel
theorem dL_draftTold_117 : decode cL_draftTold 117 = .ok (.iconst 3, 1) := by decide +kernel
theorem dL_draftTold_118 : decode cL_draftTold 118 = .ok (.iaload, 1) := by decide +kernel
theorem dL_draftTold_119 : decode cL_draftTold 119 = .ok (.iload 9, 2) := by decide +kernel
theorem dL_draftTold_121 : decode cL_draftTold 121 = .ok (.ishr, 1) := by decide +kernel
theorem dL_draftTold_122 : decode cL_draftTold 122 = .ok (.iconst 1, 1) := by decide +kernel
theorem dL_draftTold_123 : decode cL_draftTold 123 = .ok (.iand, 1) := by decide +kernel
theorem dL_draftTold_124 : decode cL_draftTold 124 = .ok (.ifCond .ne 6, 3) := by decide +kernel
theorem dL_draftTold_127 : decode cL_draftTold 127 = .ok (.goto 22, 3) := by decide +kernel
theorem dL_draftTold_130 : decode cL_draftTold 130 = .ok (.aload_n 0, 1) := by decide +kernel
theorem dL_draftTold_131 : decode cL_draftTold 131 = .ok (.iload 8, 2) := by decide +kernel
theorem dL_draftTold_133 : decode cL_draftTold 133 = .ok (.invokestatic 145, 3) := by decide +kernel
theorem dL_draftTold_136 : decode cL_draftTold 136 = .ok (.iload 9, 2) := by decide +kernel
theorem dL_draftTold_138 : decode cL_draftTold 138 = .ok (.invokestatic 111, 3) := by decide +kernel
theorem dL_draftTold_141 : decode cL_draftTold 141 = .ok (.if_icmp .eq 5, 3) := by decide +kernel
theorem dL_draftTold_144 : decode cL_draftTold 144 = .ok (.iconst 0, 1) := by decide +kernel
theorem dL_draftTold_145 : decode cL_draftTold 145 = .ok (.ireturn, 1) := by decide +kernel
theorem dL_draftTold_146 : decode cL_draftTold 146 = .ok (.iinc 8 1, 3) := by decide +kernel
theorem dL_draftTold_149 : decode cL_draftTold 149 = .ok (.iinc 9 1, 3) := by decide +kernel
theorem dL_draftTold_152 : decode cL_draftTold 152 = .ok (.goto (-44), 3) := by decide +kernel
theorem dL_draftTold_155 : decode cL_draftTold 155 = .ok (.aload_n 1, 1) := by decide +kernel
theorem dL_draftTold_156 : decode cL_draftTold 156 = .ok (.aload_n 2, 1) := by decide +kernel
theorem dL_draftTold_157 : decode cL_draftTold 157 = .ok (.aload_n 3, 1) := by decide +kernel
theorem dL_draftTold_158 : decode cL_draftTold 158 = .ok (.aload 4, 2) := by decide +kernel
theorem dL_draftTold_160 : decode cL_draftTold 160 = .ok (.aload 5, 2) := by decide +kernel
theorem dL_draftTold_162 : decode cL_draftTold 162 = .ok (.aload 6, 2) := by decide +kernel
theorem dL_draftTold_164 : decode cL_draftTold 164 = .ok (.invokestatic 154, 3) := by decide +kernel
theorem dL_draftTold_167 : decode cL_draftTold 167 = .ok (.iconst 0, 1) := by decide +kernel
theorem dL_draftTold_168 : decode cL_draftTold 168 = .ok (.istore 9, 2) := by decide +kernel
theorem dL_draftTold_170 : decode cL_draftTold 170 = .ok (.iconst 0, 1) := by decide +kernel
theorem dL_draftTold_171 : decode cL_draftTold 171 = .ok (.istore 10, 2) := by decide +kernel
theorem dL_draftTold_173 : decode cL_draftTold 173 = .ok (.iload 10, 2) := by decide +kernel
theorem dL_draftTold_175 : decode cL_draftTold 175 = .ok (.iconst 3, 1) := by decide +kernel
theorem dL_draftTold_176 : decode cL_draftTold 176 = .ok (.if_icmp .ge 29, 3) := by decide +kernel
theorem dL_draftTold_179 : decode cL_draftTold 179 = .ok (.iload 9, 2) := by decide +kernel
theorem dL_draftTold_181 : decode cL_draftTold 181 = .ok (.aload 5, 2) := by decide +kernel
theorem dL_draftTold_183 : decode cL_draftTold 183 = .ok (.iload 10, 2) := by decide +kernel
theorem dL_draftTold_185 : decode cL_draftTold 185 = .ok (.iaload, 1) := by decide +kernel
theorem dL_draftTold_186 : decode cL_draftTold 186 = .ok (.aload_n 1, 1) := by decide +kernel
theorem dL_draftTold_187 : decode cL_draftTold 187 = .ok (.iconst 3, 1) := by decide +kernel
theorem dL_draftTold_188 : decode cL_draftTold 188 = .ok (.iload 10, 2) := by decide +kernel
theorem dL_draftTold_190 : decode cL_draftTold 190 = .ok (.iadd, 1) := by decide +kernel
theorem dL_draftTold_191 : decode cL_draftTold 191 = .ok (.iaload, 1) := by decide +kernel
theorem dL_draftTold_192 : decode cL_draftTold 192 = .ok (.ixor, 1) := by decide +kernel
theorem dL_draftTold_193 : decode cL_draftTold 193 = .ok (.invokestatic 132, 3) := by decide +kernel
theorem dL_draftTold_196 : decode cL_draftTold 196 = .ok (.iadd, 1) := by decide +kernel
theorem dL_draftTold_197 : decode cL_draftTold 197 = .ok (.istore 9, 2) := by decide +kernel
theorem dL_draftTold_199 : decode cL_draftTold 199 = .ok (.iinc 10 1, 3) := by decide +kernel
theorem dL_draftTold_202 : decode cL_draftTold 202 = .ok (.goto (-29), 3) := by decide +kernel
theorem dL_draftTold_205 : decode cL_draftTold 205 = .ok (.aload_n 0, 1) := by decide +kernel
theorem dL_draftTold_206 : decode cL_draftTold 206 = .ok (.iload 8, 2) := by decide +kernel
theorem dL_draftTold_208 : decode cL_draftTold 208 = .ok (.invokestatic 145, 3) := by decide +kernel
theorem dL_draftTold_211 : decode cL_draftTold 211 = .ok (.iconst (-1), 1) := by decide +kernel
theorem dL_draftTold_212 : decode cL_draftTold 212 = .ok (.if_icmp .ne 92, 3) := by decide +kernel
theorem dL_draftTold_215 : decode cL_draftTold 215 = .ok (.aload_n 0, 1) := by decide +kernel
theorem dL_draftTold_216 : decode cL_draftTold 216 = .ok (.iconst (-1), 1) := by decide +kernel
theorem dL_draftTold_217 : decode cL_draftTold 217 = .ok (.invokestatic 145, 3) := by decide +kernel
theorem dL_draftTold_220 : decode cL_draftTold 220 = .ok (.sipush (-7100), 3) := by decide +kernel
theorem dL_draftTold_223 : decode cL_draftTold 223 = .ok (.if_icmp .ne 81, 3) := by decide +kernel
theorem dL_draftTold_226 : decode cL_draftTold 226 = .ok (.aload_n 0, 1) := by decide +kernel
theorem dL_draftTold_227 : decode cL_draftTold 227 = .ok (.invokestatic 135, 3) := by decide +kernel
theorem dL_draftTold_230 : decode cL_draftTold 230 = .ok (.aload 6, 2) := by decide +kernel
theorem dL_draftTold_232 : decode cL_draftTold 232 = .ok (.iconst 4, 1) := by decide +kernel
theorem dL_draftTold_233 : decode cL_draftTold 233 = .ok (.iaload, 1) := by decide +kernel
theorem dL_draftTold_234 : decode cL_draftTold 234 = .ok (.if_icmp .ne 70, 3) := by decide +kernel
theorem dL_draftTold_237 : decode cL_draftTold 237 = .ok (.aload_n 0, 1) := by decide +kernel
theorem dL_draftTold_238 : decode cL_draftTold 238 = .ok (.iconst 0, 1) := by decide +kernel
theorem dL_draftTold_239 : decode cL_draftTold 239 = .ok (.invokestatic 138, 3) := by decide +kernel
theorem dL_draftTold_242 : decode cL_draftTold 242 = .ok (.aload 6, 2) := by decide +kernel
theorem dL_draftTold_244 : decode cL_draftTold 244 = .ok (.iconst 5, 1) := by decide +kernel
theorem dL_draftTold_245 : decode cL_draftTold 245 = .ok (.iaload, 1) := by decide +kernel
theorem dL_draftTold_246 : decode cL_draftTold 246 = .ok (.sipush 1000, 3) := by decide +kernel
theorem dL_draftTold_249 : decode cL_draftTold 249 = .ok (.irem, 1) := by decide +kernel
theorem dL_draftTold_250 : decode cL_draftTold 250 = .ok (.iconst 1, 1) := by decide +kernel
theorem dL_draftTold_251 : decode cL_draftTold 251 = .ok (.isub, 1) := by decide +kernel
theorem dL_draftTold_252 : decode cL_draftTold 252 = .ok (.if_icmp .ne 52, 3) := by decide +kernel
theorem dL_draftTold_255 : decode cL_draftTold 255 = .ok (.aload_n 0, 1) := by decide +kernel
theorem dL_draftTold_256 : decode cL_draftTold 256 = .ok (.iconst 1, 1) := by decide +kernel
theorem dL_draftTold_257 : decode cL_draftTold 257 = .ok (.invokestatic 138, 3) := by decide +kernel
theorem dL_draftTold_260 : decode cL_draftTold 260 = .ok (.aload 6, 2) := by decide +kernel
theorem dL_draftTold_262 : decode cL_draftTold 262 = .ok (.iconst 5, 1) := by decide +kernel
theorem dL_draftTold_263 : decode cL_draftTold 263 = .ok (.iaload, 1) := by decide +kernel
theorem dL_draftTold_264 : decode cL_draftTold 264 = .ok (.sipush 1000, 3) := by decide +kernel
theorem dL_draftTold_267 : decode cL_draftTold 267 = .ok (.idiv, 1) := by decide +kernel
theorem dL_draftTold_268 : decode cL_draftTold 268 = .ok (.iconst 1, 1) := by decide +kernel
theorem dL_draftTold_269 : decode cL_draftTold 269 = .ok (.isub, 1) := by decide +kernel
theorem dL_draftTold_270 : decode cL_draftTold 270 = .ok (.if_icmp .ne 34, 3) := by decide +kernel
theorem dL_draftTold_273 : decode cL_draftTold 273 = .ok (.aload_n 0, 1) := by decide +kernel
theorem dL_draftTold_274 : decode cL_draftTold 274 = .ok (.iconst 2, 1) := by decide +kernel
theorem dL_draftTold_275 : decode cL_draftTold 275 = .ok (.invokestatic 138, 3) := by decide +kernel
theorem dL_draftTold_278 : decode cL_draftTold 278 = .ok (.sipush (-7200), 3) := by decide +kernel
theorem dL_draftTold_281 : decode cL_draftTold 281 = .ok (.if_icmp .ne 23, 3) := by decide +kernel
theorem dL_draftTold_284 : decode cL_draftTold 284 = .ok (.aload_n 0, 1) := by decide +kernel
theorem dL_draftTold_285 : decode cL_draftTold 285 = .ok (.invokestatic 141, 3) := by decide +kernel
theorem dL_draftTold_288 : decode cL_draftTold 288 = .ok (.aload 6, 2) := by decide +kernel
theorem dL_draftTold_290 : decode cL_draftTold 290 = .ok (.iconst 4, 1) := by decide +kernel
theorem dL_draftTold_291 : decode cL_draftTold 291 = .ok (.iaload, 1) := by decide +kernel
theorem dL_draftTold_292 : decode cL_draftTold 292 = .ok (.ifCond .le 7, 3) := by decide +kernel
theorem dL_draftTold_295 : decode cL_draftTold 295 = .ok (.iconst (-1), 1) := by decide +kernel
theorem dL_draftTold_296 : decode cL_draftTold 296 = .ok (.goto 5, 3) := by decide +kernel
theorem dL_draftTold_299 : decode cL_draftTold 299 = .ok (.iload 9, 2) := by decide +kernel
theorem dL_draftTold_301 : decode cL_draftTold 301 = .ok (.if_icmp .eq 5, 3) := by decide +kernel
theorem dL_draftTold_304 : decode cL_draftTold 304 = .ok (.iconst 0, 1) := by decide +kernel
theorem dL_draftTold_305 : decode cL_draftTold 305 = .ok (.ireturn, 1) := by decide +kernel
theorem dL_draftTold_306 : decode cL_draftTold 306 = .ok (.aload_n 2, 1) := by decide +kernel
theorem dL_draftTold_307 : decode cL_draftTold 307 = .ok (.aload 6, 2) := by decide +kernel
theorem dL_draftTold_309 : decode cL_draftTold 309 = .ok (.iconst 2, 1) := by decide +kernel
theorem dL_draftTold_310 : decode cL_draftTold 310 = .ok (.iaload, 1) := by decide +kernel
theorem dL_draftTold_311 : decode cL_draftTold 311 = .ok (.iconst 1, 1) := by decide +kernel
theorem dL_draftTold_312 : decode cL_draftTold 312 = .ok (.isub, 1) := by decide +kernel
theorem dL_draftTold_313 : decode cL_draftTold 313 = .ok (.iaload, 1) := by decide +kernel
theorem dL_draftTold_314 : decode cL_draftTold 314 = .ok (.bipush 21, 2) := by decide +kernel
theorem dL_draftTold_316 : decode cL_draftTold 316 = .ok (.ishr, 1) := by decide +kernel
theorem dL_draftTold_317 : decode cL_draftTold 317 = .ok (.bipush 7, 2) := by decide +kernel
theorem dL_draftTold_319 : decode cL_draftTold 319 = .ok (.iand, 1) := by decide +kernel
theorem dL_draftTold_320 : decode cL_draftTold 320 = .ok (.istore 10, 2) := by decide +kernel
theorem dL_draftTold_322 : decode cL_draftTold 322 = .ok (.iload 10, 2) := by decide +kernel
theorem dL_draftTold_324 : decode cL_draftTold 324 = .ok (.iconst 4, 1) := by decide +kernel
theorem dL_draftTold_325 : decode cL_draftTold 325 = .ok (.if_icmp .ne 7, 3) := by decide +kernel
theorem dL_draftTold_328 : decode cL_draftTold 328 = .ok (.iconst 2, 1) := by decide +kernel
theorem dL_draftTold_329 : decode cL_draftTold 329 = .ok (.goto 7, 3) := by decide +kernel
theorem dL_draftTold_332 : decode cL_draftTold 332 = .ok (.iload 10, 2) := by decide +kernel
theorem dL_draftTold_334 : decode cL_draftTold 334 = .ok (.iconst 1, 1) := by decide +kernel
theorem dL_draftTold_335 : decode cL_draftTold 335 = .ok (.isub, 1) := by decide +kernel
theorem dL_draftTold_336 : decode cL_draftTold 336 = .ok (.istore 11, 2) := by decide +kernel
theorem dL_draftTold_338 : decode cL_draftTold 338 = .ok (.iload 10, 2) := by decide +kernel
theorem dL_draftTold_340 : decode cL_draftTold 340 = .ok (.iload 10, 2) := by decide +kernel
theorem dL_draftTold_342 : decode cL_draftTold 342 = .ok (.iconst 1, 1) := by decide +kernel
theorem dL_draftTold_343 : decode cL_draftTold 343 = .ok (.isub, 1) := by decide +kernel
theorem dL_draftTold_344 : decode cL_draftTold 344 = .ok (.iand, 1) := by decide +kernel
theorem dL_draftTold_345 : decode cL_draftTold 345 = .ok (.ifCond .ne 19, 3) := by decide +kernel
theorem dL_draftTold_348 : decode cL_draftTold 348 = .ok (.aload_n 1, 1) := by decide +kernel
theorem dL_draftTold_349 : decode cL_draftTold 349 = .ok (.iload 11, 2) := by decide +kernel
theorem dL_draftTold_351 : decode cL_draftTold 351 = .ok (.iaload, 1) := by decide +kernel
theorem dL_draftTold_352 : decode cL_draftTold 352 = .ok (.bipush 7, 2) := by decide +kernel
theorem dL_draftTold_354 : decode cL_draftTold 354 = .ok (.iand, 1) := by decide +kernel
theorem dL_draftTold_355 : decode cL_draftTold 355 = .ok (.bipush 7, 2) := by decide +kernel
theorem dL_draftTold_357 : decode cL_draftTold 357 = .ok (.if_icmp .eq 7, 3) := by decide +kernel
theorem dL_draftTold_360 : decode cL_draftTold 360 = .ok (.iconst 1, 1) := by decide +kernel
theorem dL_draftTold_361 : decode cL_draftTold 361 = .ok (.goto 4, 3) := by decide +kernel
theorem dL_draftTold_364 : decode cL_draftTold 364 = .ok (.iconst 0, 1) := by decide +kernel
theorem dL_draftTold_365 : decode cL_draftTold 365 = .ok (.istore 12, 2) := by decide +kernel
theorem dL_draftTold_367 : decode cL_draftTold 367 = .ok (.iload 7, 2) := by decide +kernel
theorem dL_draftTold_369 : decode cL_draftTold 369 = .ok (.ifCond .ne 8, 3) := by decide +kernel
theorem dL_draftTold_372 : decode cL_draftTold 372 = .ok (.iload 12, 2) := by decide +kernel
theorem dL_draftTold_374 : decode cL_draftTold 374 = .ok (.ifCond .ne 31, 3) := by decide +kernel
theorem dL_draftTold_377 : decode cL_draftTold 377 = .ok (.aload_n 0, 1) := by decide +kernel
theorem dL_draftTold_378 : decode cL_draftTold 378 = .ok (.invokestatic 143, 3) := by decide +kernel
theorem dL_draftTold_381 : decode cL_draftTold 381 = .ok (.iload 12, 2) := by decide +kernel
theorem dL_draftTold_383 : decode cL_draftTold 383 = .ok (.ifCond .eq 16, 3) := by decide +kernel
theorem dL_draftTold_386 : decode cL_draftTold 386 = .ok (.aload_n 1, 1) := by decide +kernel
theorem dL_draftTold_387 : decode cL_draftTold 387 = .ok (.aload_n 2, 1) := by decide +kernel
theorem dL_draftTold_388 : decode cL_draftTold 388 = .ok (.aload_n 3, 1) := by decide +kernel
theorem dL_draftTold_389 : decode cL_draftTold 389 = .ok (.aload 6, 2) := by decide +kernel
theorem dL_draftTold_391 : decode cL_draftTold 391 = .ok (.iload 11, 2) := by decide +kernel
theorem dL_draftTold_393 : decode cL_draftTold 393 = .ok (.invokestatic 158, 3) := by decide +kernel
theorem dL_draftTold_396 : decode cL_draftTold 396 = .ok (.goto 6, 3) := by decide +kernel
theorem dL_draftTold_399 : decode cL_draftTold 399 = .ok (.sipush (-7300), 3) := by decide +kernel
theorem dL_draftTold_402 : decode cL_draftTold 402 = .ok (.if_icmp .ne 7, 3) := by decide +kernel
theorem dL_draftTold_405 : decode cL_draftTold 405 = .ok (.iconst 1, 1) := by decide +kernel
theorem dL_draftTold_406 : decode cL_draftTold 406 = .ok (.goto 4, 3) := by decide +kernel
theorem dL_draftTold_409 : decode cL_draftTold 409 = .ok (.iconst 0, 1) := by decide +kernel
theorem dL_draftTold_410 : decode cL_draftTold 410 = .ok (.ireturn, 1) := by decide +kernel
theorem dL_isTold_0 : decode cL_isTold 0 = .ok (.aload_n 1, 1) := by decide +kernel
theorem dL_isTold_1 : decode cL_isTold 1 = .ok (.aload_n 2, 1) := by decide +kernel
theorem dL_isTold_2 : decode cL_isTold 2 = .ok (.aload_n 3, 1) := by decide +kernel
theorem dL_isTold_3 : decode cL_isTold 3 = .ok (.aload 4, 2) := by decide +kernel
theorem dL_isTold_5 : decode cL_isTold 5 = .ok (.invokestatic 121, 3) := by decide +kernel
theorem dL_isTold_8 : decode cL_isTold 8 = .ok (.iconst 0, 1) := by decide +kernel
theorem dL_isTold_9 : decode cL_isTold 9 = .ok (.istore 5, 2) := by decide +kernel
theorem dL_isTold_11 : decode cL_isTold 11 = .ok (.iload 5, 2) := by decide +kernel
theorem dL_isTold_13 : decode cL_isTold 13 = .ok (.aload 4, 2) := by decide +kernel
theorem dL_isTold_15 : decode cL_isTold 15 = .ok (.iconst 1, 1) := by decide +kernel
theorem dL_isTold_16 : decode cL_isTold 16 = .ok (.iaload, 1) := by decide +kernel
theorem dL_isTold_17 : decode cL_isTold 17 = .ok (.if_icmp .ge 134, 3) := by decide +kernel
theorem dL_isTold_20 : decode cL_isTold 20 = .ok (.iconst 0, 1) := by decide +kernel
theorem dL_isTold_21 : decode cL_isTold 21 = .ok (.istore 6, 2) := by decide +kernel
theorem dL_isTold_23 : decode cL_isTold 23 = .ok (.iconst 0, 1) := by decide +kernel
theorem dL_isTold_24 : decode cL_isTold 24 = .ok (.istore 7, 2) := by decide +kernel
theorem dL_isTold_26 : decode cL_isTold 26 = .ok (.iload 7, 2) := by decide +kernel
theorem dL_isTold_28 : decode cL_isTold 28 = .ok (.bipush 27, 2) := by decide +kernel
theorem dL_isTold_30 : decode cL_isTold 30 = .ok (.if_icmp .ge 45, 3) := by decide +kernel
theorem dL_isTold_33 : decode cL_isTold 33 = .ok (.aload_n 3, 1) := by decide +kernel
theorem dL_isTold_34 : decode cL_isTold 34 = .ok (.iload 5, 2) := by decide +kernel
theorem dL_isTold_36 : decode cL_isTold 36 = .ok (.iaload, 1) := by decide +kernel
theorem dL_isTold_37 : decode cL_isTold 37 = .ok (.iload 7, 2) := by decide +kernel
theorem dL_isTold_39 : decode cL_isTold 39 = .ok (.ishr, 1) := by decide +kernel
theorem dL_isTold_40 : decode cL_isTold 40 = .ok (.iconst 1, 1) := by decide +kernel
theorem dL_isTold_41 : decode cL_isTold 41 = .ok (.iand, 1) := by decide +kernel
theorem dL_isTold_42 : decode cL_isTold 42 = .ok (.ifCond .ne 6, 3) := by decide +kernel
theorem dL_isTold_45 : decode cL_isTold 45 = .ok (.goto 24, 3) := by decide +kernel
theorem dL_isTold_48 : decode cL_isTold 48 = .ok (.aload_n 0, 1) := by decide +kernel
theorem dL_isTold_49 : decode cL_isTold 49 = .ok (.iload 5, 2) := by decide +kernel
theorem dL_isTold_51 : decode cL_isTold 51 = .ok (.iload 6, 2) := by decide +kernel
theorem dL_isTold_53 : decode cL_isTold 53 = .ok (.invokestatic 162, 3) := by decide +kernel
theorem dL_isTold_56 : decode cL_isTold 56 = .ok (.iload 7, 2) := by decide +kernel
theorem dL_isTold_58 : decode cL_isTold 58 = .ok (.invokestatic 111, 3) := by decide +kernel
theorem dL_isTold_61 : decode cL_isTold 61 = .ok (.if_icmp .eq 5, 3) := by decide +kernel
theorem dL_isTold_64 : decode cL_isTold 64 = .ok (.iconst 0, 1) := by decide +kernel
theorem dL_isTold_65 : decode cL_isTold 65 = .ok (.ireturn, 1) := by decide +kernel
theorem dL_isTold_66 : decode cL_isTold 66 = .ok (.iinc 6 1, 3) := by decide +kernel
theorem dL_isTold_69 : decode cL_isTold 69 = .ok (.iinc 7 1, 3) := by decide +kernel
theorem dL_isTold_72 : decode cL_isTold 72 = .ok (.goto (-46), 3) := by decide +kernel
theorem dL_isTold_75 : decode cL_isTold 75 = .ok (.aload_n 0, 1) := by decide +kernel
theorem dL_isTold_76 : decode cL_isTold 76 = .ok (.iload 5, 2) := by decide +kernel
theorem dL_isTold_78 : decode cL_isTold 78 = .ok (.invokestatic 165, 3) := by decide +kernel
theorem dL_isTold_81 : decode cL_isTold 81 = .ok (.iload 6, 2) := by decide +kernel
theorem dL_isTold_83 : decode cL_isTold 83 = .ok (.if_icmp .ne 60, 3) := by decide +kernel
theorem dL_isTold_86 : decode cL_isTold 86 = .ok (.aload_n 0, 1) := by decide +kernel
theorem dL_isTold_87 : decode cL_isTold 87 = .ok (.iload 5, 2) := by decide +kernel
theorem dL_isTold_89 : decode cL_isTold 89 = .ok (.iload 6, 2) := by decide +kernel
theorem dL_isTold_91 : decode cL_isTold 91 = .ok (.invokestatic 162, 3) := by decide +kernel
theorem dL_isTold_94 : decode cL_isTold 94 = .ok (.sipush (-7100), 3) := by decide +kernel
theorem dL_isTold_97 : decode cL_isTold 97 = .ok (.if_icmp .ne 46, 3) := by decide +kernel
theorem dL_isTold_100 : decode cL_isTold 100 = .ok (.aload_n 0, 1) := by decide +kernel
theorem dL_isTold_101 : decode cL_isTold 101 = .ok (.iload 5, 2) := by decide +kernel
theorem dL_isTold_103 : decode cL_isTold 103 = .ok (.iconst (-1), 1) := by decide +kernel
theorem dL_isTold_104 : decode cL_isTold 104 = .ok (.invokestatic 162, 3) := by decide +kernel
theorem dL_isTold_107 : decode cL_isTold 107 = .ok (.sipush (-7100), 3) := by decide +kernel
theorem dL_isTold_110 : decode cL_isTold 110 = .ok (.if_icmp .ne 33, 3) := by decide +kernel
theorem dL_isTold_113 : decode cL_isTold 113 = .ok (.aload_n 0, 1) := by decide +kernel
theorem dL_isTold_114 : decode cL_isTold 114 = .ok (.iload 5, 2) := by decide +kernel
theorem dL_isTold_116 : decode cL_isTold 116 = .ok (.invokestatic 167, 3) := by decide +kernel
theorem dL_isTold_119 : decode cL_isTold 119 = .ok (.aload_n 2, 1) := by decide +kernel
theorem dL_isTold_120 : decode cL_isTold 120 = .ok (.iload 5, 2) := by decide +kernel
theorem dL_isTold_122 : decode cL_isTold 122 = .ok (.invokestatic 107, 3) := by decide +kernel
theorem dL_isTold_125 : decode cL_isTold 125 = .ok (.if_icmp .ne 18, 3) := by decide +kernel
theorem dL_isTold_128 : decode cL_isTold 128 = .ok (.aload_n 0, 1) := by decide +kernel
theorem dL_isTold_129 : decode cL_isTold 129 = .ok (.iload 5, 2) := by decide +kernel
theorem dL_isTold_131 : decode cL_isTold 131 = .ok (.invokestatic 169, 3) := by decide +kernel
theorem dL_isTold_134 : decode cL_isTold 134 = .ok (.aload_n 2, 1) := by decide +kernel
theorem dL_isTold_135 : decode cL_isTold 135 = .ok (.iload 5, 2) := by decide +kernel
theorem dL_isTold_137 : decode cL_isTold 137 = .ok (.invokestatic 114, 3) := by decide +kernel
theorem dL_isTold_140 : decode cL_isTold 140 = .ok (.if_icmp .eq 5, 3) := by decide +kernel
theorem dL_isTold_143 : decode cL_isTold 143 = .ok (.iconst 0, 1) := by decide +kernel
theorem dL_isTold_144 : decode cL_isTold 144 = .ok (.ireturn, 1) := by decide +kernel
theorem dL_isTold_145 : decode cL_isTold 145 = .ok (.iinc 5 1, 3) := by decide +kernel
theorem dL_isTold_148 : decode cL_isTold 148 = .ok (.goto (-137), 3) := by decide +kernel
theorem dL_isTold_151 : decode cL_isTold 151 = .ok (.aload_n 0, 1) := by decide +kernel
theorem dL_isTold_152 : decode cL_isTold 152 = .ok (.aload 4, 2) := by decide +kernel
theorem dL_isTold_154 : decode cL_isTold 154 = .ok (.iconst 1, 1) := by decide +kernel
theorem dL_isTold_155 : decode cL_isTold 155 = .ok (.iaload, 1) := by decide +kernel
theorem dL_isTold_156 : decode cL_isTold 156 = .ok (.invokestatic 165, 3) := by decide +kernel
theorem dL_isTold_159 : decode cL_isTold 159 = .ok (.sipush (-7100), 3) := by decide +kernel
theorem dL_isTold_162 : decode cL_isTold 162 = .ok (.if_icmp .ne 46, 3) := by decide +kernel
theorem dL_isTold_165 : decode cL_isTold 165 = .ok (.aload_n 0, 1) := by decide +kernel
theorem dL_isTold_166 : decode cL_isTold 166 = .ok (.iconst (-1), 1) := by decide +kernel
theorem dL_isTold_167 : decode cL_isTold 167 = .ok (.invokestatic 167, 3) := by decide +kernel
theorem dL_isTold_170 : decode cL_isTold 170 = .ok (.sipush (-7100), 3) := by decide +kernel
theorem dL_isTold_173 : decode cL_isTold 173 = .ok (.if_icmp .ne 35, 3) := by decide +kernel
theorem dL_isTold_176 : decode cL_isTold 176 = .ok (.aload_n 0, 1) := by decide +kernel
theorem dL_isTold_177 : decode cL_isTold 177 = .ok (.aload 4, 2) := by decide +kernel
theorem dL_isTold_179 : decode cL_isTold 179 = .ok (.iconst 1, 1) := by decide +kernel
theorem dL_isTold_180 : decode cL_isTold 180 = .ok (.iaload, 1) := by decide +kernel
theorem dL_isTold_181 : decode cL_isTold 181 = .ok (.invokestatic 169, 3) := by decide +kernel
theorem dL_isTold_184 : decode cL_isTold 184 = .ok (.sipush (-7100), 3) := by decide +kernel
theorem dL_isTold_187 : decode cL_isTold 187 = .ok (.if_icmp .ne 21, 3) := by decide +kernel
theorem dL_isTold_190 : decode cL_isTold 190 = .ok (.aload_n 0, 1) := by decide +kernel
theorem dL_isTold_191 : decode cL_isTold 191 = .ok (.aload 4, 2) := by decide +kernel
theorem dL_isTold_193 : decode cL_isTold 193 = .ok (.iconst 1, 1) := by decide +kernel
theorem dL_isTold_194 : decode cL_isTold 194 = .ok (.iaload, 1) := by decide +kernel
theorem dL_isTold_195 : decode cL_isTold 195 = .ok (.invokestatic 171, 3) := by decide +kernel
theorem dL_isTold_198 : decode cL_isTold 198 = .ok (.sipush (-7100), 3) := by decide +kernel
theorem dL_isTold_201 : decode cL_isTold 201 = .ok (.if_icmp .ne 7, 3) := by decide +kernel
theorem dL_isTold_204 : decode cL_isTold 204 = .ok (.iconst 1, 1) := by decide +kernel
theorem dL_isTold_205 : decode cL_isTold 205 = .ok (.goto 4, 3) := by decide +kernel
theorem dL_isTold_208 : decode cL_isTold 208 = .ok (.iconst 0, 1) := by decide +kernel
theorem dL_isTold_209 : decode cL_isTold 209 = .ok (.ireturn, 1) := by decide +kernel
theorem dL_views_0 : decode cL_views 0 = .ok (.aload 6, 2) := by decide +kernel
theorem dL_views_2 : decode cL_views 2 = .ok (.iconst 1, 1) := by decide +kernel
theorem dL_views_3 : decode cL_views 3 = .ok (.iaload, 1) := by decide +kernel
theorem dL_views_4 : decode cL_views 4 = .ok (.ifCond .ne 52, 3) := by decide +kernel
theorem dL_views_7 : decode cL_views 7 = .ok (.iload_n 1, 1) := by decide +kernel
theorem dL_views_8 : decode cL_views 8 = .ok (.ifCond .le 48, 3) := by decide +kernel
theorem dL_views_11 : decode cL_views 11 = .ok (.aload_n 0, 1) := by decide +kernel
theorem dL_views_12 : decode cL_views 12 = .ok (.iconst 0, 1) := by decide +kernel
theorem dL_views_13 : decode cL_views 13 = .ok (.iconst 0, 1) := by decide +kernel
theorem dL_views_14 : decode cL_views 14 = .ok (.iconst 0, 1) := by decide +kernel
theorem dL_views_15 : decode cL_views 15 = .ok (.iconst 1, 1) := by decide +kernel
theorem dL_views_16 : decode cL_views 16 = .ok (.invokestatic 173, 3) := by decide +kernel
theorem dL_views_19 : decode cL_views 19 = .ok (.sipush (-7100), 3) := by decide +kernel
theorem dL_views_22 : decode cL_views 22 = .ok (.if_icmp .ne 32, 3) := by decide +kernel
theorem dL_views_25 : decode cL_views 25 = .ok (.aload_n 0, 1) := by decide +kernel
theorem dL_views_26 : decode cL_views 26 = .ok (.iconst 0, 1) := by decide +kernel
theorem dL_views_27 : decode cL_views 27 = .ok (.iconst 0, 1) := by decide +kernel
theorem dL_views_28 : decode cL_views 28 = .ok (.iconst 0, 1) := by decide +kernel
theorem dL_views_29 : decode cL_views 29 = .ok (.invokestatic 176, 3) := by decide +kernel
theorem dL_views_32 : decode cL_views 32 = .ok (.sipush (-7100), 3) := by decide +kernel
theorem dL_views_35 : decode cL_views 35 = .ok (.if_icmp .ne 19, 3) := by decide +kernel
theorem dL_views_38 : decode cL_views 38 = .ok (.aload_n 0, 1) := by decide +kernel
theorem dL_views_39 : decode cL_views 39 = .ok (.iconst 0, 1) := by decide +kernel
theorem dL_views_40 : decode cL_views 40 = .ok (.iconst 0, 1) := by decide +kernel
theorem dL_views_41 : decode cL_views 41 = .ok (.invokestatic 178, 3) := by decide +kernel
theorem dL_views_44 : decode cL_views 44 = .ok (.sipush (-7100), 3) := by decide +kernel
theorem dL_views_47 : decode cL_views 47 = .ok (.if_icmp .ne 7, 3) := by decide +kernel
theorem dL_views_50 : decode cL_views 50 = .ok (.iconst 1, 1) := by decide +kernel
theorem dL_views_51 : decode cL_views 51 = .ok (.goto 4, 3) := by decide +kernel
theorem dL_views_54 : decode cL_views 54 = .ok (.iconst 0, 1) := by decide +kernel
theorem dL_views_55 : decode cL_views 55 = .ok (.ireturn, 1) := by decide +kernel
theorem dL_views_56 : decode cL_views 56 = .ok (.iload_n 1, 1) := by decide +kernel
theorem dL_views_57 : decode cL_views 57 = .ok (.ifCond .ne 151, 3) := by decide +kernel
theorem dL_views_60 : decode cL_views 60 = .ok (.iload_n 2, 1) := by decide +kernel
theorem dL_views_61 : decode cL_views 61 = .ok (.aload 6, 2) := by decide +kernel
theorem dL_views_63 : decode cL_views 63 = .ok (.iconst 0, 1) := by decide +kernel
theorem dL_views_64 : decode cL_views 64 = .ok (.iaload, 1) := by decide +kernel
theorem dL_views_65 : decode cL_views 65 = .ok (.iconst 1, 1) := by decide +kernel
theorem dL_views_66 : decode cL_views 66 = .ok (.iadd, 1) := by decide +kernel
theorem dL_views_67 : decode cL_views 67 = .ok (.invokestatic 180, 3) := by decide +kernel
theorem dL_views_70 : decode cL_views 70 = .ok (.istore 7, 2) := by decide +kernel
theorem dL_views_72 : decode cL_views 72 = .ok (.iload 7, 2) := by decide +kernel
theorem dL_views_74 : decode cL_views 74 = .ok (.aload 6, 2) := by decide +kernel
theorem dL_views_76 : decode cL_views 76 = .ok (.iconst 0, 1) := by decide +kernel
theorem dL_views_77 : decode cL_views 77 = .ok (.iaload, 1) := by decide +kernel
theorem dL_views_78 : decode cL_views 78 = .ok (.if_icmp .ne 32, 3) := by decide +kernel
theorem dL_views_81 : decode cL_views 81 = .ok (.aload_n 0, 1) := by decide +kernel
theorem dL_views_82 : decode cL_views 82 = .ok (.iload 7, 2) := by decide +kernel
theorem dL_views_84 : decode cL_views 84 = .ok (.invokestatic 183, 3) := by decide +kernel
theorem dL_views_87 : decode cL_views 87 = .ok (.sipush (-7100), 3) := by decide +kernel
theorem dL_views_90 : decode cL_views 90 = .ok (.if_icmp .ne 18, 3) := by decide +kernel
theorem dL_views_93 : decode cL_views 93 = .ok (.aload_n 0, 1) := by decide +kernel
theorem dL_views_94 : decode cL_views 94 = .ok (.iconst (-1), 1) := by decide +kernel
theorem dL_views_95 : decode cL_views 95 = .ok (.invokestatic 183, 3) := by decide +kernel
theorem dL_views_98 : decode cL_views 98 = .ok (.sipush (-7100), 3) := by decide +kernel
theorem dL_views_101 : decode cL_views 101 = .ok (.if_icmp .ne 7, 3) := by decide +kernel
theorem dL_views_104 : decode cL_views 104 = .ok (.iconst 1, 1) := by decide +kernel
theorem dL_views_105 : decode cL_views 105 = .ok (.goto 4, 3) := by decide +kernel
theorem dL_views_108 : decode cL_views 108 = .ok (.iconst 0, 1) := by decide +kernel
theorem dL_views_109 : decode cL_views 109 = .ok (.ireturn, 1) := by decide +kernel
theorem dL_views_110 : decode cL_views 110 = .ok (.aload 6, 2) := by decide +kernel
theorem dL_views_112 : decode cL_views 112 = .ok (.iconst 1, 1) := by decide +kernel
