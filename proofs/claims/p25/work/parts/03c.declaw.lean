theorem dL_views_113 : decode cL_views 113 = .ok (.iaload, 1) := by decide +kernel
theorem dL_views_114 : decode cL_views 114 = .ok (.bipush 10, 2) := by decide +kernel
theorem dL_views_116 : decode cL_views 116 = .ok (.if_icmp .ne 21, 3) := by decide +kernel
theorem dL_views_119 : decode cL_views 119 = .ok (.aload_n 0, 1) := by decide +kernel
theorem dL_views_120 : decode cL_views 120 = .ok (.iload 7, 2) := by decide +kernel
theorem dL_views_122 : decode cL_views 122 = .ok (.invokestatic 183, 3) := by decide +kernel
theorem dL_views_125 : decode cL_views 125 = .ok (.sipush (-7300), 3) := by decide +kernel
theorem dL_views_128 : decode cL_views 128 = .ok (.if_icmp .ne 7, 3) := by decide +kernel
theorem dL_views_131 : decode cL_views 131 = .ok (.iconst 1, 1) := by decide +kernel
theorem dL_views_132 : decode cL_views 132 = .ok (.goto 4, 3) := by decide +kernel
theorem dL_views_135 : decode cL_views 135 = .ok (.iconst 0, 1) := by decide +kernel
theorem dL_views_136 : decode cL_views 136 = .ok (.ireturn, 1) := by decide +kernel
theorem dL_views_137 : decode cL_views 137 = .ok (.aload 5, 2) := by decide +kernel
theorem dL_views_139 : decode cL_views 139 = .ok (.aload 6, 2) := by decide +kernel
theorem dL_views_141 : decode cL_views 141 = .ok (.iconst 1, 1) := by decide +kernel
theorem dL_views_142 : decode cL_views 142 = .ok (.iaload, 1) := by decide +kernel
theorem dL_views_143 : decode cL_views 143 = .ok (.iconst 4, 1) := by decide +kernel
theorem dL_views_144 : decode cL_views 144 = .ok (.iload 7, 2) := by decide +kernel
theorem dL_views_146 : decode cL_views 146 = .ok (.imul, 1) := by decide +kernel
theorem dL_views_147 : decode cL_views 147 = .ok (.aload 4, 2) := by decide +kernel
theorem dL_views_149 : decode cL_views 149 = .ok (.iload 7, 2) := by decide +kernel
theorem dL_views_151 : decode cL_views 151 = .ok (.iaload, 1) := by decide +kernel
theorem dL_views_152 : decode cL_views 152 = .ok (.bipush 7, 2) := by decide +kernel
theorem dL_views_154 : decode cL_views 154 = .ok (.iand, 1) := by decide +kernel
theorem dL_views_155 : decode cL_views 155 = .ok (.bipush 15, 2) := by decide +kernel
theorem dL_views_157 : decode cL_views 157 = .ok (.ishl, 1) := by decide +kernel
theorem dL_views_158 : decode cL_views 158 = .ok (.iadd, 1) := by decide +kernel
theorem dL_views_159 : decode cL_views 159 = .ok (.aload 4, 2) := by decide +kernel
theorem dL_views_161 : decode cL_views 161 = .ok (.iload 7, 2) := by decide +kernel
theorem dL_views_163 : decode cL_views 163 = .ok (.iaload, 1) := by decide +kernel
theorem dL_views_164 : decode cL_views 164 = .ok (.iconst 3, 1) := by decide +kernel
theorem dL_views_165 : decode cL_views 165 = .ok (.ishr, 1) := by decide +kernel
theorem dL_views_166 : decode cL_views 166 = .ok (.bipush 18, 2) := by decide +kernel
theorem dL_views_168 : decode cL_views 168 = .ok (.ishl, 1) := by decide +kernel
theorem dL_views_169 : decode cL_views 169 = .ok (.iadd, 1) := by decide +kernel
theorem dL_views_170 : decode cL_views 170 = .ok (.iconst 1, 1) := by decide +kernel
theorem dL_views_171 : decode cL_views 171 = .ok (.bipush 21, 2) := by decide +kernel
theorem dL_views_173 : decode cL_views 173 = .ok (.iload 7, 2) := by decide +kernel
theorem dL_views_175 : decode cL_views 175 = .ok (.iadd, 1) := by decide +kernel
theorem dL_views_176 : decode cL_views 176 = .ok (.ishl, 1) := by decide +kernel
theorem dL_views_177 : decode cL_views 177 = .ok (.iadd, 1) := by decide +kernel
theorem dL_views_178 : decode cL_views 178 = .ok (.iastore, 1) := by decide +kernel
theorem dL_views_179 : decode cL_views 179 = .ok (.aload 6, 2) := by decide +kernel
theorem dL_views_181 : decode cL_views 181 = .ok (.iconst 1, 1) := by decide +kernel
theorem dL_views_182 : decode cL_views 182 = .ok (.dup2, 1) := by decide +kernel
theorem dL_views_183 : decode cL_views 183 = .ok (.iaload, 1) := by decide +kernel
theorem dL_views_184 : decode cL_views 184 = .ok (.iconst 1, 1) := by decide +kernel
theorem dL_views_185 : decode cL_views 185 = .ok (.iadd, 1) := by decide +kernel
theorem dL_views_186 : decode cL_views 186 = .ok (.iastore, 1) := by decide +kernel
theorem dL_views_187 : decode cL_views 187 = .ok (.aload_n 0, 1) := by decide +kernel
theorem dL_views_188 : decode cL_views 188 = .ok (.iload 7, 2) := by decide +kernel
theorem dL_views_190 : decode cL_views 190 = .ok (.invokestatic 183, 3) := by decide +kernel
theorem dL_views_193 : decode cL_views 193 = .ok (.aload 6, 2) := by decide +kernel
theorem dL_views_195 : decode cL_views 195 = .ok (.iconst 1, 1) := by decide +kernel
theorem dL_views_196 : decode cL_views 196 = .ok (.iaload, 1) := by decide +kernel
theorem dL_views_197 : decode cL_views 197 = .ok (.iconst 1, 1) := by decide +kernel
theorem dL_views_198 : decode cL_views 198 = .ok (.isub, 1) := by decide +kernel
theorem dL_views_199 : decode cL_views 199 = .ok (.if_icmp .ne 7, 3) := by decide +kernel
theorem dL_views_202 : decode cL_views 202 = .ok (.iconst 1, 1) := by decide +kernel
theorem dL_views_203 : decode cL_views 203 = .ok (.goto 4, 3) := by decide +kernel
theorem dL_views_206 : decode cL_views 206 = .ok (.iconst 0, 1) := by decide +kernel
theorem dL_views_207 : decode cL_views 207 = .ok (.ireturn, 1) := by decide +kernel
theorem dL_views_208 : decode cL_views 208 = .ok (.iload_n 2, 1) := by decide +kernel
theorem dL_views_209 : decode cL_views 209 = .ok (.aload 6, 2) := by decide +kernel
theorem dL_views_211 : decode cL_views 211 = .ok (.iconst 1, 1) := by decide +kernel
theorem dL_views_212 : decode cL_views 212 = .ok (.iaload, 1) := by decide +kernel
theorem dL_views_213 : decode cL_views 213 = .ok (.invokestatic 180, 3) := by decide +kernel
theorem dL_views_216 : decode cL_views 216 = .ok (.istore 7, 2) := by decide +kernel
theorem dL_views_218 : decode cL_views 218 = .ok (.iload_n 3, 1) := by decide +kernel
theorem dL_views_219 : decode cL_views 219 = .ok (.iconst 3, 1) := by decide +kernel
theorem dL_views_220 : decode cL_views 220 = .ok (.invokestatic 180, 3) := by decide +kernel
theorem dL_views_223 : decode cL_views 223 = .ok (.istore 8, 2) := by decide +kernel
theorem dL_views_225 : decode cL_views 225 = .ok (.iload_n 3, 1) := by decide +kernel
theorem dL_views_226 : decode cL_views 226 = .ok (.iconst 3, 1) := by decide +kernel
theorem dL_views_227 : decode cL_views 227 = .ok (.ishr, 1) := by decide +kernel
theorem dL_views_228 : decode cL_views 228 = .ok (.iconst 3, 1) := by decide +kernel
theorem dL_views_229 : decode cL_views 229 = .ok (.invokestatic 180, 3) := by decide +kernel
theorem dL_views_232 : decode cL_views 232 = .ok (.istore 9, 2) := by decide +kernel
theorem dL_views_234 : decode cL_views 234 = .ok (.aload 5, 2) := by decide +kernel
theorem dL_views_236 : decode cL_views 236 = .ok (.iload 7, 2) := by decide +kernel
theorem dL_views_238 : decode cL_views 238 = .ok (.invokestatic 114, 3) := by decide +kernel
theorem dL_views_241 : decode cL_views 241 = .ok (.istore 10, 2) := by decide +kernel
theorem dL_views_243 : decode cL_views 243 = .ok (.aload 5, 2) := by decide +kernel
theorem dL_views_245 : decode cL_views 245 = .ok (.iload 7, 2) := by decide +kernel
theorem dL_views_247 : decode cL_views 247 = .ok (.invokestatic 107, 3) := by decide +kernel
theorem dL_views_250 : decode cL_views 250 = .ok (.istore 11, 2) := by decide +kernel
theorem dL_views_252 : decode cL_views 252 = .ok (.aload 5, 2) := by decide +kernel
theorem dL_views_254 : decode cL_views 254 = .ok (.iload 7, 2) := by decide +kernel
theorem dL_views_256 : decode cL_views 256 = .ok (.iaload, 1) := by decide +kernel
theorem dL_views_257 : decode cL_views 257 = .ok (.bipush 21, 2) := by decide +kernel
theorem dL_views_259 : decode cL_views 259 = .ok (.ishr, 1) := by decide +kernel
theorem dL_views_260 : decode cL_views 260 = .ok (.bipush 7, 2) := by decide +kernel
theorem dL_views_262 : decode cL_views 262 = .ok (.iand, 1) := by decide +kernel
theorem dL_views_263 : decode cL_views 263 = .ok (.istore 12, 2) := by decide +kernel
theorem dL_views_265 : decode cL_views 265 = .ok (.iload_n 1, 1) := by decide +kernel
theorem dL_views_266 : decode cL_views 266 = .ok (.iconst 1, 1) := by decide +kernel
theorem dL_views_267 : decode cL_views 267 = .ok (.if_icmp .ne 273, 3) := by decide +kernel
theorem dL_views_270 : decode cL_views 270 = .ok (.iload_n 3, 1) := by decide +kernel
theorem dL_views_271 : decode cL_views 271 = .ok (.sipush 768, 3) := by decide +kernel
theorem dL_views_274 : decode cL_views 274 = .ok (.iand, 1) := by decide +kernel
theorem dL_views_275 : decode cL_views 275 = .ok (.sipush 256, 3) := by decide +kernel
theorem dL_views_278 : decode cL_views 278 = .ok (.if_icmp .le 7, 3) := by decide +kernel
theorem dL_views_281 : decode cL_views 281 = .ok (.iconst 1, 1) := by decide +kernel
theorem dL_views_282 : decode cL_views 282 = .ok (.goto 4, 3) := by decide +kernel
theorem dL_views_285 : decode cL_views 285 = .ok (.iconst 0, 1) := by decide +kernel
theorem dL_views_286 : decode cL_views 286 = .ok (.istore 13, 2) := by decide +kernel
theorem dL_views_288 : decode cL_views 288 = .ok (.aload_n 0, 1) := by decide +kernel
theorem dL_views_289 : decode cL_views 289 = .ok (.aload 6, 2) := by decide +kernel
theorem dL_views_291 : decode cL_views 291 = .ok (.iconst 1, 1) := by decide +kernel
theorem dL_views_292 : decode cL_views 292 = .ok (.iaload, 1) := by decide +kernel
theorem dL_views_293 : decode cL_views 293 = .ok (.iload 8, 2) := by decide +kernel
theorem dL_views_295 : decode cL_views 295 = .ok (.iload 9, 2) := by decide +kernel
theorem dL_views_297 : decode cL_views 297 = .ok (.iload 13, 2) := by decide +kernel
theorem dL_views_299 : decode cL_views 299 = .ok (.invokestatic 173, 3) := by decide +kernel
theorem dL_views_302 : decode cL_views 302 = .ok (.sipush (-7100), 3) := by decide +kernel
theorem dL_views_305 : decode cL_views 305 = .ok (.if_icmp .ne 73, 3) := by decide +kernel
theorem dL_views_308 : decode cL_views 308 = .ok (.aload_n 0, 1) := by decide +kernel
theorem dL_views_309 : decode cL_views 309 = .ok (.iload 7, 2) := by decide +kernel
theorem dL_views_311 : decode cL_views 311 = .ok (.bipush 6, 2) := by decide +kernel
theorem dL_views_313 : decode cL_views 313 = .ok (.iload 9, 2) := by decide +kernel
theorem dL_views_315 : decode cL_views 315 = .ok (.iload 13, 2) := by decide +kernel
theorem dL_views_317 : decode cL_views 317 = .ok (.invokestatic 173, 3) := by decide +kernel
theorem dL_views_320 : decode cL_views 320 = .ok (.sipush (-7200), 3) := by decide +kernel
theorem dL_views_323 : decode cL_views 323 = .ok (.if_icmp .ne 55, 3) := by decide +kernel
theorem dL_views_326 : decode cL_views 326 = .ok (.aload_n 0, 1) := by decide +kernel
theorem dL_views_327 : decode cL_views 327 = .ok (.iload 7, 2) := by decide +kernel
theorem dL_views_329 : decode cL_views 329 = .ok (.iconst (-1), 1) := by decide +kernel
theorem dL_views_330 : decode cL_views 330 = .ok (.iload 9, 2) := by decide +kernel
theorem dL_views_332 : decode cL_views 332 = .ok (.iload 13, 2) := by decide +kernel
theorem dL_views_334 : decode cL_views 334 = .ok (.invokestatic 173, 3) := by decide +kernel
theorem dL_views_337 : decode cL_views 337 = .ok (.sipush (-7200), 3) := by decide +kernel
theorem dL_views_340 : decode cL_views 340 = .ok (.if_icmp .ne 38, 3) := by decide +kernel
theorem dL_views_343 : decode cL_views 343 = .ok (.aload_n 0, 1) := by decide +kernel
theorem dL_views_344 : decode cL_views 344 = .ok (.iload 7, 2) := by decide +kernel
theorem dL_views_346 : decode cL_views 346 = .ok (.iload 8, 2) := by decide +kernel
theorem dL_views_348 : decode cL_views 348 = .ok (.bipush 10, 2) := by decide +kernel
theorem dL_views_350 : decode cL_views 350 = .ok (.iload 13, 2) := by decide +kernel
theorem dL_views_352 : decode cL_views 352 = .ok (.invokestatic 173, 3) := by decide +kernel
theorem dL_views_355 : decode cL_views 355 = .ok (.sipush (-7200), 3) := by decide +kernel
theorem dL_views_358 : decode cL_views 358 = .ok (.if_icmp .ne 20, 3) := by decide +kernel
theorem dL_views_361 : decode cL_views 361 = .ok (.aload_n 0, 1) := by decide +kernel
theorem dL_views_362 : decode cL_views 362 = .ok (.iload 7, 2) := by decide +kernel
theorem dL_views_364 : decode cL_views 364 = .ok (.iload 8, 2) := by decide +kernel
theorem dL_views_366 : decode cL_views 366 = .ok (.iconst (-1), 1) := by decide +kernel
theorem dL_views_367 : decode cL_views 367 = .ok (.iload 13, 2) := by decide +kernel
theorem dL_views_369 : decode cL_views 369 = .ok (.invokestatic 173, 3) := by decide +kernel
theorem dL_views_372 : decode cL_views 372 = .ok (.sipush (-7200), 3) := by decide +kernel
theorem dL_views_375 : decode cL_views 375 = .ok (.if_icmp .eq 5, 3) := by decide +kernel
theorem dL_views_378 : decode cL_views 378 = .ok (.iconst 0, 1) := by decide +kernel
theorem dL_views_379 : decode cL_views 379 = .ok (.ireturn, 1) := by decide +kernel
theorem dL_views_380 : decode cL_views 380 = .ok (.iload 11, 2) := by decide +kernel
theorem dL_views_382 : decode cL_views 382 = .ok (.iload 8, 2) := by decide +kernel
theorem dL_views_384 : decode cL_views 384 = .ok (.ishr, 1) := by decide +kernel
theorem dL_views_385 : decode cL_views 385 = .ok (.iconst 1, 1) := by decide +kernel
theorem dL_views_386 : decode cL_views 386 = .ok (.iand, 1) := by decide +kernel
theorem dL_views_387 : decode cL_views 387 = .ok (.ifCond .ne 27, 3) := by decide +kernel
theorem dL_views_390 : decode cL_views 390 = .ok (.aload_n 0, 1) := by decide +kernel
theorem dL_views_391 : decode cL_views 391 = .ok (.iload 7, 2) := by decide +kernel
theorem dL_views_393 : decode cL_views 393 = .ok (.iload 8, 2) := by decide +kernel
theorem dL_views_395 : decode cL_views 395 = .ok (.iload 9, 2) := by decide +kernel
theorem dL_views_397 : decode cL_views 397 = .ok (.iload 13, 2) := by decide +kernel
theorem dL_views_399 : decode cL_views 399 = .ok (.invokestatic 173, 3) := by decide +kernel
theorem dL_views_402 : decode cL_views 402 = .ok (.sipush (-7200), 3) := by decide +kernel
theorem dL_views_405 : decode cL_views 405 = .ok (.if_icmp .ne 7, 3) := by decide +kernel
theorem dL_views_408 : decode cL_views 408 = .ok (.iconst 1, 1) := by decide +kernel
theorem dL_views_409 : decode cL_views 409 = .ok (.goto 4, 3) := by decide +kernel
theorem dL_views_412 : decode cL_views 412 = .ok (.iconst 0, 1) := by decide +kernel
theorem dL_views_413 : decode cL_views 413 = .ok (.ireturn, 1) := by decide +kernel
theorem dL_views_414 : decode cL_views 414 = .ok (.aload 6, 2) := by decide +kernel
theorem dL_views_416 : decode cL_views 416 = .ok (.iconst 1, 1) := by decide +kernel
theorem dL_views_417 : decode cL_views 417 = .ok (.iaload, 1) := by decide +kernel
theorem dL_views_418 : decode cL_views 418 = .ok (.bipush 10, 2) := by decide +kernel
theorem dL_views_420 : decode cL_views 420 = .ok (.if_icmp .ne 27, 3) := by decide +kernel
theorem dL_views_423 : decode cL_views 423 = .ok (.aload_n 0, 1) := by decide +kernel
theorem dL_views_424 : decode cL_views 424 = .ok (.iload 7, 2) := by decide +kernel
theorem dL_views_426 : decode cL_views 426 = .ok (.iload 8, 2) := by decide +kernel
theorem dL_views_428 : decode cL_views 428 = .ok (.iload 9, 2) := by decide +kernel
theorem dL_views_430 : decode cL_views 430 = .ok (.iload 13, 2) := by decide +kernel
theorem dL_views_432 : decode cL_views 432 = .ok (.invokestatic 173, 3) := by decide +kernel
theorem dL_views_435 : decode cL_views 435 = .ok (.sipush (-7300), 3) := by decide +kernel
theorem dL_views_438 : decode cL_views 438 = .ok (.if_icmp .ne 7, 3) := by decide +kernel
theorem dL_views_441 : decode cL_views 441 = .ok (.iconst 1, 1) := by decide +kernel
theorem dL_views_442 : decode cL_views 442 = .ok (.goto 4, 3) := by decide +kernel
theorem dL_views_445 : decode cL_views 445 = .ok (.iconst 0, 1) := by decide +kernel
theorem dL_views_446 : decode cL_views 446 = .ok (.ireturn, 1) := by decide +kernel
theorem dL_views_447 : decode cL_views 447 = .ok (.aload 5, 2) := by decide +kernel
theorem dL_views_449 : decode cL_views 449 = .ok (.aload 6, 2) := by decide +kernel
theorem dL_views_451 : decode cL_views 451 = .ok (.iconst 1, 1) := by decide +kernel
theorem dL_views_452 : decode cL_views 452 = .ok (.iaload, 1) := by decide +kernel
theorem dL_views_453 : decode cL_views 453 = .ok (.iconst 1, 1) := by decide +kernel
theorem dL_views_454 : decode cL_views 454 = .ok (.iconst 4, 1) := by decide +kernel
theorem dL_views_455 : decode cL_views 455 = .ok (.iload 7, 2) := by decide +kernel
theorem dL_views_457 : decode cL_views 457 = .ok (.imul, 1) := by decide +kernel
theorem dL_views_458 : decode cL_views 458 = .ok (.iadd, 1) := by decide +kernel
theorem dL_views_459 : decode cL_views 459 = .ok (.sipush 1024, 3) := by decide +kernel
theorem dL_views_462 : decode cL_views 462 = .ok (.iload 8, 2) := by decide +kernel
theorem dL_views_464 : decode cL_views 464 = .ok (.imul, 1) := by decide +kernel
theorem dL_views_465 : decode cL_views 465 = .ok (.iadd, 1) := by decide +kernel
theorem dL_views_466 : decode cL_views 466 = .ok (.sipush 4096, 3) := by decide +kernel
theorem dL_views_469 : decode cL_views 469 = .ok (.iload 9, 2) := by decide +kernel
theorem dL_views_471 : decode cL_views 471 = .ok (.imul, 1) := by decide +kernel
theorem dL_views_472 : decode cL_views 472 = .ok (.iadd, 1) := by decide +kernel
theorem dL_views_473 : decode cL_views 473 = .ok (.iload 13, 2) := by decide +kernel
theorem dL_views_475 : decode cL_views 475 = .ok (.ifCond .eq 9, 3) := by decide +kernel
theorem dL_views_478 : decode cL_views 478 = .ok (.sipush 16384, 3) := by decide +kernel
theorem dL_views_481 : decode cL_views 481 = .ok (.goto 4, 3) := by decide +kernel
theorem dL_views_484 : decode cL_views 484 = .ok (.iconst 0, 1) := by decide +kernel
theorem dL_views_485 : decode cL_views 485 = .ok (.iadd, 1) := by decide +kernel
theorem dL_views_486 : decode cL_views 486 = .ok (.iload 11, 2) := by decide +kernel
theorem dL_views_488 : decode cL_views 488 = .ok (.bipush 15, 2) := by decide +kernel
theorem dL_views_490 : decode cL_views 490 = .ok (.ishl, 1) := by decide +kernel
theorem dL_views_491 : decode cL_views 491 = .ok (.iadd, 1) := by decide +kernel
theorem dL_views_492 : decode cL_views 492 = .ok (.iload 10, 2) := by decide +kernel
theorem dL_views_494 : decode cL_views 494 = .ok (.bipush 18, 2) := by decide +kernel
theorem dL_views_496 : decode cL_views 496 = .ok (.ishl, 1) := by decide +kernel
theorem dL_views_497 : decode cL_views 497 = .ok (.iadd, 1) := by decide +kernel
theorem dL_views_498 : decode cL_views 498 = .ok (.iload 12, 2) := by decide +kernel
theorem dL_views_500 : decode cL_views 500 = .ok (.bipush 21, 2) := by decide +kernel
theorem dL_views_502 : decode cL_views 502 = .ok (.ishl, 1) := by decide +kernel
theorem dL_views_503 : decode cL_views 503 = .ok (.iadd, 1) := by decide +kernel
theorem dL_views_504 : decode cL_views 504 = .ok (.iastore, 1) := by decide +kernel
theorem dL_views_505 : decode cL_views 505 = .ok (.aload 6, 2) := by decide +kernel
theorem dL_views_507 : decode cL_views 507 = .ok (.iconst 1, 1) := by decide +kernel
theorem dL_views_508 : decode cL_views 508 = .ok (.dup2, 1) := by decide +kernel
theorem dL_views_509 : decode cL_views 509 = .ok (.iaload, 1) := by decide +kernel
theorem dL_views_510 : decode cL_views 510 = .ok (.iconst 1, 1) := by decide +kernel
theorem dL_views_511 : decode cL_views 511 = .ok (.iadd, 1) := by decide +kernel
theorem dL_views_512 : decode cL_views 512 = .ok (.iastore, 1) := by decide +kernel
theorem dL_views_513 : decode cL_views 513 = .ok (.aload_n 0, 1) := by decide +kernel
theorem dL_views_514 : decode cL_views 514 = .ok (.iload 7, 2) := by decide +kernel
theorem dL_views_516 : decode cL_views 516 = .ok (.iload 8, 2) := by decide +kernel
theorem dL_views_518 : decode cL_views 518 = .ok (.iload 9, 2) := by decide +kernel
theorem dL_views_520 : decode cL_views 520 = .ok (.iload 13, 2) := by decide +kernel
theorem dL_views_522 : decode cL_views 522 = .ok (.invokestatic 173, 3) := by decide +kernel
theorem dL_views_525 : decode cL_views 525 = .ok (.aload 6, 2) := by decide +kernel
theorem dL_views_527 : decode cL_views 527 = .ok (.iconst 1, 1) := by decide +kernel
theorem dL_views_528 : decode cL_views 528 = .ok (.iaload, 1) := by decide +kernel
theorem dL_views_529 : decode cL_views 529 = .ok (.iconst 1, 1) := by decide +kernel
theorem dL_views_530 : decode cL_views 530 = .ok (.isub, 1) := by decide +kernel
theorem dL_views_531 : decode cL_views 531 = .ok (.if_icmp .ne 7, 3) := by decide +kernel
theorem dL_views_534 : decode cL_views 534 = .ok (.iconst 1, 1) := by decide +kernel
theorem dL_views_535 : decode cL_views 535 = .ok (.goto 4, 3) := by decide +kernel
theorem dL_views_538 : decode cL_views 538 = .ok (.iconst 0, 1) := by decide +kernel
theorem dL_views_539 : decode cL_views 539 = .ok (.ireturn, 1) := by decide +kernel
theorem dL_views_540 : decode cL_views 540 = .ok (.iload_n 1, 1) := by decide +kernel
theorem dL_views_541 : decode cL_views 541 = .ok (.iconst 2, 1) := by decide +kernel
theorem dL_views_542 : decode cL_views 542 = .ok (.if_icmp .ne 207, 3) := by decide +kernel
theorem dL_views_545 : decode cL_views 545 = .ok (.aload_n 0, 1) := by decide +kernel
theorem dL_views_546 : decode cL_views 546 = .ok (.aload 6, 2) := by decide +kernel
theorem dL_views_548 : decode cL_views 548 = .ok (.iconst 1, 1) := by decide +kernel
theorem dL_views_549 : decode cL_views 549 = .ok (.iaload, 1) := by decide +kernel
theorem dL_views_550 : decode cL_views 550 = .ok (.iload 8, 2) := by decide +kernel
theorem dL_views_552 : decode cL_views 552 = .ok (.iload 9, 2) := by decide +kernel
theorem dL_views_554 : decode cL_views 554 = .ok (.invokestatic 176, 3) := by decide +kernel
theorem dL_views_557 : decode cL_views 557 = .ok (.sipush (-7100), 3) := by decide +kernel
theorem dL_views_560 : decode cL_views 560 = .ok (.if_icmp .ne 34, 3) := by decide +kernel
theorem dL_views_563 : decode cL_views 563 = .ok (.aload_n 0, 1) := by decide +kernel
theorem dL_views_564 : decode cL_views 564 = .ok (.iload 7, 2) := by decide +kernel
theorem dL_views_566 : decode cL_views 566 = .ok (.iload 8, 2) := by decide +kernel
theorem dL_views_568 : decode cL_views 568 = .ok (.bipush 10, 2) := by decide +kernel
theorem dL_views_570 : decode cL_views 570 = .ok (.invokestatic 176, 3) := by decide +kernel
theorem dL_views_573 : decode cL_views 573 = .ok (.sipush (-7200), 3) := by decide +kernel
theorem dL_views_576 : decode cL_views 576 = .ok (.if_icmp .ne 18, 3) := by decide +kernel
theorem dL_views_579 : decode cL_views 579 = .ok (.aload_n 0, 1) := by decide +kernel
theorem dL_views_580 : decode cL_views 580 = .ok (.iload 7, 2) := by decide +kernel
theorem dL_views_582 : decode cL_views 582 = .ok (.iconst 3, 1) := by decide +kernel
theorem dL_views_583 : decode cL_views 583 = .ok (.iload 9, 2) := by decide +kernel
theorem dL_views_585 : decode cL_views 585 = .ok (.invokestatic 176, 3) := by decide +kernel
theorem dL_views_588 : decode cL_views 588 = .ok (.sipush (-7200), 3) := by decide +kernel
theorem dL_views_591 : decode cL_views 591 = .ok (.if_icmp .eq 5, 3) := by decide +kernel
theorem dL_views_594 : decode cL_views 594 = .ok (.iconst 0, 1) := by decide +kernel
theorem dL_views_595 : decode cL_views 595 = .ok (.ireturn, 1) := by decide +kernel
theorem dL_views_596 : decode cL_views 596 = .ok (.iload 11, 2) := by decide +kernel
theorem dL_views_598 : decode cL_views 598 = .ok (.iload 10, 2) := by decide +kernel
theorem dL_views_600 : decode cL_views 600 = .ok (.iconst (-1), 1) := by decide +kernel
theorem dL_views_601 : decode cL_views 601 = .ok (.ixor, 1) := by decide +kernel
theorem dL_views_602 : decode cL_views 602 = .ok (.iand, 1) := by decide +kernel
theorem dL_views_603 : decode cL_views 603 = .ok (.iload 8, 2) := by decide +kernel
theorem dL_views_605 : decode cL_views 605 = .ok (.ishr, 1) := by decide +kernel
theorem dL_views_606 : decode cL_views 606 = .ok (.iconst 1, 1) := by decide +kernel
theorem dL_views_607 : decode cL_views 607 = .ok (.iand, 1) := by decide +kernel
theorem dL_views_608 : decode cL_views 608 = .ok (.ifCond .ne 25, 3) := by decide +kernel
theorem dL_views_611 : decode cL_views 611 = .ok (.aload_n 0, 1) := by decide +kernel
theorem dL_views_612 : decode cL_views 612 = .ok (.iload 7, 2) := by decide +kernel
theorem dL_views_614 : decode cL_views 614 = .ok (.iload 8, 2) := by decide +kernel
theorem dL_views_616 : decode cL_views 616 = .ok (.iload 9, 2) := by decide +kernel
theorem dL_views_618 : decode cL_views 618 = .ok (.invokestatic 176, 3) := by decide +kernel
theorem dL_views_621 : decode cL_views 621 = .ok (.sipush (-7200), 3) := by decide +kernel
theorem dL_views_624 : decode cL_views 624 = .ok (.if_icmp .ne 7, 3) := by decide +kernel
theorem dL_views_627 : decode cL_views 627 = .ok (.iconst 1, 1) := by decide +kernel
theorem dL_views_628 : decode cL_views 628 = .ok (.goto 4, 3) := by decide +kernel
theorem dL_views_631 : decode cL_views 631 = .ok (.iconst 0, 1) := by decide +kernel
theorem dL_views_632 : decode cL_views 632 = .ok (.ireturn, 1) := by decide +kernel
theorem dL_views_633 : decode cL_views 633 = .ok (.aload 6, 2) := by decide +kernel
theorem dL_views_635 : decode cL_views 635 = .ok (.iconst 1, 1) := by decide +kernel
theorem dL_views_636 : decode cL_views 636 = .ok (.iaload, 1) := by decide +kernel
theorem dL_views_637 : decode cL_views 637 = .ok (.bipush 10, 2) := by decide +kernel
theorem dL_views_639 : decode cL_views 639 = .ok (.if_icmp .ne 25, 3) := by decide +kernel
theorem dL_views_642 : decode cL_views 642 = .ok (.aload_n 0, 1) := by decide +kernel
theorem dL_views_643 : decode cL_views 643 = .ok (.iload 7, 2) := by decide +kernel
theorem dL_views_645 : decode cL_views 645 = .ok (.iload 8, 2) := by decide +kernel
theorem dL_views_647 : decode cL_views 647 = .ok (.iload 9, 2) := by decide +kernel
theorem dL_views_649 : decode cL_views 649 = .ok (.invokestatic 176, 3) := by decide +kernel
theorem dL_views_652 : decode cL_views 652 = .ok (.sipush (-7300), 3) := by decide +kernel
theorem dL_views_655 : decode cL_views 655 = .ok (.if_icmp .ne 7, 3) := by decide +kernel
theorem dL_views_658 : decode cL_views 658 = .ok (.iconst 1, 1) := by decide +kernel
theorem dL_views_659 : decode cL_views 659 = .ok (.goto 4, 3) := by decide +kernel
theorem dL_views_662 : decode cL_views 662 = .ok (.iconst 0, 1) := by decide +kernel
theorem dL_views_663 : decode cL_views 663 = .ok (.ireturn, 1) := by decide +kernel
theorem dL_views_664 : decode cL_views 664 = .ok (.aload 5, 2) := by decide +kernel
theorem dL_views_666 : decode cL_views 666 = .ok (.aload 6, 2) := by decide +kernel
theorem dL_views_668 : decode cL_views 668 = .ok (.iconst 1, 1) := by decide +kernel
theorem dL_views_669 : decode cL_views 669 = .ok (.iaload, 1) := by decide +kernel
theorem dL_views_670 : decode cL_views 670 = .ok (.iconst 2, 1) := by decide +kernel
theorem dL_views_671 : decode cL_views 671 = .ok (.iconst 4, 1) := by decide +kernel
theorem dL_views_672 : decode cL_views 672 = .ok (.iload 7, 2) := by decide +kernel
theorem dL_views_674 : decode cL_views 674 = .ok (.imul, 1) := by decide +kernel
theorem dL_views_675 : decode cL_views 675 = .ok (.iadd, 1) := by decide +kernel
theorem dL_views_676 : decode cL_views 676 = .ok (.sipush 1024, 3) := by decide +kernel
theorem dL_views_679 : decode cL_views 679 = .ok (.iload 8, 2) := by decide +kernel
theorem dL_views_681 : decode cL_views 681 = .ok (.imul, 1) := by decide +kernel
theorem dL_views_682 : decode cL_views 682 = .ok (.iadd, 1) := by decide +kernel
theorem dL_views_683 : decode cL_views 683 = .ok (.sipush 4096, 3) := by decide +kernel
theorem dL_views_686 : decode cL_views 686 = .ok (.iload 9, 2) := by decide +kernel
theorem dL_views_688 : decode cL_views 688 = .ok (.imul, 1) := by decide +kernel
theorem dL_views_689 : decode cL_views 689 = .ok (.iadd, 1) := by decide +kernel
theorem dL_views_690 : decode cL_views 690 = .ok (.iload 11, 2) := by decide +kernel
theorem dL_views_692 : decode cL_views 692 = .ok (.iconst 1, 1) := by decide +kernel
theorem dL_views_693 : decode cL_views 693 = .ok (.iload 8, 2) := by decide +kernel
theorem dL_views_695 : decode cL_views 695 = .ok (.ishl, 1) := by decide +kernel
theorem dL_views_696 : decode cL_views 696 = .ok (.iconst (-1), 1) := by decide +kernel
theorem dL_views_697 : decode cL_views 697 = .ok (.ixor, 1) := by decide +kernel
theorem dL_views_698 : decode cL_views 698 = .ok (.iand, 1) := by decide +kernel
theorem dL_views_699 : decode cL_views 699 = .ok (.bipush 15, 2) := by decide +kernel
theorem dL_views_701 : decode cL_views 701 = .ok (.ishl, 1) := by decide +kernel
theorem dL_views_702 : decode cL_views 702 = .ok (.iadd, 1) := by decide +kernel
theorem dL_views_703 : decode cL_views 703 = .ok (.iload 10, 2) := by decide +kernel
theorem dL_views_705 : decode cL_views 705 = .ok (.bipush 18, 2) := by decide +kernel
theorem dL_views_707 : decode cL_views 707 = .ok (.ishl, 1) := by decide +kernel
theorem dL_views_708 : decode cL_views 708 = .ok (.iadd, 1) := by decide +kernel
theorem dL_views_709 : decode cL_views 709 = .ok (.iload 12, 2) := by decide +kernel
theorem dL_views_711 : decode cL_views 711 = .ok (.bipush 21, 2) := by decide +kernel
theorem dL_views_713 : decode cL_views 713 = .ok (.ishl, 1) := by decide +kernel
theorem dL_views_714 : decode cL_views 714 = .ok (.iadd, 1) := by decide +kernel
theorem dL_views_715 : decode cL_views 715 = .ok (.iastore, 1) := by decide +kernel
theorem dL_views_716 : decode cL_views 716 = .ok (.aload 6, 2) := by decide +kernel
theorem dL_views_718 : decode cL_views 718 = .ok (.iconst 1, 1) := by decide +kernel
theorem dL_views_719 : decode cL_views 719 = .ok (.dup2, 1) := by decide +kernel
theorem dL_views_720 : decode cL_views 720 = .ok (.iaload, 1) := by decide +kernel
theorem dL_views_721 : decode cL_views 721 = .ok (.iconst 1, 1) := by decide +kernel
theorem dL_views_722 : decode cL_views 722 = .ok (.iadd, 1) := by decide +kernel
theorem dL_views_723 : decode cL_views 723 = .ok (.iastore, 1) := by decide +kernel
theorem dL_views_724 : decode cL_views 724 = .ok (.aload_n 0, 1) := by decide +kernel
theorem dL_views_725 : decode cL_views 725 = .ok (.iload 7, 2) := by decide +kernel
theorem dL_views_727 : decode cL_views 727 = .ok (.iload 8, 2) := by decide +kernel
theorem dL_views_729 : decode cL_views 729 = .ok (.iload 9, 2) := by decide +kernel
theorem dL_views_731 : decode cL_views 731 = .ok (.invokestatic 176, 3) := by decide +kernel
theorem dL_views_734 : decode cL_views 734 = .ok (.aload 6, 2) := by decide +kernel
theorem dL_views_736 : decode cL_views 736 = .ok (.iconst 1, 1) := by decide +kernel
theorem dL_views_737 : decode cL_views 737 = .ok (.iaload, 1) := by decide +kernel
theorem dL_views_738 : decode cL_views 738 = .ok (.iconst 1, 1) := by decide +kernel
theorem dL_views_739 : decode cL_views 739 = .ok (.isub, 1) := by decide +kernel
theorem dL_views_740 : decode cL_views 740 = .ok (.if_icmp .ne 7, 3) := by decide +kernel
theorem dL_views_743 : decode cL_views 743 = .ok (.iconst 1, 1) := by decide +kernel
theorem dL_views_744 : decode cL_views 744 = .ok (.goto 4, 3) := by decide +kernel
theorem dL_views_747 : decode cL_views 747 = .ok (.iconst 0, 1) := by decide +kernel
theorem dL_views_748 : decode cL_views 748 = .ok (.ireturn, 1) := by decide +kernel
theorem dL_views_749 : decode cL_views 749 = .ok (.iload_n 3, 1) := by decide +kernel
theorem dL_views_750 : decode cL_views 750 = .ok (.aload 6, 2) := by decide +kernel
theorem dL_views_752 : decode cL_views 752 = .ok (.iconst 1, 1) := by decide +kernel
theorem dL_views_753 : decode cL_views 753 = .ok (.iaload, 1) := by decide +kernel
theorem dL_views_754 : decode cL_views 754 = .ok (.invokestatic 180, 3) := by decide +kernel
theorem dL_views_757 : decode cL_views 757 = .ok (.istore 13, 2) := by decide +kernel
theorem dL_views_759 : decode cL_views 759 = .ok (.iconst 0, 1) := by decide +kernel
theorem dL_views_760 : decode cL_views 760 = .ok (.istore 14, 2) := by decide +kernel
theorem dL_views_762 : decode cL_views 762 = .ok (.iload 14, 2) := by decide +kernel
theorem dL_views_764 : decode cL_views 764 = .ok (.aload 6, 2) := by decide +kernel
theorem dL_views_766 : decode cL_views 766 = .ok (.iconst 1, 1) := by decide +kernel
theorem dL_views_767 : decode cL_views 767 = .ok (.iaload, 1) := by decide +kernel
theorem dL_views_768 : decode cL_views 768 = .ok (.if_icmp .ge 49, 3) := by decide +kernel
theorem dL_views_771 : decode cL_views 771 = .ok (.aload 5, 2) := by decide +kernel
theorem dL_views_773 : decode cL_views 773 = .ok (.iload 13, 2) := by decide +kernel
theorem dL_views_775 : decode cL_views 775 = .ok (.iaload, 1) := by decide +kernel
theorem dL_views_776 : decode cL_views 776 = .ok (.bipush 21, 2) := by decide +kernel
theorem dL_views_778 : decode cL_views 778 = .ok (.ishr, 1) := by decide +kernel
theorem dL_views_779 : decode cL_views 779 = .ok (.iload 12, 2) := by decide +kernel
theorem dL_views_781 : decode cL_views 781 = .ok (.iand, 1) := by decide +kernel
theorem dL_views_782 : decode cL_views 782 = .ok (.ifCond .ne 18, 3) := by decide +kernel
theorem dL_views_785 : decode cL_views 785 = .ok (.aload 5, 2) := by decide +kernel
theorem dL_views_787 : decode cL_views 787 = .ok (.iload 13, 2) := by decide +kernel
theorem dL_views_789 : decode cL_views 789 = .ok (.invokestatic 114, 3) := by decide +kernel
theorem dL_views_792 : decode cL_views 792 = .ok (.iload 11, 2) := by decide +kernel
theorem dL_views_794 : decode cL_views 794 = .ok (.iconst (-1), 1) := by decide +kernel
theorem dL_views_795 : decode cL_views 795 = .ok (.ixor, 1) := by decide +kernel
theorem dL_views_796 : decode cL_views 796 = .ok (.iand, 1) := by decide +kernel
theorem dL_views_797 : decode cL_views 797 = .ok (.ifCond .eq 20, 3) := by decide +kernel
theorem dL_views_800 : decode cL_views 800 = .ok (.iload 13, 2) := by decide +kernel
theorem dL_views_802 : decode cL_views 802 = .ok (.iconst 1, 1) := by decide +kernel
theorem dL_views_803 : decode cL_views 803 = .ok (.iadd, 1) := by decide +kernel
theorem dL_views_804 : decode cL_views 804 = .ok (.aload 6, 2) := by decide +kernel
theorem dL_views_806 : decode cL_views 806 = .ok (.iconst 1, 1) := by decide +kernel
theorem dL_views_807 : decode cL_views 807 = .ok (.iaload, 1) := by decide +kernel
theorem dL_views_808 : decode cL_views 808 = .ok (.irem, 1) := by decide +kernel
theorem dL_views_809 : decode cL_views 809 = .ok (.istore 13, 2) := by decide +kernel
theorem dL_views_811 : decode cL_views 811 = .ok (.iinc 14 1, 3) := by decide +kernel
theorem dL_views_814 : decode cL_views 814 = .ok (.goto (-52), 3) := by decide +kernel
theorem dL_views_817 : decode cL_views 817 = .ok (.aload_n 0, 1) := by decide +kernel
theorem dL_views_818 : decode cL_views 818 = .ok (.iload 7, 2) := by decide +kernel
theorem dL_views_820 : decode cL_views 820 = .ok (.aload 6, 2) := by decide +kernel
theorem dL_views_822 : decode cL_views 822 = .ok (.iconst 1, 1) := by decide +kernel
theorem dL_views_823 : decode cL_views 823 = .ok (.iaload, 1) := by decide +kernel
theorem dL_views_824 : decode cL_views 824 = .ok (.invokestatic 178, 3) := by decide +kernel
theorem dL_views_827 : decode cL_views 827 = .ok (.sipush (-7100), 3) := by decide +kernel
theorem dL_views_830 : decode cL_views 830 = .ok (.if_icmp .ne 30, 3) := by decide +kernel
theorem dL_views_833 : decode cL_views 833 = .ok (.aload_n 0, 1) := by decide +kernel
theorem dL_views_834 : decode cL_views 834 = .ok (.iconst (-1), 1) := by decide +kernel
theorem dL_views_835 : decode cL_views 835 = .ok (.iload 7, 2) := by decide +kernel
theorem dL_views_837 : decode cL_views 837 = .ok (.invokestatic 178, 3) := by decide +kernel
theorem dL_views_840 : decode cL_views 840 = .ok (.sipush (-7100), 3) := by decide +kernel
theorem dL_views_843 : decode cL_views 843 = .ok (.if_icmp .ne 17, 3) := by decide +kernel
theorem dL_views_846 : decode cL_views 846 = .ok (.aload_n 0, 1) := by decide +kernel
theorem dL_views_847 : decode cL_views 847 = .ok (.iload 7, 2) := by decide +kernel
theorem dL_views_849 : decode cL_views 849 = .ok (.iload 7, 2) := by decide +kernel
theorem dL_views_851 : decode cL_views 851 = .ok (.invokestatic 178, 3) := by decide +kernel
theorem dL_views_854 : decode cL_views 854 = .ok (.sipush (-7200), 3) := by decide +kernel
theorem dL_views_857 : decode cL_views 857 = .ok (.if_icmp .eq 5, 3) := by decide +kernel
theorem dL_views_860 : decode cL_views 860 = .ok (.iconst 0, 1) := by decide +kernel
theorem dL_views_861 : decode cL_views 861 = .ok (.ireturn, 1) := by decide +kernel
theorem dL_views_862 : decode cL_views 862 = .ok (.aload 5, 2) := by decide +kernel
theorem dL_views_864 : decode cL_views 864 = .ok (.iload 13, 2) := by decide +kernel
theorem dL_views_866 : decode cL_views 866 = .ok (.iaload, 1) := by decide +kernel
theorem dL_views_867 : decode cL_views 867 = .ok (.bipush 21, 2) := by decide +kernel
theorem dL_views_869 : decode cL_views 869 = .ok (.ishr, 1) := by decide +kernel
theorem dL_views_870 : decode cL_views 870 = .ok (.iload 12, 2) := by decide +kernel
theorem dL_views_872 : decode cL_views 872 = .ok (.iand, 1) := by decide +kernel
theorem dL_views_873 : decode cL_views 873 = .ok (.ifCond .ne 18, 3) := by decide +kernel
theorem dL_views_876 : decode cL_views 876 = .ok (.aload 5, 2) := by decide +kernel
theorem dL_views_878 : decode cL_views 878 = .ok (.iload 13, 2) := by decide +kernel
theorem dL_views_880 : decode cL_views 880 = .ok (.invokestatic 114, 3) := by decide +kernel
theorem dL_views_883 : decode cL_views 883 = .ok (.iload 11, 2) := by decide +kernel
theorem dL_views_885 : decode cL_views 885 = .ok (.iconst (-1), 1) := by decide +kernel
theorem dL_views_886 : decode cL_views 886 = .ok (.ixor, 1) := by decide +kernel
theorem dL_views_887 : decode cL_views 887 = .ok (.iand, 1) := by decide +kernel
theorem dL_views_888 : decode cL_views 888 = .ok (.ifCond .eq 23, 3) := by decide +kernel
theorem dL_views_891 : decode cL_views 891 = .ok (.aload_n 0, 1) := by decide +kernel
theorem dL_views_892 : decode cL_views 892 = .ok (.iload 7, 2) := by decide +kernel
theorem dL_views_894 : decode cL_views 894 = .ok (.iload 13, 2) := by decide +kernel
theorem dL_views_896 : decode cL_views 896 = .ok (.invokestatic 178, 3) := by decide +kernel
theorem dL_views_899 : decode cL_views 899 = .ok (.sipush (-7200), 3) := by decide +kernel
theorem dL_views_902 : decode cL_views 902 = .ok (.if_icmp .ne 7, 3) := by decide +kernel
theorem dL_views_905 : decode cL_views 905 = .ok (.iconst 1, 1) := by decide +kernel
theorem dL_views_906 : decode cL_views 906 = .ok (.goto 4, 3) := by decide +kernel
theorem dL_views_909 : decode cL_views 909 = .ok (.iconst 0, 1) := by decide +kernel
theorem dL_views_910 : decode cL_views 910 = .ok (.ireturn, 1) := by decide +kernel
theorem dL_views_911 : decode cL_views 911 = .ok (.aload 6, 2) := by decide +kernel
theorem dL_views_913 : decode cL_views 913 = .ok (.iconst 1, 1) := by decide +kernel
theorem dL_views_914 : decode cL_views 914 = .ok (.iaload, 1) := by decide +kernel
theorem dL_views_915 : decode cL_views 915 = .ok (.bipush 10, 2) := by decide +kernel
theorem dL_views_917 : decode cL_views 917 = .ok (.if_icmp .ne 23, 3) := by decide +kernel
theorem dL_views_920 : decode cL_views 920 = .ok (.aload_n 0, 1) := by decide +kernel
theorem dL_views_921 : decode cL_views 921 = .ok (.iload 7, 2) := by decide +kernel
theorem dL_views_923 : decode cL_views 923 = .ok (.iload 13, 2) := by decide +kernel
theorem dL_views_925 : decode cL_views 925 = .ok (.invokestatic 178, 3) := by decide +kernel
theorem dL_views_928 : decode cL_views 928 = .ok (.sipush (-7300), 3) := by decide +kernel
theorem dL_views_931 : decode cL_views 931 = .ok (.if_icmp .ne 7, 3) := by decide +kernel
theorem dL_views_934 : decode cL_views 934 = .ok (.iconst 1, 1) := by decide +kernel
theorem dL_views_935 : decode cL_views 935 = .ok (.goto 4, 3) := by decide +kernel
theorem dL_views_938 : decode cL_views 938 = .ok (.iconst 0, 1) := by decide +kernel
theorem dL_views_939 : decode cL_views 939 = .ok (.ireturn, 1) := by decide +kernel
theorem dL_views_940 : decode cL_views 940 = .ok (.aload 5, 2) := by decide +kernel
theorem dL_views_942 : decode cL_views 942 = .ok (.aload 6, 2) := by decide +kernel
theorem dL_views_944 : decode cL_views 944 = .ok (.iconst 1, 1) := by decide +kernel
theorem dL_views_945 : decode cL_views 945 = .ok (.iaload, 1) := by decide +kernel
theorem dL_views_946 : decode cL_views 946 = .ok (.iconst 3, 1) := by decide +kernel
theorem dL_views_947 : decode cL_views 947 = .ok (.iconst 4, 1) := by decide +kernel
theorem dL_views_948 : decode cL_views 948 = .ok (.iload 7, 2) := by decide +kernel
theorem dL_views_950 : decode cL_views 950 = .ok (.imul, 1) := by decide +kernel
theorem dL_views_951 : decode cL_views 951 = .ok (.iadd, 1) := by decide +kernel
theorem dL_views_952 : decode cL_views 952 = .ok (.bipush 64, 2) := by decide +kernel
theorem dL_views_954 : decode cL_views 954 = .ok (.iload 13, 2) := by decide +kernel
theorem dL_views_956 : decode cL_views 956 = .ok (.imul, 1) := by decide +kernel
theorem dL_views_957 : decode cL_views 957 = .ok (.iadd, 1) := by decide +kernel
theorem dL_views_958 : decode cL_views 958 = .ok (.iload 11, 2) := by decide +kernel
theorem dL_views_960 : decode cL_views 960 = .ok (.aload 5, 2) := by decide +kernel
theorem dL_views_962 : decode cL_views 962 = .ok (.iload 13, 2) := by decide +kernel
theorem dL_views_964 : decode cL_views 964 = .ok (.invokestatic 107, 3) := by decide +kernel
theorem dL_views_967 : decode cL_views 967 = .ok (.ior, 1) := by decide +kernel
theorem dL_views_968 : decode cL_views 968 = .ok (.bipush 15, 2) := by decide +kernel
theorem dL_views_970 : decode cL_views 970 = .ok (.ishl, 1) := by decide +kernel
theorem dL_views_971 : decode cL_views 971 = .ok (.iadd, 1) := by decide +kernel
theorem dL_views_972 : decode cL_views 972 = .ok (.iload 10, 2) := by decide +kernel
theorem dL_views_974 : decode cL_views 974 = .ok (.bipush 18, 2) := by decide +kernel
theorem dL_views_976 : decode cL_views 976 = .ok (.ishl, 1) := by decide +kernel
theorem dL_views_977 : decode cL_views 977 = .ok (.iadd, 1) := by decide +kernel
theorem dL_views_978 : decode cL_views 978 = .ok (.iload 12, 2) := by decide +kernel
theorem dL_views_980 : decode cL_views 980 = .ok (.aload 5, 2) := by decide +kernel
theorem dL_views_982 : decode cL_views 982 = .ok (.iload 13, 2) := by decide +kernel
theorem dL_views_984 : decode cL_views 984 = .ok (.iaload, 1) := by decide +kernel
theorem dL_views_985 : decode cL_views 985 = .ok (.bipush 21, 2) := by decide +kernel
theorem dL_views_987 : decode cL_views 987 = .ok (.ishr, 1) := by decide +kernel
theorem dL_views_988 : decode cL_views 988 = .ok (.bipush 7, 2) := by decide +kernel
theorem dL_views_990 : decode cL_views 990 = .ok (.iand, 1) := by decide +kernel
theorem dL_views_991 : decode cL_views 991 = .ok (.ior, 1) := by decide +kernel
theorem dL_views_992 : decode cL_views 992 = .ok (.bipush 21, 2) := by decide +kernel
theorem dL_views_994 : decode cL_views 994 = .ok (.ishl, 1) := by decide +kernel
theorem dL_views_995 : decode cL_views 995 = .ok (.iadd, 1) := by decide +kernel
theorem dL_views_996 : decode cL_views 996 = .ok (.iastore, 1) := by decide +kernel
theorem dL_views_997 : decode cL_views 997 = .ok (.aload 6, 2) := by decide +kernel
theorem dL_views_999 : decode cL_views 999 = .ok (.iconst 1, 1) := by decide +kernel
theorem dL_views_1000 : decode cL_views 1000 = .ok (.dup2, 1) := by decide +kernel
theorem dL_views_1001 : decode cL_views 1001 = .ok (.iaload, 1) := by decide +kernel
theorem dL_views_1002 : decode cL_views 1002 = .ok (.iconst 1, 1) := by decide +kernel
theorem dL_views_1003 : decode cL_views 1003 = .ok (.iadd, 1) := by decide +kernel
theorem dL_views_1004 : decode cL_views 1004 = .ok (.iastore, 1) := by decide +kernel
theorem dL_views_1005 : decode cL_views 1005 = .ok (.aload_n 0, 1) := by decide +kernel
theorem dL_views_1006 : decode cL_views 1006 = .ok (.iload 7, 2) := by decide +kernel
theorem dL_views_1008 : decode cL_views 1008 = .ok (.iload 13, 2) := by decide +kernel
theorem dL_views_1010 : decode cL_views 1010 = .ok (.invokestatic 178, 3) := by decide +kernel
theorem dL_views_1013 : decode cL_views 1013 = .ok (.aload 6, 2) := by decide +kernel
theorem dL_views_1015 : decode cL_views 1015 = .ok (.iconst 1, 1) := by decide +kernel
theorem dL_views_1016 : decode cL_views 1016 = .ok (.iaload, 1) := by decide +kernel
theorem dL_views_1017 : decode cL_views 1017 = .ok (.iconst 1, 1) := by decide +kernel
theorem dL_views_1018 : decode cL_views 1018 = .ok (.isub, 1) := by decide +kernel
theorem dL_views_1019 : decode cL_views 1019 = .ok (.if_icmp .ne 7, 3) := by decide +kernel
theorem dL_views_1022 : decode cL_views 1022 = .ok (.iconst 1, 1) := by decide +kernel
theorem dL_views_1023 : decode cL_views 1023 = .ok (.goto 4, 3) := by decide +kernel
theorem dL_views_1026 : decode cL_views 1026 = .ok (.iconst 0, 1) := by decide +kernel
theorem dL_views_1027 : decode cL_views 1027 = .ok (.ireturn, 1) := by decide +kernel
theorem dL_tables_0 : decode cL_tables 0 = .ok (.iload_n 1, 1) := by decide +kernel
theorem dL_tables_1 : decode cL_tables 1 = .ok (.ifCond .ne 227, 3) := by decide +kernel
theorem dL_tables_4 : decode cL_tables 4 = .ok (.iconst 1, 1) := by decide +kernel
theorem dL_tables_5 : decode cL_tables 5 = .ok (.iload_n 2, 1) := by decide +kernel
theorem dL_tables_6 : decode cL_tables 6 = .ok (.bipush 7, 2) := by decide +kernel
theorem dL_tables_8 : decode cL_tables 8 = .ok (.invokestatic 180, 3) := by decide +kernel
theorem dL_tables_11 : decode cL_tables 11 = .ok (.iadd, 1) := by decide +kernel
theorem dL_tables_12 : decode cL_tables 12 = .ok (.istore 6, 2) := by decide +kernel
theorem dL_tables_14 : decode cL_tables 14 = .ok (.iconst 1, 1) := by decide +kernel
theorem dL_tables_15 : decode cL_tables 15 = .ok (.iload_n 3, 1) := by decide +kernel
theorem dL_tables_16 : decode cL_tables 16 = .ok (.iconst 3, 1) := by decide +kernel
theorem dL_tables_17 : decode cL_tables 17 = .ok (.invokestatic 180, 3) := by decide +kernel
theorem dL_tables_20 : decode cL_tables 20 = .ok (.ishl, 1) := by decide +kernel
theorem dL_tables_21 : decode cL_tables 21 = .ok (.iload 6, 2) := by decide +kernel
theorem dL_tables_23 : decode cL_tables 23 = .ok (.iand, 1) := by decide +kernel
theorem dL_tables_24 : decode cL_tables 24 = .ok (.istore 7, 2) := by decide +kernel
theorem dL_tables_26 : decode cL_tables 26 = .ok (.iload_n 3, 1) := by decide +kernel
theorem dL_tables_27 : decode cL_tables 27 = .ok (.bipush 48, 2) := by decide +kernel
theorem dL_tables_29 : decode cL_tables 29 = .ok (.iand, 1) := by decide +kernel
theorem dL_tables_30 : decode cL_tables 30 = .ok (.ifCond .ne 19, 3) := by decide +kernel
theorem dL_tables_33 : decode cL_tables 33 = .ok (.iload 6, 2) := by decide +kernel
theorem dL_tables_35 : decode cL_tables 35 = .ok (.iconst 1, 1) := by decide +kernel
theorem dL_tables_36 : decode cL_tables 36 = .ok (.iload_n 3, 1) := by decide +kernel
theorem dL_tables_37 : decode cL_tables 37 = .ok (.bipush 6, 2) := by decide +kernel
theorem dL_tables_39 : decode cL_tables 39 = .ok (.ishr, 1) := by decide +kernel
theorem dL_tables_40 : decode cL_tables 40 = .ok (.bipush 7, 2) := by decide +kernel
theorem dL_tables_42 : decode cL_tables 42 = .ok (.invokestatic 180, 3) := by decide +kernel
theorem dL_tables_45 : decode cL_tables 45 = .ok (.iadd, 1) := by decide +kernel
theorem dL_tables_46 : decode cL_tables 46 = .ok (.iand, 1) := by decide +kernel
theorem dL_tables_47 : decode cL_tables 47 = .ok (.istore 7, 2) := by decide +kernel
theorem dL_tables_49 : decode cL_tables 49 = .ok (.aload_n 0, 1) := by decide +kernel
theorem dL_tables_50 : decode cL_tables 50 = .ok (.iconst 0, 1) := by decide +kernel
theorem dL_tables_51 : decode cL_tables 51 = .ok (.iconst 0, 1) := by decide +kernel
theorem dL_tables_52 : decode cL_tables 52 = .ok (.invokestatic 185, 3) := by decide +kernel
theorem dL_tables_55 : decode cL_tables 55 = .ok (.sipush (-7200), 3) := by decide +kernel
theorem dL_tables_58 : decode cL_tables 58 = .ok (.if_icmp .ne 59, 3) := by decide +kernel
theorem dL_tables_61 : decode cL_tables 61 = .ok (.aload_n 0, 1) := by decide +kernel
theorem dL_tables_62 : decode cL_tables 62 = .ok (.bipush 64, 2) := by decide +kernel
theorem dL_tables_64 : decode cL_tables 64 = .ok (.iconst 1, 1) := by decide +kernel
theorem dL_tables_65 : decode cL_tables 65 = .ok (.invokestatic 185, 3) := by decide +kernel
theorem dL_tables_68 : decode cL_tables 68 = .ok (.sipush (-7200), 3) := by decide +kernel
theorem dL_tables_71 : decode cL_tables 71 = .ok (.if_icmp .ne 46, 3) := by decide +kernel
theorem dL_tables_74 : decode cL_tables 74 = .ok (.aload_n 0, 1) := by decide +kernel
theorem dL_tables_75 : decode cL_tables 75 = .ok (.iload 6, 2) := by decide +kernel
theorem dL_tables_77 : decode cL_tables 77 = .ok (.iconst 0, 1) := by decide +kernel
theorem dL_tables_78 : decode cL_tables 78 = .ok (.invokestatic 185, 3) := by decide +kernel
theorem dL_tables_81 : decode cL_tables 81 = .ok (.sipush (-7200), 3) := by decide +kernel
theorem dL_tables_84 : decode cL_tables 84 = .ok (.if_icmp .ne 33, 3) := by decide +kernel
theorem dL_tables_87 : decode cL_tables 87 = .ok (.aload_n 0, 1) := by decide +kernel
theorem dL_tables_88 : decode cL_tables 88 = .ok (.iload 6, 2) := by decide +kernel
theorem dL_tables_90 : decode cL_tables 90 = .ok (.iload 6, 2) := by decide +kernel
theorem dL_tables_92 : decode cL_tables 92 = .ok (.bipush 8, 2) := by decide +kernel
theorem dL_tables_94 : decode cL_tables 94 = .ok (.iadd, 1) := by decide +kernel
theorem dL_tables_95 : decode cL_tables 95 = .ok (.invokestatic 185, 3) := by decide +kernel
theorem dL_tables_98 : decode cL_tables 98 = .ok (.sipush (-7200), 3) := by decide +kernel
theorem dL_tables_101 : decode cL_tables 101 = .ok (.if_icmp .ne 16, 3) := by decide +kernel
theorem dL_tables_104 : decode cL_tables 104 = .ok (.aload_n 0, 1) := by decide +kernel
theorem dL_tables_105 : decode cL_tables 105 = .ok (.iload 6, 2) := by decide +kernel
theorem dL_tables_107 : decode cL_tables 107 = .ok (.iconst (-1), 1) := by decide +kernel
theorem dL_tables_108 : decode cL_tables 108 = .ok (.invokestatic 185, 3) := by decide +kernel
theorem dL_tables_111 : decode cL_tables 111 = .ok (.sipush (-7200), 3) := by decide +kernel
theorem dL_tables_114 : decode cL_tables 114 = .ok (.if_icmp .eq 5, 3) := by decide +kernel
theorem dL_tables_117 : decode cL_tables 117 = .ok (.iconst 0, 1) := by decide +kernel
theorem dL_tables_118 : decode cL_tables 118 = .ok (.ireturn, 1) := by decide +kernel
theorem dL_tables_119 : decode cL_tables 119 = .ok (.iload 7, 2) := by decide +kernel
theorem dL_tables_121 : decode cL_tables 121 = .ok (.ifCond .ne 23, 3) := by decide +kernel
theorem dL_tables_124 : decode cL_tables 124 = .ok (.aload_n 0, 1) := by decide +kernel
theorem dL_tables_125 : decode cL_tables 125 = .ok (.iload 6, 2) := by decide +kernel
theorem dL_tables_127 : decode cL_tables 127 = .ok (.iload 7, 2) := by decide +kernel
theorem dL_tables_129 : decode cL_tables 129 = .ok (.invokestatic 185, 3) := by decide +kernel
theorem dL_tables_132 : decode cL_tables 132 = .ok (.sipush (-7200), 3) := by decide +kernel
theorem dL_tables_135 : decode cL_tables 135 = .ok (.if_icmp .ne 7, 3) := by decide +kernel
theorem dL_tables_138 : decode cL_tables 138 = .ok (.iconst 1, 1) := by decide +kernel
theorem dL_tables_139 : decode cL_tables 139 = .ok (.goto 4, 3) := by decide +kernel
theorem dL_tables_142 : decode cL_tables 142 = .ok (.iconst 0, 1) := by decide +kernel
theorem dL_tables_143 : decode cL_tables 143 = .ok (.ireturn, 1) := by decide +kernel
theorem dL_tables_144 : decode cL_tables 144 = .ok (.aload 5, 2) := by decide +kernel
theorem dL_tables_146 : decode cL_tables 146 = .ok (.iconst 0, 1) := by decide +kernel
theorem dL_tables_147 : decode cL_tables 147 = .ok (.iaload, 1) := by decide +kernel
theorem dL_tables_148 : decode cL_tables 148 = .ok (.iconst 3, 1) := by decide +kernel
theorem dL_tables_149 : decode cL_tables 149 = .ok (.if_icmp .ne 23, 3) := by decide +kernel
theorem dL_tables_152 : decode cL_tables 152 = .ok (.aload_n 0, 1) := by decide +kernel
theorem dL_tables_153 : decode cL_tables 153 = .ok (.iload 6, 2) := by decide +kernel
theorem dL_tables_155 : decode cL_tables 155 = .ok (.iload 7, 2) := by decide +kernel
theorem dL_tables_157 : decode cL_tables 157 = .ok (.invokestatic 185, 3) := by decide +kernel
theorem dL_tables_160 : decode cL_tables 160 = .ok (.sipush (-7300), 3) := by decide +kernel
theorem dL_tables_163 : decode cL_tables 163 = .ok (.if_icmp .ne 7, 3) := by decide +kernel
theorem dL_tables_166 : decode cL_tables 166 = .ok (.iconst 1, 1) := by decide +kernel
theorem dL_tables_167 : decode cL_tables 167 = .ok (.goto 4, 3) := by decide +kernel
theorem dL_tables_170 : decode cL_tables 170 = .ok (.iconst 0, 1) := by decide +kernel
theorem dL_tables_171 : decode cL_tables 171 = .ok (.ireturn, 1) := by decide +kernel
theorem dL_tables_172 : decode cL_tables 172 = .ok (.aload 4, 2) := by decide +kernel
theorem dL_tables_174 : decode cL_tables 174 = .ok (.aload 5, 2) := by decide +kernel
theorem dL_tables_176 : decode cL_tables 176 = .ok (.iconst 0, 1) := by decide +kernel
theorem dL_tables_177 : decode cL_tables 177 = .ok (.iaload, 1) := by decide +kernel
theorem dL_tables_178 : decode cL_tables 178 = .ok (.iload 6, 2) := by decide +kernel
theorem dL_tables_180 : decode cL_tables 180 = .ok (.bipush 8, 2) := by decide +kernel
theorem dL_tables_182 : decode cL_tables 182 = .ok (.iload 7, 2) := by decide +kernel
theorem dL_tables_184 : decode cL_tables 184 = .ok (.imul, 1) := by decide +kernel
theorem dL_tables_185 : decode cL_tables 185 = .ok (.iadd, 1) := by decide +kernel
theorem dL_tables_186 : decode cL_tables 186 = .ok (.iastore, 1) := by decide +kernel
theorem dL_tables_187 : decode cL_tables 187 = .ok (.aload 4, 2) := by decide +kernel
theorem dL_tables_189 : decode cL_tables 189 = .ok (.iconst 3, 1) := by decide +kernel
theorem dL_tables_190 : decode cL_tables 190 = .ok (.aload 5, 2) := by decide +kernel
theorem dL_tables_192 : decode cL_tables 192 = .ok (.iconst 0, 1) := by decide +kernel
theorem dL_tables_193 : decode cL_tables 193 = .ok (.iaload, 1) := by decide +kernel
theorem dL_tables_194 : decode cL_tables 194 = .ok (.iadd, 1) := by decide +kernel
theorem dL_tables_195 : decode cL_tables 195 = .ok (.iconst 0, 1) := by decide +kernel
theorem dL_tables_196 : decode cL_tables 196 = .ok (.iastore, 1) := by decide +kernel
theorem dL_tables_197 : decode cL_tables 197 = .ok (.aload 5, 2) := by decide +kernel
theorem dL_tables_199 : decode cL_tables 199 = .ok (.iconst 0, 1) := by decide +kernel
theorem dL_tables_200 : decode cL_tables 200 = .ok (.dup2, 1) := by decide +kernel
theorem dL_tables_201 : decode cL_tables 201 = .ok (.iaload, 1) := by decide +kernel
theorem dL_tables_202 : decode cL_tables 202 = .ok (.iconst 1, 1) := by decide +kernel
theorem dL_tables_203 : decode cL_tables 203 = .ok (.iadd, 1) := by decide +kernel
theorem dL_tables_204 : decode cL_tables 204 = .ok (.iastore, 1) := by decide +kernel
theorem dL_tables_205 : decode cL_tables 205 = .ok (.aload_n 0, 1) := by decide +kernel
theorem dL_tables_206 : decode cL_tables 206 = .ok (.iload 6, 2) := by decide +kernel
theorem dL_tables_208 : decode cL_tables 208 = .ok (.iload 7, 2) := by decide +kernel
theorem dL_tables_210 : decode cL_tables 210 = .ok (.invokestatic 185, 3) := by decide +kernel
theorem dL_tables_213 : decode cL_tables 213 = .ok (.aload 5, 2) := by decide +kernel
theorem dL_tables_215 : decode cL_tables 215 = .ok (.iconst 0, 1) := by decide +kernel
theorem dL_tables_216 : decode cL_tables 216 = .ok (.iaload, 1) := by decide +kernel
theorem dL_tables_217 : decode cL_tables 217 = .ok (.iconst 1, 1) := by decide +kernel
theorem dL_tables_218 : decode cL_tables 218 = .ok (.isub, 1) := by decide +kernel
theorem dL_tables_219 : decode cL_tables 219 = .ok (.if_icmp .ne 7, 3) := by decide +kernel
theorem dL_tables_222 : decode cL_tables 222 = .ok (.iconst 1, 1) := by decide +kernel
theorem dL_tables_223 : decode cL_tables 223 = .ok (.goto 4, 3) := by decide +kernel
theorem dL_tables_226 : decode cL_tables 226 = .ok (.iconst 0, 1) := by decide +kernel
theorem dL_tables_227 : decode cL_tables 227 = .ok (.ireturn, 1) := by decide +kernel
theorem dL_tables_228 : decode cL_tables 228 = .ok (.iload_n 2, 1) := by decide +kernel
theorem dL_tables_229 : decode cL_tables 229 = .ok (.aload 5, 2) := by decide +kernel
theorem dL_tables_231 : decode cL_tables 231 = .ok (.iconst 0, 1) := by decide +kernel
theorem dL_tables_232 : decode cL_tables 232 = .ok (.iaload, 1) := by decide +kernel
theorem dL_tables_233 : decode cL_tables 233 = .ok (.iconst 1, 1) := by decide +kernel
theorem dL_tables_234 : decode cL_tables 234 = .ok (.iadd, 1) := by decide +kernel
theorem dL_tables_235 : decode cL_tables 235 = .ok (.invokestatic 180, 3) := by decide +kernel
theorem dL_tables_238 : decode cL_tables 238 = .ok (.istore 6, 2) := by decide +kernel
theorem dL_tables_240 : decode cL_tables 240 = .ok (.iload 6, 2) := by decide +kernel
theorem dL_tables_242 : decode cL_tables 242 = .ok (.aload 5, 2) := by decide +kernel
theorem dL_tables_244 : decode cL_tables 244 = .ok (.iconst 0, 1) := by decide +kernel
theorem dL_tables_245 : decode cL_tables 245 = .ok (.iaload, 1) := by decide +kernel
theorem dL_tables_246 : decode cL_tables 246 = .ok (.if_icmp .ne 47, 3) := by decide +kernel
theorem dL_tables_249 : decode cL_tables 249 = .ok (.aload_n 0, 1) := by decide +kernel
theorem dL_tables_250 : decode cL_tables 250 = .ok (.iload 6, 2) := by decide +kernel
theorem dL_tables_252 : decode cL_tables 252 = .ok (.iconst 0, 1) := by decide +kernel
theorem dL_tables_253 : decode cL_tables 253 = .ok (.invokestatic 187, 3) := by decide +kernel
theorem dL_tables_256 : decode cL_tables 256 = .ok (.sipush (-7100), 3) := by decide +kernel
theorem dL_tables_259 : decode cL_tables 259 = .ok (.if_icmp .ne 32, 3) := by decide +kernel
theorem dL_tables_262 : decode cL_tables 262 = .ok (.aload_n 0, 1) := by decide +kernel
theorem dL_tables_263 : decode cL_tables 263 = .ok (.iload 6, 2) := by decide +kernel
theorem dL_tables_265 : decode cL_tables 265 = .ok (.iconst 0, 1) := by decide +kernel
theorem dL_tables_266 : decode cL_tables 266 = .ok (.invokestatic 189, 3) := by decide +kernel
theorem dL_tables_269 : decode cL_tables 269 = .ok (.sipush (-7100), 3) := by decide +kernel
theorem dL_tables_272 : decode cL_tables 272 = .ok (.if_icmp .ne 19, 3) := by decide +kernel
theorem dL_tables_275 : decode cL_tables 275 = .ok (.aload_n 0, 1) := by decide +kernel
theorem dL_tables_276 : decode cL_tables 276 = .ok (.iconst (-1), 1) := by decide +kernel
theorem dL_tables_277 : decode cL_tables 277 = .ok (.iconst (-1), 1) := by decide +kernel
theorem dL_tables_278 : decode cL_tables 278 = .ok (.invokestatic 187, 3) := by decide +kernel
theorem dL_tables_281 : decode cL_tables 281 = .ok (.sipush (-7100), 3) := by decide +kernel
theorem dL_tables_284 : decode cL_tables 284 = .ok (.if_icmp .ne 7, 3) := by decide +kernel
theorem dL_tables_287 : decode cL_tables 287 = .ok (.iconst 1, 1) := by decide +kernel
theorem dL_tables_288 : decode cL_tables 288 = .ok (.goto 4, 3) := by decide +kernel
theorem dL_tables_291 : decode cL_tables 291 = .ok (.iconst 0, 1) := by decide +kernel
theorem dL_tables_292 : decode cL_tables 292 = .ok (.ireturn, 1) := by decide +kernel
theorem dL_tables_293 : decode cL_tables 293 = .ok (.iload_n 3, 1) := by decide +kernel
theorem dL_tables_294 : decode cL_tables 294 = .ok (.bipush 27, 2) := by decide +kernel
theorem dL_tables_296 : decode cL_tables 296 = .ok (.invokestatic 180, 3) := by decide +kernel
theorem dL_tables_299 : decode cL_tables 299 = .ok (.iload_n 2, 1) := by decide +kernel
theorem dL_tables_300 : decode cL_tables 300 = .ok (.sipush 768, 3) := by decide +kernel
theorem dL_tables_303 : decode cL_tables 303 = .ok (.iand, 1) := by decide +kernel
theorem dL_tables_304 : decode cL_tables 304 = .ok (.ifCond .ne 8, 3) := by decide +kernel
theorem dL_tables_307 : decode cL_tables 307 = .ok (.bipush 7, 2) := by decide +kernel
theorem dL_tables_309 : decode cL_tables 309 = .ok (.goto 11, 3) := by decide +kernel
theorem dL_tables_312 : decode cL_tables 312 = .ok (.aload 4, 2) := by decide +kernel
theorem dL_tables_314 : decode cL_tables 314 = .ok (.iload 6, 2) := by decide +kernel
theorem dL_tables_316 : decode cL_tables 316 = .ok (.iaload, 1) := by decide +kernel
theorem dL_tables_317 : decode cL_tables 317 = .ok (.bipush 7, 2) := by decide +kernel
theorem dL_tables_319 : decode cL_tables 319 = .ok (.iand, 1) := by decide +kernel
theorem dL_tables_320 : decode cL_tables 320 = .ok (.invokestatic 97, 3) := by decide +kernel
theorem dL_tables_323 : decode cL_tables 323 = .ok (.istore 7, 2) := by decide +kernel
theorem dL_tables_325 : decode cL_tables 325 = .ok (.iload 7, 2) := by decide +kernel
theorem dL_tables_327 : decode cL_tables 327 = .ok (.aload 4, 2) := by decide +kernel
theorem dL_tables_329 : decode cL_tables 329 = .ok (.iload 6, 2) := by decide +kernel
theorem dL_tables_331 : decode cL_tables 331 = .ok (.iaload, 1) := by decide +kernel
theorem dL_tables_332 : decode cL_tables 332 = .ok (.bipush 7, 2) := by decide +kernel
theorem dL_tables_334 : decode cL_tables 334 = .ok (.iand, 1) := by decide +kernel
theorem dL_tables_335 : decode cL_tables 335 = .ok (.invokestatic 97, 3) := by decide +kernel
theorem dL_tables_338 : decode cL_tables 338 = .ok (.iload 7, 2) := by decide +kernel
theorem dL_tables_340 : decode cL_tables 340 = .ok (.if_icmp .ne 7, 3) := by decide +kernel
theorem dL_tables_343 : decode cL_tables 343 = .ok (.iconst 1, 1) := by decide +kernel
theorem dL_tables_344 : decode cL_tables 344 = .ok (.goto 4, 3) := by decide +kernel
theorem dL_tables_347 : decode cL_tables 347 = .ok (.iconst 0, 1) := by decide +kernel
theorem dL_tables_348 : decode cL_tables 348 = .ok (.istore 8, 2) := by decide +kernel
theorem dL_tables_350 : decode cL_tables 350 = .ok (.iload_n 1, 1) := by decide +kernel
theorem dL_tables_351 : decode cL_tables 351 = .ok (.iconst 1, 1) := by decide +kernel
theorem dL_tables_352 : decode cL_tables 352 = .ok (.if_icmp .ne 182, 3) := by decide +kernel
theorem dL_tables_355 : decode cL_tables 355 = .ok (.aload_n 0, 1) := by decide +kernel
theorem dL_tables_356 : decode cL_tables 356 = .ok (.iload 6, 2) := by decide +kernel
theorem dL_tables_358 : decode cL_tables 358 = .ok (.iconst (-1), 1) := by decide +kernel
theorem dL_tables_359 : decode cL_tables 359 = .ok (.invokestatic 187, 3) := by decide +kernel
theorem dL_tables_362 : decode cL_tables 362 = .ok (.sipush (-7200), 3) := by decide +kernel
theorem dL_tables_365 : decode cL_tables 365 = .ok (.if_icmp .ne 32, 3) := by decide +kernel
theorem dL_tables_368 : decode cL_tables 368 = .ok (.aload_n 0, 1) := by decide +kernel
theorem dL_tables_369 : decode cL_tables 369 = .ok (.iload 6, 2) := by decide +kernel
theorem dL_tables_371 : decode cL_tables 371 = .ok (.ldc 191, 2) := by decide +kernel
theorem dL_tables_373 : decode cL_tables 373 = .ok (.invokestatic 187, 3) := by decide +kernel
theorem dL_tables_376 : decode cL_tables 376 = .ok (.sipush (-7200), 3) := by decide +kernel
theorem dL_tables_379 : decode cL_tables 379 = .ok (.if_icmp .ne 18, 3) := by decide +kernel
theorem dL_tables_382 : decode cL_tables 382 = .ok (.aload_n 0, 1) := by decide +kernel
theorem dL_tables_383 : decode cL_tables 383 = .ok (.iload 6, 2) := by decide +kernel
theorem dL_tables_385 : decode cL_tables 385 = .ok (.sipush 1000, 3) := by decide +kernel
theorem dL_tables_388 : decode cL_tables 388 = .ok (.invokestatic 187, 3) := by decide +kernel
theorem dL_tables_391 : decode cL_tables 391 = .ok (.sipush (-7200), 3) := by decide +kernel
theorem dL_tables_394 : decode cL_tables 394 = .ok (.if_icmp .eq 5, 3) := by decide +kernel
theorem dL_tables_397 : decode cL_tables 397 = .ok (.iconst 0, 1) := by decide +kernel
theorem dL_tables_398 : decode cL_tables 398 = .ok (.ireturn, 1) := by decide +kernel
theorem dL_tables_399 : decode cL_tables 399 = .ok (.iload 8, 2) := by decide +kernel
theorem dL_tables_401 : decode cL_tables 401 = .ok (.ifCond .ne 26, 3) := by decide +kernel
theorem dL_tables_404 : decode cL_tables 404 = .ok (.aload_n 0, 1) := by decide +kernel
theorem dL_tables_405 : decode cL_tables 405 = .ok (.iload 6, 2) := by decide +kernel
theorem dL_tables_407 : decode cL_tables 407 = .ok (.iload 7, 2) := by decide +kernel
theorem dL_tables_409 : decode cL_tables 409 = .ok (.invokestatic 111, 3) := by decide +kernel
theorem dL_tables_412 : decode cL_tables 412 = .ok (.invokestatic 187, 3) := by decide +kernel
theorem dL_tables_415 : decode cL_tables 415 = .ok (.sipush (-7200), 3) := by decide +kernel
theorem dL_tables_418 : decode cL_tables 418 = .ok (.if_icmp .ne 7, 3) := by decide +kernel
theorem dL_tables_421 : decode cL_tables 421 = .ok (.iconst 1, 1) := by decide +kernel
theorem dL_tables_422 : decode cL_tables 422 = .ok (.goto 4, 3) := by decide +kernel
theorem dL_tables_425 : decode cL_tables 425 = .ok (.iconst 0, 1) := by decide +kernel
theorem dL_tables_426 : decode cL_tables 426 = .ok (.ireturn, 1) := by decide +kernel
theorem dL_tables_427 : decode cL_tables 427 = .ok (.iconst 1, 1) := by decide +kernel
theorem dL_tables_428 : decode cL_tables 428 = .ok (.iload 7, 2) := by decide +kernel
theorem dL_tables_430 : decode cL_tables 430 = .ok (.ishl, 1) := by decide +kernel
theorem dL_tables_431 : decode cL_tables 431 = .ok (.aload 4, 2) := by decide +kernel
theorem dL_tables_433 : decode cL_tables 433 = .ok (.iconst 3, 1) := by decide +kernel
theorem dL_tables_434 : decode cL_tables 434 = .ok (.iload 6, 2) := by decide +kernel
theorem dL_tables_436 : decode cL_tables 436 = .ok (.iadd, 1) := by decide +kernel
theorem dL_tables_437 : decode cL_tables 437 = .ok (.iaload, 1) := by decide +kernel
theorem dL_tables_438 : decode cL_tables 438 = .ok (.aload 4, 2) := by decide +kernel
theorem dL_tables_440 : decode cL_tables 440 = .ok (.iload 6, 2) := by decide +kernel
theorem dL_tables_442 : decode cL_tables 442 = .ok (.iaload, 1) := by decide +kernel
theorem dL_tables_443 : decode cL_tables 443 = .ok (.iconst 3, 1) := by decide +kernel
theorem dL_tables_444 : decode cL_tables 444 = .ok (.ishr, 1) := by decide +kernel
theorem dL_tables_445 : decode cL_tables 445 = .ok (.iconst 1, 1) := by decide +kernel
theorem dL_tables_446 : decode cL_tables 446 = .ok (.invokestatic 129, 3) := by decide +kernel
theorem dL_tables_449 : decode cL_tables 449 = .ok (.ifCond .ne 18, 3) := by decide +kernel
theorem dL_tables_452 : decode cL_tables 452 = .ok (.aload 4, 2) := by decide +kernel
theorem dL_tables_454 : decode cL_tables 454 = .ok (.iconst 3, 1) := by decide +kernel
theorem dL_tables_455 : decode cL_tables 455 = .ok (.iload 6, 2) := by decide +kernel
theorem dL_tables_457 : decode cL_tables 457 = .ok (.iadd, 1) := by decide +kernel
theorem dL_tables_458 : decode cL_tables 458 = .ok (.iaload, 1) := by decide +kernel
theorem dL_tables_459 : decode cL_tables 459 = .ok (.invokestatic 132, 3) := by decide +kernel
theorem dL_tables_462 : decode cL_tables 462 = .ok (.bipush 12, 2) := by decide +kernel
theorem dL_tables_464 : decode cL_tables 464 = .ok (.if_icmp .ne 26, 3) := by decide +kernel
theorem dL_tables_467 : decode cL_tables 467 = .ok (.aload_n 0, 1) := by decide +kernel
theorem dL_tables_468 : decode cL_tables 468 = .ok (.iload 6, 2) := by decide +kernel
theorem dL_tables_470 : decode cL_tables 470 = .ok (.iload 7, 2) := by decide +kernel
theorem dL_tables_472 : decode cL_tables 472 = .ok (.invokestatic 111, 3) := by decide +kernel
theorem dL_tables_475 : decode cL_tables 475 = .ok (.invokestatic 187, 3) := by decide +kernel
theorem dL_tables_478 : decode cL_tables 478 = .ok (.sipush (-7300), 3) := by decide +kernel
theorem dL_tables_481 : decode cL_tables 481 = .ok (.if_icmp .ne 7, 3) := by decide +kernel
theorem dL_tables_484 : decode cL_tables 484 = .ok (.iconst 1, 1) := by decide +kernel
theorem dL_tables_485 : decode cL_tables 485 = .ok (.goto 4, 3) := by decide +kernel
theorem dL_tables_488 : decode cL_tables 488 = .ok (.iconst 0, 1) := by decide +kernel
theorem dL_tables_489 : decode cL_tables 489 = .ok (.ireturn, 1) := by decide +kernel
theorem dL_tables_490 : decode cL_tables 490 = .ok (.aload 4, 2) := by decide +kernel
theorem dL_tables_492 : decode cL_tables 492 = .ok (.iconst 3, 1) := by decide +kernel
theorem dL_tables_493 : decode cL_tables 493 = .ok (.iload 6, 2) := by decide +kernel
theorem dL_tables_495 : decode cL_tables 495 = .ok (.iadd, 1) := by decide +kernel
theorem dL_tables_496 : decode cL_tables 496 = .ok (.dup2, 1) := by decide +kernel
theorem dL_tables_497 : decode cL_tables 497 = .ok (.iaload, 1) := by decide +kernel
theorem dL_tables_498 : decode cL_tables 498 = .ok (.iconst 1, 1) := by decide +kernel
theorem dL_tables_499 : decode cL_tables 499 = .ok (.iload 7, 2) := by decide +kernel
theorem dL_tables_501 : decode cL_tables 501 = .ok (.ishl, 1) := by decide +kernel
theorem dL_tables_502 : decode cL_tables 502 = .ok (.ior, 1) := by decide +kernel
theorem dL_tables_503 : decode cL_tables 503 = .ok (.iastore, 1) := by decide +kernel
theorem dL_tables_504 : decode cL_tables 504 = .ok (.aload_n 0, 1) := by decide +kernel
theorem dL_tables_505 : decode cL_tables 505 = .ok (.iload 6, 2) := by decide +kernel
theorem dL_tables_507 : decode cL_tables 507 = .ok (.iload 7, 2) := by decide +kernel
theorem dL_tables_509 : decode cL_tables 509 = .ok (.invokestatic 111, 3) := by decide +kernel
theorem dL_tables_512 : decode cL_tables 512 = .ok (.invokestatic 187, 3) := by decide +kernel
theorem dL_tables_515 : decode cL_tables 515 = .ok (.aload 4, 2) := by decide +kernel
