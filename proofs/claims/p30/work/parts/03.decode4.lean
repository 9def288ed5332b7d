theorem dL_due_103 : decode cL_due 103 = .ok (.iload 9, 2) := by decide +kernel
theorem dL_due_105 : decode cL_due 105 = .ok (.lload 14, 2) := by decide +kernel
theorem dL_due_107 : decode cL_due 107 = .ok (.invokestatic 11, 3) := by decide +kernel
theorem dL_due_110 : decode cL_due 110 = .ok (.lcmp, 1) := by decide +kernel
theorem dL_due_111 : decode cL_due 111 = .ok (.ifCond .le 7, 3) := by decide +kernel
theorem dL_due_114 : decode cL_due 114 = .ok (.iconst 1, 1) := by decide +kernel
theorem dL_due_115 : decode cL_due 115 = .ok (.goto 4, 3) := by decide +kernel
theorem dL_due_118 : decode cL_due 118 = .ok (.iconst 0, 1) := by decide +kernel
theorem dL_due_119 : decode cL_due 119 = .ok (.iadd, 1) := by decide +kernel
theorem dL_due_120 : decode cL_due 120 = .ok (.istore 9, 2) := by decide +kernel
theorem dL_due_122 : decode cL_due 122 = .ok (.iload 10, 2) := by decide +kernel
theorem dL_due_124 : decode cL_due 124 = .ok (.lload 14, 2) := by decide +kernel
theorem dL_due_126 : decode cL_due 126 = .ok (.invokestatic 11, 3) := by decide +kernel
theorem dL_due_129 : decode cL_due 129 = .ok (.lcmp, 1) := by decide +kernel
theorem dL_due_130 : decode cL_due 130 = .ok (.ifCond .le 15, 3) := by decide +kernel
theorem dL_due_133 : decode cL_due 133 = .ok (.lload 14, 2) := by decide +kernel
theorem dL_due_135 : decode cL_due 135 = .ok (.lload 11, 2) := by decide +kernel
theorem dL_due_137 : decode cL_due 137 = .ok (.lcmp, 1) := by decide +kernel
theorem dL_due_138 : decode cL_due 138 = .ok (.ifCond .ge 7, 3) := by decide +kernel
theorem dL_due_141 : decode cL_due 141 = .ok (.iconst 1, 1) := by decide +kernel
theorem dL_due_142 : decode cL_due 142 = .ok (.goto 4, 3) := by decide +kernel
theorem dL_due_145 : decode cL_due 145 = .ok (.iconst 0, 1) := by decide +kernel
theorem dL_due_146 : decode cL_due 146 = .ok (.iadd, 1) := by decide +kernel
theorem dL_due_147 : decode cL_due 147 = .ok (.istore 10, 2) := by decide +kernel
theorem dL_due_149 : decode cL_due 149 = .ok (.iinc 13 1, 3) := by decide +kernel
theorem dL_due_152 : decode cL_due 152 = .ok (.goto (-83), 3) := by decide +kernel
theorem dL_due_155 : decode cL_due 155 = .ok (.aload_n 0, 1) := by decide +kernel
theorem dL_due_156 : decode cL_due 156 = .ok (.iload_n 3, 1) := by decide +kernel
theorem dL_due_157 : decode cL_due 157 = .ok (.iload 7, 2) := by decide +kernel
theorem dL_due_159 : decode cL_due 159 = .ok (.iload 8, 2) := by decide +kernel
theorem dL_due_161 : decode cL_due 161 = .ok (.iconst 0, 1) := by decide +kernel
theorem dL_due_162 : decode cL_due 162 = .ok (.invokevirtual 61, 3) := by decide +kernel
theorem dL_due_165 : decode cL_due 165 = .ok (.aload_n 0, 1) := by decide +kernel
theorem dL_due_166 : decode cL_due 166 = .ok (.iload_n 3, 1) := by decide +kernel
theorem dL_due_167 : decode cL_due 167 = .ok (.iload 7, 2) := by decide +kernel
theorem dL_due_169 : decode cL_due 169 = .ok (.iload 8, 2) := by decide +kernel
theorem dL_due_171 : decode cL_due 171 = .ok (.iconst 1, 1) := by decide +kernel
theorem dL_due_172 : decode cL_due 172 = .ok (.invokevirtual 61, 3) := by decide +kernel
theorem dL_due_175 : decode cL_due 175 = .ok (.iload 5, 2) := by decide +kernel
theorem dL_due_177 : decode cL_due 177 = .ok (.i2l, 1) := by decide +kernel
theorem dL_due_178 : decode cL_due 178 = .ok (.invokestatic 54, 3) := by decide +kernel
theorem dL_due_181 : decode cL_due 181 = .ok (.lstore 13, 2) := by decide +kernel
theorem dL_due_183 : decode cL_due 183 = .ok (.iload 9, 2) := by decide +kernel
theorem dL_due_185 : decode cL_due 185 = .ok (.iconst 2, 1) := by decide +kernel
theorem dL_due_186 : decode cL_due 186 = .ok (.iload_n 2, 1) := by decide +kernel
theorem dL_due_187 : decode cL_due 187 = .ok (.imul, 1) := by decide +kernel
theorem dL_due_188 : decode cL_due 188 = .ok (.if_icmp .gt 28, 3) := by decide +kernel
theorem dL_due_191 : decode cL_due 191 = .ok (.aload_n 0, 1) := by decide +kernel
theorem dL_due_192 : decode cL_due 192 = .ok (.iload_n 3, 1) := by decide +kernel
theorem dL_due_193 : decode cL_due 193 = .ok (.iconst 0, 1) := by decide +kernel
theorem dL_due_194 : decode cL_due 194 = .ok (.iload 8, 2) := by decide +kernel
theorem dL_due_196 : decode cL_due 196 = .ok (.iconst 1, 1) := by decide +kernel
theorem dL_due_197 : decode cL_due 197 = .ok (.invokevirtual 65, 3) := by decide +kernel
theorem dL_due_200 : decode cL_due 200 = .ok (.invokestatic 11, 3) := by decide +kernel
theorem dL_due_203 : decode cL_due 203 = .ok (.lcmp, 1) := by decide +kernel
theorem dL_due_204 : decode cL_due 204 = .ok (.ifCond .le 9, 3) := by decide +kernel
theorem dL_due_207 : decode cL_due 207 = .ok (.invokestatic 11, 3) := by decide +kernel
theorem dL_due_210 : decode cL_due 210 = .ok (.goto 5, 3) := by decide +kernel
theorem dL_due_213 : decode cL_due 213 = .ok (.lload 13, 2) := by decide +kernel
theorem dL_due_215 : decode cL_due 215 = .ok (.lreturn, 1) := by decide +kernel
theorem dL_due_216 : decode cL_due 216 = .ok (.iload 9, 2) := by decide +kernel
theorem dL_due_218 : decode cL_due 218 = .ok (.iconst 2, 1) := by decide +kernel
theorem dL_due_219 : decode cL_due 219 = .ok (.iload_n 2, 1) := by decide +kernel
theorem dL_due_220 : decode cL_due 220 = .ok (.imul, 1) := by decide +kernel
theorem dL_due_221 : decode cL_due 221 = .ok (.isub, 1) := by decide +kernel
theorem dL_due_222 : decode cL_due 222 = .ok (.istore 15, 2) := by decide +kernel
theorem dL_due_224 : decode cL_due 224 = .ok (.lload 11, 2) := by decide +kernel
theorem dL_due_226 : decode cL_due 226 = .ok (.lstore 16, 2) := by decide +kernel
theorem dL_due_228 : decode cL_due 228 = .ok (.lconst 0, 1) := by decide +kernel
theorem dL_due_229 : decode cL_due 229 = .ok (.lstore 18, 2) := by decide +kernel
theorem dL_due_231 : decode cL_due 231 = .ok (.iconst 0, 1) := by decide +kernel
theorem dL_due_232 : decode cL_due 232 = .ok (.istore 20, 2) := by decide +kernel
theorem dL_due_234 : decode cL_due 234 = .ok (.iload 6, 2) := by decide +kernel
theorem dL_due_236 : decode cL_due 236 = .ok (.iconst 3, 1) := by decide +kernel
theorem dL_due_237 : decode cL_due 237 = .ok (.if_icmp .ne 12, 3) := by decide +kernel
theorem dL_due_240 : decode cL_due 240 = .ok (.iload_n 2, 1) := by decide +kernel
theorem dL_due_241 : decode cL_due 241 = .ok (.iconst 1, 1) := by decide +kernel
theorem dL_due_242 : decode cL_due 242 = .ok (.if_icmp .le 7, 3) := by decide +kernel
theorem dL_due_245 : decode cL_due 245 = .ok (.iload_n 2, 1) := by decide +kernel
theorem dL_due_246 : decode cL_due 246 = .ok (.goto 4, 3) := by decide +kernel
theorem dL_due_249 : decode cL_due 249 = .ok (.iconst 1, 1) := by decide +kernel
theorem dL_due_250 : decode cL_due 250 = .ok (.istore 21, 2) := by decide +kernel
theorem dL_due_252 : decode cL_due 252 = .ok (.lconst 0, 1) := by decide +kernel
theorem dL_due_253 : decode cL_due 253 = .ok (.lstore 22, 2) := by decide +kernel
theorem dL_due_255 : decode cL_due 255 = .ok (.lconst 0, 1) := by decide +kernel
theorem dL_due_256 : decode cL_due 256 = .ok (.lstore 24, 2) := by decide +kernel
theorem dL_due_258 : decode cL_due 258 = .ok (.iconst 0, 1) := by decide +kernel
theorem dL_due_259 : decode cL_due 259 = .ok (.istore 26, 2) := by decide +kernel
theorem dL_due_261 : decode cL_due 261 = .ok (.iload 26, 2) := by decide +kernel
theorem dL_due_263 : decode cL_due 263 = .ok (.iload 15, 2) := by decide +kernel
theorem dL_due_265 : decode cL_due 265 = .ok (.if_icmp .ge 128, 3) := by decide +kernel
theorem dL_due_268 : decode cL_due 268 = .ok (.aload_n 0, 1) := by decide +kernel
theorem dL_due_269 : decode cL_due 269 = .ok (.iload_n 3, 1) := by decide +kernel
theorem dL_due_270 : decode cL_due 270 = .ok (.iload 26, 2) := by decide +kernel
theorem dL_due_272 : decode cL_due 272 = .ok (.iload 8, 2) := by decide +kernel
theorem dL_due_274 : decode cL_due 274 = .ok (.iconst 0, 1) := by decide +kernel
theorem dL_due_275 : decode cL_due 275 = .ok (.invokevirtual 65, 3) := by decide +kernel
theorem dL_due_278 : decode cL_due 278 = .ok (.aload_n 0, 1) := by decide +kernel
theorem dL_due_279 : decode cL_due 279 = .ok (.iload_n 3, 1) := by decide +kernel
theorem dL_due_280 : decode cL_due 280 = .ok (.iload 26, 2) := by decide +kernel
theorem dL_due_282 : decode cL_due 282 = .ok (.iload 8, 2) := by decide +kernel
theorem dL_due_284 : decode cL_due 284 = .ok (.iconst 1, 1) := by decide +kernel
theorem dL_due_285 : decode cL_due 285 = .ok (.invokevirtual 65, 3) := by decide +kernel
theorem dL_due_288 : decode cL_due 288 = .ok (.iload 5, 2) := by decide +kernel
theorem dL_due_290 : decode cL_due 290 = .ok (.i2l, 1) := by decide +kernel
theorem dL_due_291 : decode cL_due 291 = .ok (.invokestatic 54, 3) := by decide +kernel
theorem dL_due_294 : decode cL_due 294 = .ok (.lstore 27, 2) := by decide +kernel
theorem dL_due_296 : decode cL_due 296 = .ok (.lload 27, 2) := by decide +kernel
theorem dL_due_298 : decode cL_due 298 = .ok (.lload 16, 2) := by decide +kernel
theorem dL_due_300 : decode cL_due 300 = .ok (.lcmp, 1) := by decide +kernel
theorem dL_due_301 : decode cL_due 301 = .ok (.ifCond .ge 7, 3) := by decide +kernel
theorem dL_due_304 : decode cL_due 304 = .ok (.invokestatic 11, 3) := by decide +kernel
theorem dL_due_307 : decode cL_due 307 = .ok (.lreturn, 1) := by decide +kernel
theorem dL_due_308 : decode cL_due 308 = .ok (.lload 27, 2) := by decide +kernel
theorem dL_due_310 : decode cL_due 310 = .ok (.lstore 16, 2) := by decide +kernel
theorem dL_due_312 : decode cL_due 312 = .ok (.iload 26, 2) := by decide +kernel
theorem dL_due_314 : decode cL_due 314 = .ok (.iload 15, 2) := by decide +kernel
theorem dL_due_316 : decode cL_due 316 = .ok (.iconst 1, 1) := by decide +kernel
theorem dL_due_317 : decode cL_due 317 = .ok (.isub, 1) := by decide +kernel
theorem dL_due_318 : decode cL_due 318 = .ok (.iconst 2, 1) := by decide +kernel
theorem dL_due_319 : decode cL_due 319 = .ok (.idiv, 1) := by decide +kernel
theorem dL_due_320 : decode cL_due 320 = .ok (.if_icmp .ne 8, 3) := by decide +kernel
theorem dL_due_323 : decode cL_due 323 = .ok (.lload 27, 2) := by decide +kernel
theorem dL_due_325 : decode cL_due 325 = .ok (.goto 5, 3) := by decide +kernel
theorem dL_due_328 : decode cL_due 328 = .ok (.lload 22, 2) := by decide +kernel
theorem dL_due_330 : decode cL_due 330 = .ok (.lstore 22, 2) := by decide +kernel
theorem dL_due_332 : decode cL_due 332 = .ok (.iload 26, 2) := by decide +kernel
theorem dL_due_334 : decode cL_due 334 = .ok (.iload 15, 2) := by decide +kernel
theorem dL_due_336 : decode cL_due 336 = .ok (.iconst 2, 1) := by decide +kernel
theorem dL_due_337 : decode cL_due 337 = .ok (.idiv, 1) := by decide +kernel
theorem dL_due_338 : decode cL_due 338 = .ok (.if_icmp .ne 8, 3) := by decide +kernel
theorem dL_due_341 : decode cL_due 341 = .ok (.lload 27, 2) := by decide +kernel
theorem dL_due_343 : decode cL_due 343 = .ok (.goto 5, 3) := by decide +kernel
theorem dL_due_346 : decode cL_due 346 = .ok (.lload 24, 2) := by decide +kernel
theorem dL_due_348 : decode cL_due 348 = .ok (.lstore 24, 2) := by decide +kernel
theorem dL_due_350 : decode cL_due 350 = .ok (.lload 18, 2) := by decide +kernel
theorem dL_due_352 : decode cL_due 352 = .ok (.iload 26, 2) := by decide +kernel
theorem dL_due_354 : decode cL_due 354 = .ok (.iload 21, 2) := by decide +kernel
theorem dL_due_356 : decode cL_due 356 = .ok (.irem, 1) := by decide +kernel
theorem dL_due_357 : decode cL_due 357 = .ok (.ifCond .ne 8, 3) := by decide +kernel
theorem dL_due_360 : decode cL_due 360 = .ok (.lload 27, 2) := by decide +kernel
theorem dL_due_362 : decode cL_due 362 = .ok (.goto 4, 3) := by decide +kernel
theorem dL_due_365 : decode cL_due 365 = .ok (.lconst 0, 1) := by decide +kernel
theorem dL_due_366 : decode cL_due 366 = .ok (.ladd, 1) := by decide +kernel
theorem dL_due_367 : decode cL_due 367 = .ok (.lstore 18, 2) := by decide +kernel
theorem dL_due_369 : decode cL_due 369 = .ok (.iload 20, 2) := by decide +kernel
theorem dL_due_371 : decode cL_due 371 = .ok (.iload 26, 2) := by decide +kernel
theorem dL_due_373 : decode cL_due 373 = .ok (.iload 21, 2) := by decide +kernel
theorem dL_due_375 : decode cL_due 375 = .ok (.irem, 1) := by decide +kernel
theorem dL_due_376 : decode cL_due 376 = .ok (.ifCond .ne 7, 3) := by decide +kernel
theorem dL_due_379 : decode cL_due 379 = .ok (.iconst 1, 1) := by decide +kernel
theorem dL_due_380 : decode cL_due 380 = .ok (.goto 4, 3) := by decide +kernel
theorem dL_due_383 : decode cL_due 383 = .ok (.iconst 0, 1) := by decide +kernel
theorem dL_due_384 : decode cL_due 384 = .ok (.iadd, 1) := by decide +kernel
theorem dL_due_385 : decode cL_due 385 = .ok (.istore 20, 2) := by decide +kernel
theorem dL_due_387 : decode cL_due 387 = .ok (.iinc 26 1, 3) := by decide +kernel
theorem dL_due_390 : decode cL_due 390 = .ok (.goto (-129), 3) := by decide +kernel
theorem dL_due_393 : decode cL_due 393 = .ok (.iload 10, 2) := by decide +kernel
theorem dL_due_395 : decode cL_due 395 = .ok (.iload_n 2, 1) := by decide +kernel
theorem dL_due_396 : decode cL_due 396 = .ok (.if_icmp .gt 36, 3) := by decide +kernel
theorem dL_due_399 : decode cL_due 399 = .ok (.aload_n 0, 1) := by decide +kernel
theorem dL_due_400 : decode cL_due 400 = .ok (.iload_n 3, 1) := by decide +kernel
theorem dL_due_401 : decode cL_due 401 = .ok (.iload 15, 2) := by decide +kernel
theorem dL_due_403 : decode cL_due 403 = .ok (.iload 8, 2) := by decide +kernel
theorem dL_due_405 : decode cL_due 405 = .ok (.iconst 0, 1) := by decide +kernel
theorem dL_due_406 : decode cL_due 406 = .ok (.invokevirtual 65, 3) := by decide +kernel
theorem dL_due_409 : decode cL_due 409 = .ok (.invokestatic 11, 3) := by decide +kernel
theorem dL_due_412 : decode cL_due 412 = .ok (.lcmp, 1) := by decide +kernel
theorem dL_due_413 : decode cL_due 413 = .ok (.ifCond .gt 19, 3) := by decide +kernel
theorem dL_due_416 : decode cL_due 416 = .ok (.aload_n 0, 1) := by decide +kernel
theorem dL_due_417 : decode cL_due 417 = .ok (.iload_n 3, 1) := by decide +kernel
theorem dL_due_418 : decode cL_due 418 = .ok (.iconst (-1), 1) := by decide +kernel
theorem dL_due_419 : decode cL_due 419 = .ok (.iload 8, 2) := by decide +kernel
theorem dL_due_421 : decode cL_due 421 = .ok (.iconst 0, 1) := by decide +kernel
theorem dL_due_422 : decode cL_due 422 = .ok (.invokevirtual 65, 3) := by decide +kernel
theorem dL_due_425 : decode cL_due 425 = .ok (.invokestatic 11, 3) := by decide +kernel
theorem dL_due_428 : decode cL_due 428 = .ok (.lcmp, 1) := by decide +kernel
theorem dL_due_429 : decode cL_due 429 = .ok (.ifCond .le 7, 3) := by decide +kernel
theorem dL_due_432 : decode cL_due 432 = .ok (.invokestatic 11, 3) := by decide +kernel
theorem dL_due_435 : decode cL_due 435 = .ok (.lreturn, 1) := by decide +kernel
theorem dL_due_436 : decode cL_due 436 = .ok (.iload 6, 2) := by decide +kernel
theorem dL_due_438 : decode cL_due 438 = .ok (.iconst 1, 1) := by decide +kernel
theorem dL_due_439 : decode cL_due 439 = .ok (.if_icmp .ne 17, 3) := by decide +kernel
theorem dL_due_442 : decode cL_due 442 = .ok (.lload 11, 2) := by decide +kernel
theorem dL_due_444 : decode cL_due 444 = .ok (.lload 16, 2) := by decide +kernel
theorem dL_due_446 : decode cL_due 446 = .ok (.ladd, 1) := by decide +kernel
theorem dL_due_447 : decode cL_due 447 = .ok (.ldc2_w 71, 3) := by decide +kernel
theorem dL_due_450 : decode cL_due 450 = .ok (.invokestatic 73, 3) := by decide +kernel
theorem dL_due_453 : decode cL_due 453 = .ok (.goto 31, 3) := by decide +kernel
theorem dL_due_456 : decode cL_due 456 = .ok (.iload 6, 2) := by decide +kernel
theorem dL_due_458 : decode cL_due 458 = .ok (.iconst 2, 1) := by decide +kernel
theorem dL_due_459 : decode cL_due 459 = .ok (.if_icmp .ne 17, 3) := by decide +kernel
theorem dL_due_462 : decode cL_due 462 = .ok (.lload 22, 2) := by decide +kernel
theorem dL_due_464 : decode cL_due 464 = .ok (.lload 24, 2) := by decide +kernel
theorem dL_due_466 : decode cL_due 466 = .ok (.ladd, 1) := by decide +kernel
theorem dL_due_467 : decode cL_due 467 = .ok (.ldc2_w 71, 3) := by decide +kernel
theorem dL_due_470 : decode cL_due 470 = .ok (.invokestatic 73, 3) := by decide +kernel
theorem dL_due_473 : decode cL_due 473 = .ok (.goto 11, 3) := by decide +kernel
theorem dL_due_476 : decode cL_due 476 = .ok (.lload 18, 2) := by decide +kernel
theorem dL_due_478 : decode cL_due 478 = .ok (.iload 20, 2) := by decide +kernel
theorem dL_due_480 : decode cL_due 480 = .ok (.i2l, 1) := by decide +kernel
theorem dL_due_481 : decode cL_due 481 = .ok (.invokestatic 73, 3) := by decide +kernel
theorem dL_due_484 : decode cL_due 484 = .ok (.lreturn, 1) := by decide +kernel
theorem dL_width_0 : decode cL_width 0 = .ok (.aload_n 0, 1) := by decide +kernel
theorem dL_width_1 : decode cL_width 1 = .ok (.iconst 2, 1) := by decide +kernel
theorem dL_width_2 : decode cL_width 2 = .ok (.invokevirtual 40, 3) := by decide +kernel
theorem dL_width_5 : decode cL_width 5 = .ok (.istore_n 3, 1) := by decide +kernel
theorem dL_width_6 : decode cL_width 6 = .ok (.lconst 0, 1) := by decide +kernel
theorem dL_width_7 : decode cL_width 7 = .ok (.lstore 4, 2) := by decide +kernel
theorem dL_width_9 : decode cL_width 9 = .ok (.iconst 0, 1) := by decide +kernel
theorem dL_width_10 : decode cL_width 10 = .ok (.istore 6, 2) := by decide +kernel
theorem dL_width_12 : decode cL_width 12 = .ok (.iload 6, 2) := by decide +kernel
theorem dL_width_14 : decode cL_width 14 = .ok (.iconst 2, 1) := by decide +kernel
theorem dL_width_15 : decode cL_width 15 = .ok (.if_icmp .ge 170, 3) := by decide +kernel
theorem dL_width_18 : decode cL_width 18 = .ok (.iconst 0, 1) := by decide +kernel
theorem dL_width_19 : decode cL_width 19 = .ok (.istore 7, 2) := by decide +kernel
theorem dL_width_21 : decode cL_width 21 = .ok (.iload 7, 2) := by decide +kernel
theorem dL_width_23 : decode cL_width 23 = .ok (.iload_n 1, 1) := by decide +kernel
theorem dL_width_24 : decode cL_width 24 = .ok (.if_icmp .ge 155, 3) := by decide +kernel
theorem dL_width_27 : decode cL_width 27 = .ok (.iconst 0, 1) := by decide +kernel
theorem dL_width_28 : decode cL_width 28 = .ok (.istore 8, 2) := by decide +kernel
theorem dL_width_30 : decode cL_width 30 = .ok (.iload 8, 2) := by decide +kernel
theorem dL_width_32 : decode cL_width 32 = .ok (.iload_n 1, 1) := by decide +kernel
theorem dL_width_33 : decode cL_width 33 = .ok (.if_icmp .ge 140, 3) := by decide +kernel
theorem dL_width_36 : decode cL_width 36 = .ok (.aload_n 0, 1) := by decide +kernel
theorem dL_width_37 : decode cL_width 37 = .ok (.iload 7, 2) := by decide +kernel
theorem dL_width_39 : decode cL_width 39 = .ok (.iload_n 2, 1) := by decide +kernel
theorem dL_width_40 : decode cL_width 40 = .ok (.iload 6, 2) := by decide +kernel
theorem dL_width_42 : decode cL_width 42 = .ok (.iconst 1, 1) := by decide +kernel
theorem dL_width_43 : decode cL_width 43 = .ok (.if_icmp .ne 7, 3) := by decide +kernel
theorem dL_width_46 : decode cL_width 46 = .ok (.iconst 1, 1) := by decide +kernel
theorem dL_width_47 : decode cL_width 47 = .ok (.goto 4, 3) := by decide +kernel
theorem dL_width_50 : decode cL_width 50 = .ok (.iconst 0, 1) := by decide +kernel
theorem dL_width_51 : decode cL_width 51 = .ok (.iconst 0, 1) := by decide +kernel
theorem dL_width_52 : decode cL_width 52 = .ok (.invokevirtual 61, 3) := by decide +kernel
theorem dL_width_55 : decode cL_width 55 = .ok (.aload_n 0, 1) := by decide +kernel
theorem dL_width_56 : decode cL_width 56 = .ok (.iload 7, 2) := by decide +kernel
theorem dL_width_58 : decode cL_width 58 = .ok (.iload_n 2, 1) := by decide +kernel
theorem dL_width_59 : decode cL_width 59 = .ok (.iload 6, 2) := by decide +kernel
theorem dL_width_61 : decode cL_width 61 = .ok (.iconst 1, 1) := by decide +kernel
theorem dL_width_62 : decode cL_width 62 = .ok (.if_icmp .ne 7, 3) := by decide +kernel
theorem dL_width_65 : decode cL_width 65 = .ok (.iconst 1, 1) := by decide +kernel
theorem dL_width_66 : decode cL_width 66 = .ok (.goto 4, 3) := by decide +kernel
theorem dL_width_69 : decode cL_width 69 = .ok (.iconst 0, 1) := by decide +kernel
theorem dL_width_70 : decode cL_width 70 = .ok (.iconst 1, 1) := by decide +kernel
theorem dL_width_71 : decode cL_width 71 = .ok (.invokevirtual 61, 3) := by decide +kernel
theorem dL_width_74 : decode cL_width 74 = .ok (.iload_n 3, 1) := by decide +kernel
theorem dL_width_75 : decode cL_width 75 = .ok (.i2l, 1) := by decide +kernel
theorem dL_width_76 : decode cL_width 76 = .ok (.invokestatic 54, 3) := by decide +kernel
theorem dL_width_79 : decode cL_width 79 = .ok (.lstore 9, 2) := by decide +kernel
theorem dL_width_81 : decode cL_width 81 = .ok (.aload_n 0, 1) := by decide +kernel
theorem dL_width_82 : decode cL_width 82 = .ok (.iload 8, 2) := by decide +kernel
theorem dL_width_84 : decode cL_width 84 = .ok (.iload_n 2, 1) := by decide +kernel
theorem dL_width_85 : decode cL_width 85 = .ok (.iload 6, 2) := by decide +kernel
theorem dL_width_87 : decode cL_width 87 = .ok (.iconst 1, 1) := by decide +kernel
theorem dL_width_88 : decode cL_width 88 = .ok (.if_icmp .ne 7, 3) := by decide +kernel
theorem dL_width_91 : decode cL_width 91 = .ok (.iconst 1, 1) := by decide +kernel
theorem dL_width_92 : decode cL_width 92 = .ok (.goto 4, 3) := by decide +kernel
theorem dL_width_95 : decode cL_width 95 = .ok (.iconst 0, 1) := by decide +kernel
theorem dL_width_96 : decode cL_width 96 = .ok (.iconst 0, 1) := by decide +kernel
theorem dL_width_97 : decode cL_width 97 = .ok (.invokevirtual 61, 3) := by decide +kernel
theorem dL_width_100 : decode cL_width 100 = .ok (.aload_n 0, 1) := by decide +kernel
theorem dL_width_101 : decode cL_width 101 = .ok (.iload 8, 2) := by decide +kernel
theorem dL_width_103 : decode cL_width 103 = .ok (.iload_n 2, 1) := by decide +kernel
theorem dL_width_104 : decode cL_width 104 = .ok (.iload 6, 2) := by decide +kernel
theorem dL_width_106 : decode cL_width 106 = .ok (.iconst 1, 1) := by decide +kernel
theorem dL_width_107 : decode cL_width 107 = .ok (.if_icmp .ne 7, 3) := by decide +kernel
theorem dL_width_110 : decode cL_width 110 = .ok (.iconst 1, 1) := by decide +kernel
theorem dL_width_111 : decode cL_width 111 = .ok (.goto 4, 3) := by decide +kernel
theorem dL_width_114 : decode cL_width 114 = .ok (.iconst 0, 1) := by decide +kernel
theorem dL_width_115 : decode cL_width 115 = .ok (.iconst 1, 1) := by decide +kernel
theorem dL_width_116 : decode cL_width 116 = .ok (.invokevirtual 61, 3) := by decide +kernel
theorem dL_width_119 : decode cL_width 119 = .ok (.iload_n 3, 1) := by decide +kernel
theorem dL_width_120 : decode cL_width 120 = .ok (.i2l, 1) := by decide +kernel
theorem dL_width_121 : decode cL_width 121 = .ok (.invokestatic 54, 3) := by decide +kernel
theorem dL_width_124 : decode cL_width 124 = .ok (.lstore 11, 2) := by decide +kernel
theorem dL_width_126 : decode cL_width 126 = .ok (.lload 9, 2) := by decide +kernel
theorem dL_width_128 : decode cL_width 128 = .ok (.invokestatic 11, 3) := by decide +kernel
theorem dL_width_131 : decode cL_width 131 = .ok (.lcmp, 1) := by decide +kernel
theorem dL_width_132 : decode cL_width 132 = .ok (.ifCond .le 31, 3) := by decide +kernel
theorem dL_width_135 : decode cL_width 135 = .ok (.lload 11, 2) := by decide +kernel
theorem dL_width_137 : decode cL_width 137 = .ok (.invokestatic 11, 3) := by decide +kernel
theorem dL_width_140 : decode cL_width 140 = .ok (.lcmp, 1) := by decide +kernel
theorem dL_width_141 : decode cL_width 141 = .ok (.ifCond .le 22, 3) := by decide +kernel
theorem dL_width_144 : decode cL_width 144 = .ok (.lload 9, 2) := by decide +kernel
theorem dL_width_146 : decode cL_width 146 = .ok (.lload 11, 2) := by decide +kernel
theorem dL_width_148 : decode cL_width 148 = .ok (.lsub, 1) := by decide +kernel
theorem dL_width_149 : decode cL_width 149 = .ok (.lload 4, 2) := by decide +kernel
theorem dL_width_151 : decode cL_width 151 = .ok (.lcmp, 1) := by decide +kernel
theorem dL_width_152 : decode cL_width 152 = .ok (.ifCond .le 11, 3) := by decide +kernel
theorem dL_width_155 : decode cL_width 155 = .ok (.lload 9, 2) := by decide +kernel
theorem dL_width_157 : decode cL_width 157 = .ok (.lload 11, 2) := by decide +kernel
theorem dL_width_159 : decode cL_width 159 = .ok (.lsub, 1) := by decide +kernel
theorem dL_width_160 : decode cL_width 160 = .ok (.goto 5, 3) := by decide +kernel
theorem dL_width_163 : decode cL_width 163 = .ok (.lload 4, 2) := by decide +kernel
theorem dL_width_165 : decode cL_width 165 = .ok (.lstore 4, 2) := by decide +kernel
theorem dL_width_167 : decode cL_width 167 = .ok (.iinc 8 1, 3) := by decide +kernel
theorem dL_width_170 : decode cL_width 170 = .ok (.goto (-140), 3) := by decide +kernel
theorem dL_width_173 : decode cL_width 173 = .ok (.iinc 7 1, 3) := by decide +kernel
theorem dL_width_176 : decode cL_width 176 = .ok (.goto (-155), 3) := by decide +kernel
theorem dL_width_179 : decode cL_width 179 = .ok (.iinc 6 1, 3) := by decide +kernel
theorem dL_width_182 : decode cL_width 182 = .ok (.goto (-170), 3) := by decide +kernel
theorem dL_width_185 : decode cL_width 185 = .ok (.lload 4, 2) := by decide +kernel
theorem dL_width_187 : decode cL_width 187 = .ok (.lreturn, 1) := by decide +kernel
theorem dL_round_0 : decode cL_round 0 = .ok (.aload_n 0, 1) := by decide +kernel
theorem dL_round_1 : decode cL_round 1 = .ok (.iconst 3, 1) := by decide +kernel
theorem dL_round_2 : decode cL_round 2 = .ok (.invokevirtual 40, 3) := by decide +kernel
theorem dL_round_5 : decode cL_round 5 = .ok (.istore_n 3, 1) := by decide +kernel
theorem dL_round_6 : decode cL_round 6 = .ok (.aload_n 0, 1) := by decide +kernel
theorem dL_round_7 : decode cL_round 7 = .ok (.iconst 2, 1) := by decide +kernel
theorem dL_round_8 : decode cL_round 8 = .ok (.invokevirtual 40, 3) := by decide +kernel
theorem dL_round_11 : decode cL_round 11 = .ok (.istore 4, 2) := by decide +kernel
theorem dL_round_13 : decode cL_round 13 = .ok (.iload_n 3, 1) := by decide +kernel
theorem dL_round_14 : decode cL_round 14 = .ok (.bipush 60, 2) := by decide +kernel
theorem dL_round_16 : decode cL_round 16 = .ok (.if_icmp .ne 32, 3) := by decide +kernel
theorem dL_round_19 : decode cL_round 19 = .ok (.aload_n 0, 1) := by decide +kernel
theorem dL_round_20 : decode cL_round 20 = .ok (.iconst 1, 1) := by decide +kernel
theorem dL_round_21 : decode cL_round 21 = .ok (.invokevirtual 77, 3) := by decide +kernel
theorem dL_round_24 : decode cL_round 24 = .ok (.sipush (-1004), 3) := by decide +kernel
theorem dL_round_27 : decode cL_round 27 = .ok (.if_icmp .ne 19, 3) := by decide +kernel
theorem dL_round_30 : decode cL_round 30 = .ok (.aload_n 0, 1) := by decide +kernel
theorem dL_round_31 : decode cL_round 31 = .ok (.bipush 61, 2) := by decide +kernel
theorem dL_round_33 : decode cL_round 33 = .ok (.invokevirtual 80, 3) := by decide +kernel
theorem dL_round_36 : decode cL_round 36 = .ok (.sipush (-1002), 3) := by decide +kernel
theorem dL_round_39 : decode cL_round 39 = .ok (.if_icmp .ne 7, 3) := by decide +kernel
theorem dL_round_42 : decode cL_round 42 = .ok (.iconst 1, 1) := by decide +kernel
theorem dL_round_43 : decode cL_round 43 = .ok (.goto 4, 3) := by decide +kernel
theorem dL_round_46 : decode cL_round 46 = .ok (.iconst 0, 1) := by decide +kernel
theorem dL_round_47 : decode cL_round 47 = .ok (.ireturn, 1) := by decide +kernel
theorem dL_round_48 : decode cL_round 48 = .ok (.bipush 20, 2) := by decide +kernel
theorem dL_round_50 : decode cL_round 50 = .ok (.newarray .long, 2) := by decide +kernel
theorem dL_round_52 : decode cL_round 52 = .ok (.astore 5, 2) := by decide +kernel
theorem dL_round_54 : decode cL_round 54 = .ok (.iconst 0, 1) := by decide +kernel
theorem dL_round_55 : decode cL_round 55 = .ok (.istore 6, 2) := by decide +kernel
theorem dL_round_57 : decode cL_round 57 = .ok (.iload 6, 2) := by decide +kernel
theorem dL_round_59 : decode cL_round 59 = .ok (.iload_n 1, 1) := by decide +kernel
theorem dL_round_60 : decode cL_round 60 = .ok (.if_icmp .ge 53, 3) := by decide +kernel
theorem dL_round_63 : decode cL_round 63 = .ok (.iconst 0, 1) := by decide +kernel
theorem dL_round_64 : decode cL_round 64 = .ok (.istore 7, 2) := by decide +kernel
theorem dL_round_66 : decode cL_round 66 = .ok (.iload 7, 2) := by decide +kernel
theorem dL_round_68 : decode cL_round 68 = .ok (.iconst 2, 1) := by decide +kernel
theorem dL_round_69 : decode cL_round 69 = .ok (.if_icmp .ge 38, 3) := by decide +kernel
theorem dL_round_72 : decode cL_round 72 = .ok (.aload_n 0, 1) := by decide +kernel
theorem dL_round_73 : decode cL_round 73 = .ok (.iload 6, 2) := by decide +kernel
theorem dL_round_75 : decode cL_round 75 = .ok (.invokevirtual 58, 3) := by decide +kernel
theorem dL_round_78 : decode cL_round 78 = .ok (.ifCond .ne 29, 3) := by decide +kernel
theorem dL_round_81 : decode cL_round 81 = .ok (.aload 5, 2) := by decide +kernel
theorem dL_round_83 : decode cL_round 83 = .ok (.iconst 2, 1) := by decide +kernel
theorem dL_round_84 : decode cL_round 84 = .ok (.iload 6, 2) := by decide +kernel
theorem dL_round_86 : decode cL_round 86 = .ok (.imul, 1) := by decide +kernel
theorem dL_round_87 : decode cL_round 87 = .ok (.iload 7, 2) := by decide +kernel
theorem dL_round_89 : decode cL_round 89 = .ok (.iadd, 1) := by decide +kernel
theorem dL_round_90 : decode cL_round 90 = .ok (.aload_n 0, 1) := by decide +kernel
theorem dL_round_91 : decode cL_round 91 = .ok (.iload_n 1, 1) := by decide +kernel
theorem dL_round_92 : decode cL_round 92 = .ok (.iload_n 2, 1) := by decide +kernel
theorem dL_round_93 : decode cL_round 93 = .ok (.iload 6, 2) := by decide +kernel
theorem dL_round_95 : decode cL_round 95 = .ok (.iload 7, 2) := by decide +kernel
theorem dL_round_97 : decode cL_round 97 = .ok (.invokestatic 83, 3) := by decide +kernel
theorem dL_round_100 : decode cL_round 100 = .ok (.lastore, 1) := by decide +kernel
theorem dL_round_101 : decode cL_round 101 = .ok (.iinc 7 1, 3) := by decide +kernel
theorem dL_round_104 : decode cL_round 104 = .ok (.goto (-38), 3) := by decide +kernel
theorem dL_round_107 : decode cL_round 107 = .ok (.iinc 6 1, 3) := by decide +kernel
theorem dL_round_110 : decode cL_round 110 = .ok (.goto (-53), 3) := by decide +kernel
theorem dL_round_113 : decode cL_round 113 = .ok (.aload_n 0, 1) := by decide +kernel
theorem dL_round_114 : decode cL_round 114 = .ok (.iconst 0, 1) := by decide +kernel
theorem dL_round_115 : decode cL_round 115 = .ok (.invokevirtual 87, 3) := by decide +kernel
theorem dL_round_118 : decode cL_round 118 = .ok (.lstore 6, 2) := by decide +kernel
theorem dL_round_120 : decode cL_round 120 = .ok (.aload_n 0, 1) := by decide +kernel
theorem dL_round_121 : decode cL_round 121 = .ok (.iconst 1, 1) := by decide +kernel
theorem dL_round_122 : decode cL_round 122 = .ok (.invokevirtual 87, 3) := by decide +kernel
theorem dL_round_125 : decode cL_round 125 = .ok (.lstore 8, 2) := by decide +kernel
theorem dL_round_127 : decode cL_round 127 = .ok (.aload_n 0, 1) := by decide +kernel
theorem dL_round_128 : decode cL_round 128 = .ok (.iload_n 1, 1) := by decide +kernel
theorem dL_round_129 : decode cL_round 129 = .ok (.iload_n 3, 1) := by decide +kernel
theorem dL_round_130 : decode cL_round 130 = .ok (.invokestatic 91, 3) := by decide +kernel
theorem dL_round_133 : decode cL_round 133 = .ok (.lstore 10, 2) := by decide +kernel
theorem dL_round_135 : decode cL_round 135 = .ok (.aload_n 0, 1) := by decide +kernel
theorem dL_round_136 : decode cL_round 136 = .ok (.iconst 1, 1) := by decide +kernel
theorem dL_round_137 : decode cL_round 137 = .ok (.invokevirtual 77, 3) := by decide +kernel
theorem dL_round_140 : decode cL_round 140 = .ok (.iload_n 3, 1) := by decide +kernel
theorem dL_round_141 : decode cL_round 141 = .ok (.iconst 1, 1) := by decide +kernel
theorem dL_round_142 : decode cL_round 142 = .ok (.iadd, 1) := by decide +kernel
theorem dL_round_143 : decode cL_round 143 = .ok (.if_icmp .ne 27, 3) := by decide +kernel
theorem dL_round_146 : decode cL_round 146 = .ok (.aload_n 0, 1) := by decide +kernel
theorem dL_round_147 : decode cL_round 147 = .ok (.iload_n 3, 1) := by decide +kernel
theorem dL_round_148 : decode cL_round 148 = .ok (.iconst 0, 1) := by decide +kernel
theorem dL_round_149 : decode cL_round 149 = .ok (.invokevirtual 95, 3) := by decide +kernel
theorem dL_round_152 : decode cL_round 152 = .ok (.aload_n 0, 1) := by decide +kernel
theorem dL_round_153 : decode cL_round 153 = .ok (.iload_n 3, 1) := by decide +kernel
theorem dL_round_154 : decode cL_round 154 = .ok (.iconst 1, 1) := by decide +kernel
theorem dL_round_155 : decode cL_round 155 = .ok (.invokevirtual 95, 3) := by decide +kernel
theorem dL_round_158 : decode cL_round 158 = .ok (.iload 4, 2) := by decide +kernel
theorem dL_round_160 : decode cL_round 160 = .ok (.i2l, 1) := by decide +kernel
theorem dL_round_161 : decode cL_round 161 = .ok (.invokestatic 54, 3) := by decide +kernel
theorem dL_round_164 : decode cL_round 164 = .ok (.lload 10, 2) := by decide +kernel
theorem dL_round_166 : decode cL_round 166 = .ok (.lcmp, 1) := by decide +kernel
theorem dL_round_167 : decode cL_round 167 = .ok (.ifCond .eq 5, 3) := by decide +kernel
theorem dL_round_170 : decode cL_round 170 = .ok (.iconst 0, 1) := by decide +kernel
theorem dL_round_171 : decode cL_round 171 = .ok (.ireturn, 1) := by decide +kernel
theorem dL_round_172 : decode cL_round 172 = .ok (.iconst 0, 1) := by decide +kernel
theorem dL_round_173 : decode cL_round 173 = .ok (.istore 12, 2) := by decide +kernel
theorem dL_round_175 : decode cL_round 175 = .ok (.iload 12, 2) := by decide +kernel
theorem dL_round_177 : decode cL_round 177 = .ok (.iload_n 1, 1) := by decide +kernel
theorem dL_round_178 : decode cL_round 178 = .ok (.if_icmp .ge 113, 3) := by decide +kernel
theorem dL_round_181 : decode cL_round 181 = .ok (.iconst 0, 1) := by decide +kernel
theorem dL_round_182 : decode cL_round 182 = .ok (.istore 13, 2) := by decide +kernel
theorem dL_round_184 : decode cL_round 184 = .ok (.iload 13, 2) := by decide +kernel
theorem dL_round_186 : decode cL_round 186 = .ok (.iconst 2, 1) := by decide +kernel
theorem dL_round_187 : decode cL_round 187 = .ok (.if_icmp .ge 98, 3) := by decide +kernel
theorem dL_round_190 : decode cL_round 190 = .ok (.aload_n 0, 1) := by decide +kernel
theorem dL_round_191 : decode cL_round 191 = .ok (.iload 12, 2) := by decide +kernel
theorem dL_round_193 : decode cL_round 193 = .ok (.iload_n 3, 1) := by decide +kernel
theorem dL_round_194 : decode cL_round 194 = .ok (.iconst 1, 1) := by decide +kernel
theorem dL_round_195 : decode cL_round 195 = .ok (.iadd, 1) := by decide +kernel
theorem dL_round_196 : decode cL_round 196 = .ok (.iload 13, 2) := by decide +kernel
theorem dL_round_198 : decode cL_round 198 = .ok (.iconst 1, 1) := by decide +kernel
theorem dL_round_199 : decode cL_round 199 = .ok (.if_icmp .ne 7, 3) := by decide +kernel
theorem dL_round_202 : decode cL_round 202 = .ok (.iconst 1, 1) := by decide +kernel
theorem dL_round_203 : decode cL_round 203 = .ok (.goto 4, 3) := by decide +kernel
theorem dL_round_206 : decode cL_round 206 = .ok (.iconst 0, 1) := by decide +kernel
theorem dL_round_207 : decode cL_round 207 = .ok (.iconst 0, 1) := by decide +kernel
theorem dL_round_208 : decode cL_round 208 = .ok (.invokevirtual 61, 3) := by decide +kernel
theorem dL_round_211 : decode cL_round 211 = .ok (.aload_n 0, 1) := by decide +kernel
theorem dL_round_212 : decode cL_round 212 = .ok (.iload 12, 2) := by decide +kernel
theorem dL_round_214 : decode cL_round 214 = .ok (.iload_n 3, 1) := by decide +kernel
theorem dL_round_215 : decode cL_round 215 = .ok (.iconst 1, 1) := by decide +kernel
theorem dL_round_216 : decode cL_round 216 = .ok (.iadd, 1) := by decide +kernel
theorem dL_round_217 : decode cL_round 217 = .ok (.iload 13, 2) := by decide +kernel
theorem dL_round_219 : decode cL_round 219 = .ok (.iconst 1, 1) := by decide +kernel
theorem dL_round_220 : decode cL_round 220 = .ok (.if_icmp .ne 7, 3) := by decide +kernel
theorem dL_round_223 : decode cL_round 223 = .ok (.iconst 1, 1) := by decide +kernel
theorem dL_round_224 : decode cL_round 224 = .ok (.goto 4, 3) := by decide +kernel
theorem dL_round_227 : decode cL_round 227 = .ok (.iconst 0, 1) := by decide +kernel
theorem dL_round_228 : decode cL_round 228 = .ok (.iconst 1, 1) := by decide +kernel
theorem dL_round_229 : decode cL_round 229 = .ok (.invokevirtual 61, 3) := by decide +kernel
theorem dL_round_232 : decode cL_round 232 = .ok (.iload 4, 2) := by decide +kernel
theorem dL_round_234 : decode cL_round 234 = .ok (.i2l, 1) := by decide +kernel
theorem dL_round_235 : decode cL_round 235 = .ok (.invokestatic 54, 3) := by decide +kernel
theorem dL_round_238 : decode cL_round 238 = .ok (.lstore 14, 2) := by decide +kernel
theorem dL_round_240 : decode cL_round 240 = .ok (.aload_n 0, 1) := by decide +kernel
theorem dL_round_241 : decode cL_round 241 = .ok (.iload 12, 2) := by decide +kernel
theorem dL_round_243 : decode cL_round 243 = .ok (.invokevirtual 58, 3) := by decide +kernel
theorem dL_round_246 : decode cL_round 246 = .ok (.ifCond .le 15, 3) := by decide +kernel
theorem dL_round_249 : decode cL_round 249 = .ok (.lload 14, 2) := by decide +kernel
theorem dL_round_251 : decode cL_round 251 = .ok (.invokestatic 11, 3) := by decide +kernel
theorem dL_round_254 : decode cL_round 254 = .ok (.lcmp, 1) := by decide +kernel
theorem dL_round_255 : decode cL_round 255 = .ok (.ifCond .le 24, 3) := by decide +kernel
theorem dL_round_258 : decode cL_round 258 = .ok (.goto 19, 3) := by decide +kernel
theorem dL_round_261 : decode cL_round 261 = .ok (.lload 14, 2) := by decide +kernel
theorem dL_round_263 : decode cL_round 263 = .ok (.aload 5, 2) := by decide +kernel
theorem dL_round_265 : decode cL_round 265 = .ok (.iconst 2, 1) := by decide +kernel
theorem dL_round_266 : decode cL_round 266 = .ok (.iload 12, 2) := by decide +kernel
theorem dL_round_268 : decode cL_round 268 = .ok (.imul, 1) := by decide +kernel
theorem dL_round_269 : decode cL_round 269 = .ok (.iload 13, 2) := by decide +kernel
theorem dL_round_271 : decode cL_round 271 = .ok (.iadd, 1) := by decide +kernel
theorem dL_round_272 : decode cL_round 272 = .ok (.laload, 1) := by decide +kernel
theorem dL_round_273 : decode cL_round 273 = .ok (.lcmp, 1) := by decide +kernel
theorem dL_round_274 : decode cL_round 274 = .ok (.ifCond .eq 5, 3) := by decide +kernel
theorem dL_round_277 : decode cL_round 277 = .ok (.iconst 0, 1) := by decide +kernel
theorem dL_round_278 : decode cL_round 278 = .ok (.ireturn, 1) := by decide +kernel
theorem dL_round_279 : decode cL_round 279 = .ok (.iinc 13 1, 3) := by decide +kernel
theorem dL_round_282 : decode cL_round 282 = .ok (.goto (-98), 3) := by decide +kernel
theorem dL_round_285 : decode cL_round 285 = .ok (.iinc 12 1, 3) := by decide +kernel
theorem dL_round_288 : decode cL_round 288 = .ok (.goto (-113), 3) := by decide +kernel
theorem dL_round_291 : decode cL_round 291 = .ok (.aload_n 0, 1) := by decide +kernel
theorem dL_round_292 : decode cL_round 292 = .ok (.iload_n 1, 1) := by decide +kernel
theorem dL_round_293 : decode cL_round 293 = .ok (.iload_n 3, 1) := by decide +kernel
theorem dL_round_294 : decode cL_round 294 = .ok (.iconst 1, 1) := by decide +kernel
theorem dL_round_295 : decode cL_round 295 = .ok (.iadd, 1) := by decide +kernel
theorem dL_round_296 : decode cL_round 296 = .ok (.invokestatic 91, 3) := by decide +kernel
theorem dL_round_299 : decode cL_round 299 = .ok (.lstore 12, 2) := by decide +kernel
theorem dL_round_301 : decode cL_round 301 = .ok (.aload_n 0, 1) := by decide +kernel
theorem dL_round_302 : decode cL_round 302 = .ok (.iload_n 3, 1) := by decide +kernel
theorem dL_round_303 : decode cL_round 303 = .ok (.iconst 1, 1) := by decide +kernel
theorem dL_round_304 : decode cL_round 304 = .ok (.iadd, 1) := by decide +kernel
theorem dL_round_305 : decode cL_round 305 = .ok (.iconst 0, 1) := by decide +kernel
theorem dL_round_306 : decode cL_round 306 = .ok (.invokevirtual 95, 3) := by decide +kernel
theorem dL_round_309 : decode cL_round 309 = .ok (.aload_n 0, 1) := by decide +kernel
theorem dL_round_310 : decode cL_round 310 = .ok (.iload_n 3, 1) := by decide +kernel
theorem dL_round_311 : decode cL_round 311 = .ok (.iconst 1, 1) := by decide +kernel
theorem dL_round_312 : decode cL_round 312 = .ok (.iadd, 1) := by decide +kernel
theorem dL_round_313 : decode cL_round 313 = .ok (.iconst 1, 1) := by decide +kernel
theorem dL_round_314 : decode cL_round 314 = .ok (.invokevirtual 95, 3) := by decide +kernel
theorem dL_round_317 : decode cL_round 317 = .ok (.iload 4, 2) := by decide +kernel
theorem dL_round_319 : decode cL_round 319 = .ok (.i2l, 1) := by decide +kernel
theorem dL_round_320 : decode cL_round 320 = .ok (.invokestatic 54, 3) := by decide +kernel
theorem dL_round_323 : decode cL_round 323 = .ok (.lload 12, 2) := by decide +kernel
theorem dL_round_325 : decode cL_round 325 = .ok (.lcmp, 1) := by decide +kernel
theorem dL_round_326 : decode cL_round 326 = .ok (.ifCond .ne 29, 3) := by decide +kernel
theorem dL_round_329 : decode cL_round 329 = .ok (.lload 6, 2) := by decide +kernel
theorem dL_round_331 : decode cL_round 331 = .ok (.invokestatic 11, 3) := by decide +kernel
theorem dL_round_334 : decode cL_round 334 = .ok (.lcmp, 1) := by decide +kernel
theorem dL_round_335 : decode cL_round 335 = .ok (.ifCond .le 22, 3) := by decide +kernel
theorem dL_round_338 : decode cL_round 338 = .ok (.lload 12, 2) := by decide +kernel
theorem dL_round_340 : decode cL_round 340 = .ok (.lload 8, 2) := by decide +kernel
theorem dL_round_342 : decode cL_round 342 = .ok (.lmul, 1) := by decide +kernel
theorem dL_round_343 : decode cL_round 343 = .ok (.lload 6, 2) := by decide +kernel
theorem dL_round_345 : decode cL_round 345 = .ok (.lload 10, 2) := by decide +kernel
theorem dL_round_347 : decode cL_round 347 = .ok (.lmul, 1) := by decide +kernel
theorem dL_round_348 : decode cL_round 348 = .ok (.lload 8, 2) := by decide +kernel
theorem dL_round_350 : decode cL_round 350 = .ok (.ladd, 1) := by decide +kernel
theorem dL_round_351 : decode cL_round 351 = .ok (.lcmp, 1) := by decide +kernel
theorem dL_round_352 : decode cL_round 352 = .ok (.ifCond .le 5, 3) := by decide +kernel
theorem dL_round_355 : decode cL_round 355 = .ok (.iconst 0, 1) := by decide +kernel
theorem dL_round_356 : decode cL_round 356 = .ok (.ireturn, 1) := by decide +kernel
theorem dL_round_357 : decode cL_round 357 = .ok (.lload 10, 2) := by decide +kernel
theorem dL_round_359 : decode cL_round 359 = .ok (.lconst 0, 1) := by decide +kernel
theorem dL_round_360 : decode cL_round 360 = .ok (.lcmp, 1) := by decide +kernel
theorem dL_round_361 : decode cL_round 361 = .ok (.ifCond .ne 26, 3) := by decide +kernel
theorem dL_round_364 : decode cL_round 364 = .ok (.aload_n 0, 1) := by decide +kernel
theorem dL_round_365 : decode cL_round 365 = .ok (.iload_n 3, 1) := by decide +kernel
theorem dL_round_366 : decode cL_round 366 = .ok (.iconst 1, 1) := by decide +kernel
theorem dL_round_367 : decode cL_round 367 = .ok (.iadd, 1) := by decide +kernel
theorem dL_round_368 : decode cL_round 368 = .ok (.iconst 1, 1) := by decide +kernel
theorem dL_round_369 : decode cL_round 369 = .ok (.invokevirtual 98, 3) := by decide +kernel
theorem dL_round_372 : decode cL_round 372 = .ok (.invokestatic 11, 3) := by decide +kernel
theorem dL_round_375 : decode cL_round 375 = .ok (.lcmp, 1) := by decide +kernel
theorem dL_round_376 : decode cL_round 376 = .ok (.ifCond .ge 7, 3) := by decide +kernel
theorem dL_round_379 : decode cL_round 379 = .ok (.iconst 1, 1) := by decide +kernel
theorem dL_round_380 : decode cL_round 380 = .ok (.goto 38, 3) := by decide +kernel
theorem dL_round_383 : decode cL_round 383 = .ok (.iconst 0, 1) := by decide +kernel
theorem dL_round_384 : decode cL_round 384 = .ok (.goto 34, 3) := by decide +kernel
theorem dL_round_387 : decode cL_round 387 = .ok (.aload_n 0, 1) := by decide +kernel
theorem dL_round_388 : decode cL_round 388 = .ok (.iload_n 3, 1) := by decide +kernel
theorem dL_round_389 : decode cL_round 389 = .ok (.iconst 1, 1) := by decide +kernel
theorem dL_round_390 : decode cL_round 390 = .ok (.iadd, 1) := by decide +kernel
theorem dL_round_391 : decode cL_round 391 = .ok (.iconst 0, 1) := by decide +kernel
theorem dL_round_392 : decode cL_round 392 = .ok (.invokevirtual 98, 3) := by decide +kernel
theorem dL_round_395 : decode cL_round 395 = .ok (.lload 10, 2) := by decide +kernel
theorem dL_round_397 : decode cL_round 397 = .ok (.lmul, 1) := by decide +kernel
theorem dL_round_398 : decode cL_round 398 = .ok (.lload 12, 2) := by decide +kernel
theorem dL_round_400 : decode cL_round 400 = .ok (.aload_n 0, 1) := by decide +kernel
theorem dL_round_401 : decode cL_round 401 = .ok (.iload_n 3, 1) := by decide +kernel
theorem dL_round_402 : decode cL_round 402 = .ok (.iconst 1, 1) := by decide +kernel
theorem dL_round_403 : decode cL_round 403 = .ok (.iadd, 1) := by decide +kernel
theorem dL_round_404 : decode cL_round 404 = .ok (.iconst 1, 1) := by decide +kernel
theorem dL_round_405 : decode cL_round 405 = .ok (.invokevirtual 98, 3) := by decide +kernel
theorem dL_round_408 : decode cL_round 408 = .ok (.lmul, 1) := by decide +kernel
theorem dL_round_409 : decode cL_round 409 = .ok (.lcmp, 1) := by decide +kernel
theorem dL_round_410 : decode cL_round 410 = .ok (.ifCond .ne 7, 3) := by decide +kernel
theorem dL_round_413 : decode cL_round 413 = .ok (.iconst 1, 1) := by decide +kernel
theorem dL_round_414 : decode cL_round 414 = .ok (.goto 4, 3) := by decide +kernel
theorem dL_round_417 : decode cL_round 417 = .ok (.iconst 0, 1) := by decide +kernel
theorem dL_round_418 : decode cL_round 418 = .ok (.istore 14, 2) := by decide +kernel
theorem dL_round_420 : decode cL_round 420 = .ok (.iload 14, 2) := by decide +kernel
theorem dL_round_422 : decode cL_round 422 = .ok (.ifCond .eq 51, 3) := by decide +kernel
theorem dL_round_425 : decode cL_round 425 = .ok (.aload_n 0, 1) := by decide +kernel
theorem dL_round_426 : decode cL_round 426 = .ok (.iconst 4, 1) := by decide +kernel
theorem dL_round_427 : decode cL_round 427 = .ok (.invokevirtual 40, 3) := by decide +kernel
theorem dL_round_430 : decode cL_round 430 = .ok (.iload_n 2, 1) := by decide +kernel
theorem dL_round_431 : decode cL_round 431 = .ok (.if_icmp .gt 10, 3) := by decide +kernel
theorem dL_round_434 : decode cL_round 434 = .ok (.aload_n 0, 1) := by decide +kernel
theorem dL_round_435 : decode cL_round 435 = .ok (.invokevirtual 101, 3) := by decide +kernel
theorem dL_round_438 : decode cL_round 438 = .ok (.ifCond .ne 35, 3) := by decide +kernel
theorem dL_round_441 : decode cL_round 441 = .ok (.aload_n 0, 1) := by decide +kernel
theorem dL_round_442 : decode cL_round 442 = .ok (.iconst 0, 1) := by decide +kernel
theorem dL_round_443 : decode cL_round 443 = .ok (.iconst 1, 1) := by decide +kernel
theorem dL_round_444 : decode cL_round 444 = .ok (.invokevirtual 98, 3) := by decide +kernel
theorem dL_round_447 : decode cL_round 447 = .ok (.invokestatic 11, 3) := by decide +kernel
theorem dL_round_450 : decode cL_round 450 = .ok (.lcmp, 1) := by decide +kernel
theorem dL_round_451 : decode cL_round 451 = .ok (.ifCond .ge 22, 3) := by decide +kernel
theorem dL_round_454 : decode cL_round 454 = .ok (.aload_n 0, 1) := by decide +kernel
theorem dL_round_455 : decode cL_round 455 = .ok (.iload_n 3, 1) := by decide +kernel
theorem dL_round_456 : decode cL_round 456 = .ok (.iconst 2, 1) := by decide +kernel
theorem dL_round_457 : decode cL_round 457 = .ok (.iadd, 1) := by decide +kernel
theorem dL_round_458 : decode cL_round 458 = .ok (.iconst 1, 1) := by decide +kernel
theorem dL_round_459 : decode cL_round 459 = .ok (.invokevirtual 95, 3) := by decide +kernel
theorem dL_round_462 : decode cL_round 462 = .ok (.invokestatic 11, 3) := by decide +kernel
theorem dL_round_465 : decode cL_round 465 = .ok (.lcmp, 1) := by decide +kernel
theorem dL_round_466 : decode cL_round 466 = .ok (.ifCond .ge 7, 3) := by decide +kernel
theorem dL_round_469 : decode cL_round 469 = .ok (.iconst 1, 1) := by decide +kernel
theorem dL_round_470 : decode cL_round 470 = .ok (.goto 4, 3) := by decide +kernel
theorem dL_round_473 : decode cL_round 473 = .ok (.iconst 0, 1) := by decide +kernel
theorem dL_round_474 : decode cL_round 474 = .ok (.ireturn, 1) := by decide +kernel
theorem dL_foretells_0 : decode cL_foretells 0 = .ok (.aload_n 0, 1) := by decide +kernel
theorem dL_foretells_1 : decode cL_foretells 1 = .ok (.iconst 3, 1) := by decide +kernel
theorem dL_foretells_2 : decode cL_foretells 2 = .ok (.invokevirtual 40, 3) := by decide +kernel
theorem dL_foretells_5 : decode cL_foretells 5 = .ok (.istore 4, 2) := by decide +kernel
theorem dL_foretells_7 : decode cL_foretells 7 = .ok (.iload_n 2, 1) := by decide +kernel
theorem dL_foretells_8 : decode cL_foretells 8 = .ok (.bipush 50, 2) := by decide +kernel
theorem dL_foretells_10 : decode cL_foretells 10 = .ok (.invokestatic 32, 3) := by decide +kernel
theorem dL_foretells_13 : decode cL_foretells 13 = .ok (.istore 5, 2) := by decide +kernel
theorem dL_foretells_15 : decode cL_foretells 15 = .ok (.iconst 1, 1) := by decide +kernel
theorem dL_foretells_16 : decode cL_foretells 16 = .ok (.iload_n 2, 1) := by decide +kernel
theorem dL_foretells_17 : decode cL_foretells 17 = .ok (.bipush 6, 2) := by decide +kernel
theorem dL_foretells_19 : decode cL_foretells 19 = .ok (.ishr, 1) := by decide +kernel
theorem dL_foretells_20 : decode cL_foretells 20 = .ok (.bipush 9, 2) := by decide +kernel
theorem dL_foretells_22 : decode cL_foretells 22 = .ok (.invokestatic 32, 3) := by decide +kernel
theorem dL_foretells_25 : decode cL_foretells 25 = .ok (.iadd, 1) := by decide +kernel
theorem dL_foretells_26 : decode cL_foretells 26 = .ok (.istore 6, 2) := by decide +kernel
theorem dL_foretells_28 : decode cL_foretells 28 = .ok (.iload_n 3, 1) := by decide +kernel
theorem dL_foretells_29 : decode cL_foretells 29 = .ok (.bipush 12, 2) := by decide +kernel
theorem dL_foretells_31 : decode cL_foretells 31 = .ok (.invokestatic 32, 3) := by decide +kernel
theorem dL_foretells_34 : decode cL_foretells 34 = .ok (.istore 7, 2) := by decide +kernel
theorem dL_foretells_36 : decode cL_foretells 36 = .ok (.aload_n 0, 1) := by decide +kernel
theorem dL_foretells_37 : decode cL_foretells 37 = .ok (.iload 5, 2) := by decide +kernel
theorem dL_foretells_39 : decode cL_foretells 39 = .ok (.iload 6, 2) := by decide +kernel
theorem dL_foretells_41 : decode cL_foretells 41 = .ok (.iload 7, 2) := by decide +kernel
theorem dL_foretells_43 : decode cL_foretells 43 = .ok (.invokevirtual 104, 3) := by decide +kernel
theorem dL_foretells_46 : decode cL_foretells 46 = .ok (.istore 8, 2) := by decide +kernel
theorem dL_foretells_48 : decode cL_foretells 48 = .ok (.aload_n 0, 1) := by decide +kernel
theorem dL_foretells_49 : decode cL_foretells 49 = .ok (.iconst 3, 1) := by decide +kernel
theorem dL_foretells_50 : decode cL_foretells 50 = .ok (.invokevirtual 40, 3) := by decide +kernel
theorem dL_foretells_53 : decode cL_foretells 53 = .ok (.iload 4, 2) := by decide +kernel
theorem dL_foretells_55 : decode cL_foretells 55 = .ok (.if_icmp .eq 5, 3) := by decide +kernel
theorem dL_foretells_58 : decode cL_foretells 58 = .ok (.iconst 0, 1) := by decide +kernel
theorem dL_foretells_59 : decode cL_foretells 59 = .ok (.ireturn, 1) := by decide +kernel
theorem dL_foretells_60 : decode cL_foretells 60 = .ok (.aload_n 0, 1) := by decide +kernel
theorem dL_foretells_61 : decode cL_foretells 61 = .ok (.iload 5, 2) := by decide +kernel
theorem dL_foretells_63 : decode cL_foretells 63 = .ok (.iload 6, 2) := by decide +kernel
theorem dL_foretells_65 : decode cL_foretells 65 = .ok (.iload 7, 2) := by decide +kernel
theorem dL_foretells_67 : decode cL_foretells 67 = .ok (.invokevirtual 108, 3) := by decide +kernel
theorem dL_foretells_70 : decode cL_foretells 70 = .ok (.istore 9, 2) := by decide +kernel
theorem dL_foretells_72 : decode cL_foretells 72 = .ok (.aload_n 0, 1) := by decide +kernel
theorem dL_foretells_73 : decode cL_foretells 73 = .ok (.iconst 2, 1) := by decide +kernel
theorem dL_foretells_74 : decode cL_foretells 74 = .ok (.invokevirtual 40, 3) := by decide +kernel
theorem dL_foretells_77 : decode cL_foretells 77 = .ok (.i2l, 1) := by decide +kernel
theorem dL_foretells_78 : decode cL_foretells 78 = .ok (.lstore 10, 2) := by decide +kernel
theorem dL_foretells_80 : decode cL_foretells 80 = .ok (.iload 9, 2) := by decide +kernel
theorem dL_foretells_82 : decode cL_foretells 82 = .ok (.iload 8, 2) := by decide +kernel
theorem dL_foretells_84 : decode cL_foretells 84 = .ok (.if_icmp .ne 99, 3) := by decide +kernel
theorem dL_foretells_87 : decode cL_foretells 87 = .ok (.iload 9, 2) := by decide +kernel
theorem dL_foretells_89 : decode cL_foretells 89 = .ok (.ifCond .lt 71, 3) := by decide +kernel
theorem dL_foretells_92 : decode cL_foretells 92 = .ok (.aload_n 0, 1) := by decide +kernel
theorem dL_foretells_93 : decode cL_foretells 93 = .ok (.iconst 3, 1) := by decide +kernel
theorem dL_foretells_94 : decode cL_foretells 94 = .ok (.invokevirtual 40, 3) := by decide +kernel
theorem dL_foretells_97 : decode cL_foretells 97 = .ok (.iload 4, 2) := by decide +kernel
theorem dL_foretells_99 : decode cL_foretells 99 = .ok (.iload 9, 2) := by decide +kernel
theorem dL_foretells_101 : decode cL_foretells 101 = .ok (.iadd, 1) := by decide +kernel
theorem dL_foretells_102 : decode cL_foretells 102 = .ok (.if_icmp .ne 81, 3) := by decide +kernel
theorem dL_foretells_105 : decode cL_foretells 105 = .ok (.aload_n 0, 1) := by decide +kernel
theorem dL_foretells_106 : decode cL_foretells 106 = .ok (.iload_n 1, 1) := by decide +kernel
theorem dL_foretells_107 : decode cL_foretells 107 = .ok (.iload 4, 2) := by decide +kernel
theorem dL_foretells_109 : decode cL_foretells 109 = .ok (.iload 9, 2) := by decide +kernel
theorem dL_foretells_111 : decode cL_foretells 111 = .ok (.iadd, 1) := by decide +kernel
theorem dL_foretells_112 : decode cL_foretells 112 = .ok (.invokestatic 91, 3) := by decide +kernel
theorem dL_foretells_115 : decode cL_foretells 115 = .ok (.iload 6, 2) := by decide +kernel
theorem dL_foretells_117 : decode cL_foretells 117 = .ok (.i2l, 1) := by decide +kernel
theorem dL_foretells_118 : decode cL_foretells 118 = .ok (.lmul, 1) := by decide +kernel
theorem dL_foretells_119 : decode cL_foretells 119 = .ok (.iload 5, 2) := by decide +kernel
theorem dL_foretells_121 : decode cL_foretells 121 = .ok (.i2l, 1) := by decide +kernel
theorem dL_foretells_122 : decode cL_foretells 122 = .ok (.lload 10, 2) := by decide +kernel
theorem dL_foretells_124 : decode cL_foretells 124 = .ok (.lmul, 1) := by decide +kernel
theorem dL_foretells_125 : decode cL_foretells 125 = .ok (.lcmp, 1) := by decide +kernel
theorem dL_foretells_126 : decode cL_foretells 126 = .ok (.ifCond .gt 57, 3) := by decide +kernel
theorem dL_foretells_129 : decode cL_foretells 129 = .ok (.iload 9, 2) := by decide +kernel
theorem dL_foretells_131 : decode cL_foretells 131 = .ok (.ifCond .le 29, 3) := by decide +kernel
theorem dL_foretells_134 : decode cL_foretells 134 = .ok (.aload_n 0, 1) := by decide +kernel
theorem dL_foretells_135 : decode cL_foretells 135 = .ok (.iload_n 1, 1) := by decide +kernel
theorem dL_foretells_136 : decode cL_foretells 136 = .ok (.iload 4, 2) := by decide +kernel
theorem dL_foretells_138 : decode cL_foretells 138 = .ok (.iload 9, 2) := by decide +kernel
theorem dL_foretells_140 : decode cL_foretells 140 = .ok (.iadd, 1) := by decide +kernel
theorem dL_foretells_141 : decode cL_foretells 141 = .ok (.iconst 1, 1) := by decide +kernel
theorem dL_foretells_142 : decode cL_foretells 142 = .ok (.isub, 1) := by decide +kernel
theorem dL_foretells_143 : decode cL_foretells 143 = .ok (.invokestatic 91, 3) := by decide +kernel
theorem dL_foretells_146 : decode cL_foretells 146 = .ok (.iload 6, 2) := by decide +kernel
theorem dL_foretells_148 : decode cL_foretells 148 = .ok (.i2l, 1) := by decide +kernel
theorem dL_foretells_149 : decode cL_foretells 149 = .ok (.lmul, 1) := by decide +kernel
theorem dL_foretells_150 : decode cL_foretells 150 = .ok (.iload 5, 2) := by decide +kernel
theorem dL_foretells_152 : decode cL_foretells 152 = .ok (.i2l, 1) := by decide +kernel
theorem dL_foretells_153 : decode cL_foretells 153 = .ok (.lload 10, 2) := by decide +kernel
theorem dL_foretells_155 : decode cL_foretells 155 = .ok (.lmul, 1) := by decide +kernel
theorem dL_foretells_156 : decode cL_foretells 156 = .ok (.lcmp, 1) := by decide +kernel
theorem dL_foretells_157 : decode cL_foretells 157 = .ok (.ifCond .le 26, 3) := by decide +kernel
theorem dL_foretells_160 : decode cL_foretells 160 = .ok (.iload 9, 2) := by decide +kernel
theorem dL_foretells_162 : decode cL_foretells 162 = .ok (.ifCond .ge 23, 3) := by decide +kernel
theorem dL_foretells_165 : decode cL_foretells 165 = .ok (.iload 9, 2) := by decide +kernel
theorem dL_foretells_167 : decode cL_foretells 167 = .ok (.sipush (-1005), 3) := by decide +kernel
theorem dL_foretells_170 : decode cL_foretells 170 = .ok (.if_icmp .ne 13, 3) := by decide +kernel
theorem dL_foretells_173 : decode cL_foretells 173 = .ok (.aload_n 0, 1) := by decide +kernel
theorem dL_foretells_174 : decode cL_foretells 174 = .ok (.iconst 3, 1) := by decide +kernel
theorem dL_foretells_175 : decode cL_foretells 175 = .ok (.invokevirtual 40, 3) := by decide +kernel
theorem dL_foretells_178 : decode cL_foretells 178 = .ok (.iload 4, 2) := by decide +kernel
theorem dL_foretells_180 : decode cL_foretells 180 = .ok (.if_icmp .eq 5, 3) := by decide +kernel
theorem dL_foretells_183 : decode cL_foretells 183 = .ok (.iconst 0, 1) := by decide +kernel
theorem dL_foretells_184 : decode cL_foretells 184 = .ok (.ireturn, 1) := by decide +kernel
theorem dL_foretells_185 : decode cL_foretells 185 = .ok (.iload 9, 2) := by decide +kernel
theorem dL_foretells_187 : decode cL_foretells 187 = .ok (.ifCond .le 8, 3) := by decide +kernel
theorem dL_foretells_190 : decode cL_foretells 190 = .ok (.iload 9, 2) := by decide +kernel
theorem dL_foretells_192 : decode cL_foretells 192 = .ok (.goto 4, 3) := by decide +kernel
theorem dL_foretells_195 : decode cL_foretells 195 = .ok (.iconst 0, 1) := by decide +kernel
theorem dL_foretells_196 : decode cL_foretells 196 = .ok (.istore 12, 2) := by decide +kernel
theorem dL_foretells_198 : decode cL_foretells 198 = .ok (.aload_n 0, 1) := by decide +kernel
theorem dL_foretells_199 : decode cL_foretells 199 = .ok (.iload 12, 2) := by decide +kernel
theorem dL_foretells_201 : decode cL_foretells 201 = .ok (.invokevirtual 80, 3) := by decide +kernel
theorem dL_foretells_204 : decode cL_foretells 204 = .ok (.iload 4, 2) := by decide +kernel
theorem dL_foretells_206 : decode cL_foretells 206 = .ok (.if_icmp .ne 30, 3) := by decide +kernel
theorem dL_foretells_209 : decode cL_foretells 209 = .ok (.aload_n 0, 1) := by decide +kernel
theorem dL_foretells_210 : decode cL_foretells 210 = .ok (.iconst 1, 1) := by decide +kernel
theorem dL_foretells_211 : decode cL_foretells 211 = .ok (.iconst 0, 1) := by decide +kernel
theorem dL_foretells_212 : decode cL_foretells 212 = .ok (.iconst 1, 1) := by decide +kernel
theorem dL_foretells_213 : decode cL_foretells 213 = .ok (.invokevirtual 108, 3) := by decide +kernel
theorem dL_foretells_216 : decode cL_foretells 216 = .ok (.sipush (-1002), 3) := by decide +kernel
theorem dL_foretells_219 : decode cL_foretells 219 = .ok (.if_icmp .ne 17, 3) := by decide +kernel
theorem dL_foretells_222 : decode cL_foretells 222 = .ok (.aload_n 0, 1) := by decide +kernel
theorem dL_foretells_223 : decode cL_foretells 223 = .ok (.iconst 0, 1) := by decide +kernel
theorem dL_foretells_224 : decode cL_foretells 224 = .ok (.iconst 1, 1) := by decide +kernel
theorem dL_foretells_225 : decode cL_foretells 225 = .ok (.bipush 61, 2) := by decide +kernel
theorem dL_foretells_227 : decode cL_foretells 227 = .ok (.invokevirtual 104, 3) := by decide +kernel
theorem dL_foretells_230 : decode cL_foretells 230 = .ok (.sipush (-1002), 3) := by decide +kernel
theorem dL_foretells_233 : decode cL_foretells 233 = .ok (.if_icmp .eq 5, 3) := by decide +kernel
theorem dL_foretells_236 : decode cL_foretells 236 = .ok (.iconst 0, 1) := by decide +kernel
theorem dL_foretells_237 : decode cL_foretells 237 = .ok (.ireturn, 1) := by decide +kernel
theorem dL_foretells_238 : decode cL_foretells 238 = .ok (.iconst 1, 1) := by decide +kernel
theorem dL_foretells_239 : decode cL_foretells 239 = .ok (.iload_n 3, 1) := by decide +kernel
theorem dL_foretells_240 : decode cL_foretells 240 = .ok (.iconst 5, 1) := by decide +kernel
theorem dL_foretells_241 : decode cL_foretells 241 = .ok (.ishr, 1) := by decide +kernel
theorem dL_foretells_242 : decode cL_foretells 242 = .ok (.iconst 5, 1) := by decide +kernel
theorem dL_foretells_243 : decode cL_foretells 243 = .ok (.invokestatic 32, 3) := by decide +kernel
theorem dL_foretells_246 : decode cL_foretells 246 = .ok (.iadd, 1) := by decide +kernel
theorem dL_foretells_247 : decode cL_foretells 247 = .ok (.istore 13, 2) := by decide +kernel
theorem dL_foretells_249 : decode cL_foretells 249 = .ok (.aload_n 0, 1) := by decide +kernel
theorem dL_foretells_250 : decode cL_foretells 250 = .ok (.iload 13, 2) := by decide +kernel
theorem dL_foretells_252 : decode cL_foretells 252 = .ok (.invokevirtual 111, 3) := by decide +kernel
theorem dL_foretells_255 : decode cL_foretells 255 = .ok (.istore 14, 2) := by decide +kernel
theorem dL_foretells_257 : decode cL_foretells 257 = .ok (.iload 4, 2) := by decide +kernel
theorem dL_foretells_259 : decode cL_foretells 259 = .ok (.iload 13, 2) := by decide +kernel
theorem dL_foretells_261 : decode cL_foretells 261 = .ok (.iadd, 1) := by decide +kernel
theorem dL_foretells_262 : decode cL_foretells 262 = .ok (.bipush 60, 2) := by decide +kernel
theorem dL_foretells_264 : decode cL_foretells 264 = .ok (.if_icmp .le 17, 3) := by decide +kernel
theorem dL_foretells_267 : decode cL_foretells 267 = .ok (.iload 14, 2) := by decide +kernel
theorem dL_foretells_269 : decode cL_foretells 269 = .ok (.sipush (-1004), 3) := by decide +kernel
theorem dL_foretells_272 : decode cL_foretells 272 = .ok (.if_icmp .ne 7, 3) := by decide +kernel
theorem dL_foretells_275 : decode cL_foretells 275 = .ok (.iconst 1, 1) := by decide +kernel
theorem dL_foretells_276 : decode cL_foretells 276 = .ok (.goto 4, 3) := by decide +kernel
theorem dL_foretells_279 : decode cL_foretells 279 = .ok (.iconst 0, 1) := by decide +kernel
theorem dL_foretells_280 : decode cL_foretells 280 = .ok (.ireturn, 1) := by decide +kernel
theorem dL_foretells_281 : decode cL_foretells 281 = .ok (.aload_n 0, 1) := by decide +kernel
theorem dL_foretells_282 : decode cL_foretells 282 = .ok (.iconst 5, 1) := by decide +kernel
theorem dL_foretells_283 : decode cL_foretells 283 = .ok (.invokevirtual 40, 3) := by decide +kernel
theorem dL_foretells_286 : decode cL_foretells 286 = .ok (.istore 15, 2) := by decide +kernel
theorem dL_foretells_288 : decode cL_foretells 288 = .ok (.iconst (-1), 1) := by decide +kernel
theorem dL_foretells_289 : decode cL_foretells 289 = .ok (.istore 16, 2) := by decide +kernel
theorem dL_foretells_291 : decode cL_foretells 291 = .ok (.lconst 0, 1) := by decide +kernel
theorem dL_foretells_292 : decode cL_foretells 292 = .ok (.lstore 17, 2) := by decide +kernel
theorem dL_foretells_294 : decode cL_foretells 294 = .ok (.iconst 0, 1) := by decide +kernel
theorem dL_foretells_295 : decode cL_foretells 295 = .ok (.istore 19, 2) := by decide +kernel
theorem dL_foretells_297 : decode cL_foretells 297 = .ok (.iload 19, 2) := by decide +kernel
theorem dL_foretells_299 : decode cL_foretells 299 = .ok (.iconst 4, 1) := by decide +kernel
theorem dL_foretells_300 : decode cL_foretells 300 = .ok (.if_icmp .ge 89, 3) := by decide +kernel
theorem dL_foretells_303 : decode cL_foretells 303 = .ok (.aload_n 0, 1) := by decide +kernel
theorem dL_foretells_304 : decode cL_foretells 304 = .ok (.iload 19, 2) := by decide +kernel
theorem dL_foretells_306 : decode cL_foretells 306 = .ok (.invokevirtual 114, 3) := by decide +kernel
theorem dL_foretells_309 : decode cL_foretells 309 = .ok (.pop, 1) := by decide +kernel
theorem dL_foretells_310 : decode cL_foretells 310 = .ok (.aload_n 0, 1) := by decide +kernel
theorem dL_foretells_311 : decode cL_foretells 311 = .ok (.iload 13, 2) := by decide +kernel
theorem dL_foretells_313 : decode cL_foretells 313 = .ok (.invokevirtual 77, 3) := by decide +kernel
theorem dL_foretells_316 : decode cL_foretells 316 = .ok (.iload 4, 2) := by decide +kernel
theorem dL_foretells_318 : decode cL_foretells 318 = .ok (.iload 13, 2) := by decide +kernel
theorem dL_foretells_320 : decode cL_foretells 320 = .ok (.iadd, 1) := by decide +kernel
theorem dL_foretells_321 : decode cL_foretells 321 = .ok (.if_icmp .eq 5, 3) := by decide +kernel
theorem dL_foretells_324 : decode cL_foretells 324 = .ok (.iconst 0, 1) := by decide +kernel
theorem dL_foretells_325 : decode cL_foretells 325 = .ok (.ireturn, 1) := by decide +kernel
theorem dL_foretells_326 : decode cL_foretells 326 = .ok (.aload_n 0, 1) := by decide +kernel
theorem dL_foretells_327 : decode cL_foretells 327 = .ok (.iload_n 1, 1) := by decide +kernel
theorem dL_foretells_328 : decode cL_foretells 328 = .ok (.iload 4, 2) := by decide +kernel
theorem dL_foretells_330 : decode cL_foretells 330 = .ok (.iload 13, 2) := by decide +kernel
theorem dL_foretells_332 : decode cL_foretells 332 = .ok (.iadd, 1) := by decide +kernel
theorem dL_foretells_333 : decode cL_foretells 333 = .ok (.invokestatic 91, 3) := by decide +kernel
theorem dL_foretells_336 : decode cL_foretells 336 = .ok (.lstore 20, 2) := by decide +kernel
theorem dL_foretells_338 : decode cL_foretells 338 = .ok (.iload 16, 2) := by decide +kernel
theorem dL_foretells_340 : decode cL_foretells 340 = .ok (.ifCond .lt 11, 3) := by decide +kernel
theorem dL_foretells_343 : decode cL_foretells 343 = .ok (.lload 20, 2) := by decide +kernel
theorem dL_foretells_345 : decode cL_foretells 345 = .ok (.lload 17, 2) := by decide +kernel
theorem dL_foretells_347 : decode cL_foretells 347 = .ok (.lcmp, 1) := by decide +kernel
theorem dL_foretells_348 : decode cL_foretells 348 = .ok (.ifCond .ge 8, 3) := by decide +kernel
theorem dL_foretells_351 : decode cL_foretells 351 = .ok (.iload 19, 2) := by decide +kernel
theorem dL_foretells_353 : decode cL_foretells 353 = .ok (.goto 5, 3) := by decide +kernel
theorem dL_foretells_356 : decode cL_foretells 356 = .ok (.iload 16, 2) := by decide +kernel
theorem dL_foretells_358 : decode cL_foretells 358 = .ok (.istore 16, 2) := by decide +kernel
theorem dL_foretells_360 : decode cL_foretells 360 = .ok (.iload 16, 2) := by decide +kernel
theorem dL_foretells_362 : decode cL_foretells 362 = .ok (.iload 19, 2) := by decide +kernel
theorem dL_foretells_364 : decode cL_foretells 364 = .ok (.if_icmp .ne 8, 3) := by decide +kernel
theorem dL_foretells_367 : decode cL_foretells 367 = .ok (.lload 20, 2) := by decide +kernel
theorem dL_foretells_369 : decode cL_foretells 369 = .ok (.goto 5, 3) := by decide +kernel
theorem dL_foretells_372 : decode cL_foretells 372 = .ok (.lload 17, 2) := by decide +kernel
theorem dL_foretells_374 : decode cL_foretells 374 = .ok (.lstore 17, 2) := by decide +kernel
theorem dL_foretells_376 : decode cL_foretells 376 = .ok (.aload_n 0, 1) := by decide +kernel
theorem dL_foretells_377 : decode cL_foretells 377 = .ok (.iload 13, 2) := by decide +kernel
theorem dL_foretells_379 : decode cL_foretells 379 = .ok (.invokevirtual 80, 3) := by decide +kernel
theorem dL_foretells_382 : decode cL_foretells 382 = .ok (.pop, 1) := by decide +kernel
theorem dL_foretells_383 : decode cL_foretells 383 = .ok (.iinc 19 1, 3) := by decide +kernel
theorem dL_foretells_386 : decode cL_foretells 386 = .ok (.goto (-89), 3) := by decide +kernel
theorem dL_foretells_389 : decode cL_foretells 389 = .ok (.iload_n 3, 1) := by decide +kernel
theorem dL_foretells_390 : decode cL_foretells 390 = .ok (.bipush 9, 2) := by decide +kernel
theorem dL_foretells_392 : decode cL_foretells 392 = .ok (.ishr, 1) := by decide +kernel
theorem dL_foretells_393 : decode cL_foretells 393 = .ok (.iload_n 1, 1) := by decide +kernel
theorem dL_foretells_394 : decode cL_foretells 394 = .ok (.invokestatic 32, 3) := by decide +kernel
theorem dL_foretells_397 : decode cL_foretells 397 = .ok (.istore 19, 2) := by decide +kernel
theorem dL_foretells_399 : decode cL_foretells 399 = .ok (.aload_n 0, 1) := by decide +kernel
theorem dL_foretells_400 : decode cL_foretells 400 = .ok (.iload 19, 2) := by decide +kernel
theorem dL_foretells_402 : decode cL_foretells 402 = .ok (.iload 13, 2) := by decide +kernel
theorem dL_foretells_404 : decode cL_foretells 404 = .ok (.invokevirtual 117, 3) := by decide +kernel
theorem dL_foretells_407 : decode cL_foretells 407 = .ok (.istore 20, 2) := by decide +kernel
theorem dL_foretells_409 : decode cL_foretells 409 = .ok (.aload_n 0, 1) := by decide +kernel
theorem dL_foretells_410 : decode cL_foretells 410 = .ok (.iload 19, 2) := by decide +kernel
theorem dL_foretells_412 : decode cL_foretells 412 = .ok (.invokevirtual 58, 3) := by decide +kernel
theorem dL_foretells_415 : decode cL_foretells 415 = .ok (.ifCond .ne 19, 3) := by decide +kernel
theorem dL_foretells_418 : decode cL_foretells 418 = .ok (.iload 20, 2) := by decide +kernel
theorem dL_foretells_420 : decode cL_foretells 420 = .ok (.sipush (-1003), 3) := by decide +kernel
theorem dL_foretells_423 : decode cL_foretells 423 = .ok (.if_icmp .ne 7, 3) := by decide +kernel
theorem dL_foretells_426 : decode cL_foretells 426 = .ok (.iconst 1, 1) := by decide +kernel
theorem dL_foretells_427 : decode cL_foretells 427 = .ok (.goto 24, 3) := by decide +kernel
theorem dL_foretells_430 : decode cL_foretells 430 = .ok (.iconst 0, 1) := by decide +kernel
theorem dL_foretells_431 : decode cL_foretells 431 = .ok (.goto 20, 3) := by decide +kernel
theorem dL_foretells_434 : decode cL_foretells 434 = .ok (.iload 20, 2) := by decide +kernel
theorem dL_foretells_436 : decode cL_foretells 436 = .ok (.iconst 1, 1) := by decide +kernel
theorem dL_foretells_437 : decode cL_foretells 437 = .ok (.if_icmp .lt 13, 3) := by decide +kernel
theorem dL_foretells_440 : decode cL_foretells 440 = .ok (.iload 20, 2) := by decide +kernel
theorem dL_foretells_442 : decode cL_foretells 442 = .ok (.iconst 5, 1) := by decide +kernel
theorem dL_foretells_443 : decode cL_foretells 443 = .ok (.if_icmp .gt 7, 3) := by decide +kernel
theorem dL_foretells_446 : decode cL_foretells 446 = .ok (.iconst 1, 1) := by decide +kernel
theorem dL_foretells_447 : decode cL_foretells 447 = .ok (.goto 4, 3) := by decide +kernel
theorem dL_foretells_450 : decode cL_foretells 450 = .ok (.iconst 0, 1) := by decide +kernel
theorem dL_foretells_451 : decode cL_foretells 451 = .ok (.istore 21, 2) := by decide +kernel
theorem dL_foretells_453 : decode cL_foretells 453 = .ok (.aload_n 0, 1) := by decide +kernel
theorem dL_foretells_454 : decode cL_foretells 454 = .ok (.iload 15, 2) := by decide +kernel
theorem dL_foretells_456 : decode cL_foretells 456 = .ok (.invokevirtual 114, 3) := by decide +kernel
theorem dL_foretells_459 : decode cL_foretells 459 = .ok (.iconst 3, 1) := by decide +kernel
theorem dL_foretells_460 : decode cL_foretells 460 = .ok (.if_icmp .ne 56, 3) := by decide +kernel
theorem dL_foretells_463 : decode cL_foretells 463 = .ok (.iload 16, 2) := by decide +kernel
theorem dL_foretells_465 : decode cL_foretells 465 = .ok (.iload 14, 2) := by decide +kernel
theorem dL_foretells_467 : decode cL_foretells 467 = .ok (.if_icmp .ne 49, 3) := by decide +kernel
theorem dL_foretells_470 : decode cL_foretells 470 = .ok (.iload 21, 2) := by decide +kernel
theorem dL_foretells_472 : decode cL_foretells 472 = .ok (.ifCond .eq 44, 3) := by decide +kernel
theorem dL_foretells_475 : decode cL_foretells 475 = .ok (.aload_n 0, 1) := by decide +kernel
theorem dL_foretells_476 : decode cL_foretells 476 = .ok (.iload_n 1, 1) := by decide +kernel
theorem dL_foretells_477 : decode cL_foretells 477 = .ok (.iconst 1, 1) := by decide +kernel
theorem dL_foretells_478 : decode cL_foretells 478 = .ok (.invokevirtual 117, 3) := by decide +kernel
theorem dL_foretells_481 : decode cL_foretells 481 = .ok (.sipush (-1001), 3) := by decide +kernel
theorem dL_foretells_484 : decode cL_foretells 484 = .ok (.if_icmp .ne 32, 3) := by decide +kernel
theorem dL_foretells_487 : decode cL_foretells 487 = .ok (.aload_n 0, 1) := by decide +kernel
theorem dL_foretells_488 : decode cL_foretells 488 = .ok (.iload 19, 2) := by decide +kernel
theorem dL_foretells_490 : decode cL_foretells 490 = .ok (.bipush 11, 2) := by decide +kernel
theorem dL_foretells_492 : decode cL_foretells 492 = .ok (.invokevirtual 117, 3) := by decide +kernel
theorem dL_foretells_495 : decode cL_foretells 495 = .ok (.sipush (-1002), 3) := by decide +kernel
theorem dL_foretells_498 : decode cL_foretells 498 = .ok (.if_icmp .ne 18, 3) := by decide +kernel
theorem dL_foretells_501 : decode cL_foretells 501 = .ok (.aload_n 0, 1) := by decide +kernel
theorem dL_foretells_502 : decode cL_foretells 502 = .ok (.iconst 0, 1) := by decide +kernel
theorem dL_foretells_503 : decode cL_foretells 503 = .ok (.invokevirtual 111, 3) := by decide +kernel
theorem dL_foretells_506 : decode cL_foretells 506 = .ok (.sipush (-1002), 3) := by decide +kernel
theorem dL_foretells_509 : decode cL_foretells 509 = .ok (.if_icmp .ne 7, 3) := by decide +kernel
theorem dL_foretells_512 : decode cL_foretells 512 = .ok (.iconst 1, 1) := by decide +kernel
theorem dL_foretells_513 : decode cL_foretells 513 = .ok (.goto 4, 3) := by decide +kernel
theorem dL_foretells_516 : decode cL_foretells 516 = .ok (.iconst 0, 1) := by decide +kernel
theorem dL_foretells_517 : decode cL_foretells 517 = .ok (.ireturn, 1) := by decide +kernel
theorem dL_law_0 : decode cL_law 0 = .ok (.new 19, 3) := by decide +kernel
theorem dL_law_3 : decode cL_law 3 = .ok (.dup, 1) := by decide +kernel
theorem dL_law_4 : decode cL_law 4 = .ok (.invokespecial 120, 3) := by decide +kernel
theorem dL_law_7 : decode cL_law 7 = .ok (.astore_n 1, 1) := by decide +kernel
theorem dL_law_8 : decode cL_law 8 = .ok (.aload_n 0, 1) := by decide +kernel
theorem dL_law_9 : decode cL_law 9 = .ok (.iconst 0, 1) := by decide +kernel
theorem dL_law_10 : decode cL_law 10 = .ok (.invokestatic 121, 3) := by decide +kernel
theorem dL_law_13 : decode cL_law 13 = .ok (.istore_n 2, 1) := by decide +kernel
theorem dL_law_14 : decode cL_law 14 = .ok (.iconst 2, 1) := by decide +kernel
theorem dL_law_15 : decode cL_law 15 = .ok (.iload_n 2, 1) := by decide +kernel
theorem dL_law_16 : decode cL_law 16 = .ok (.bipush 9, 2) := by decide +kernel
theorem dL_law_18 : decode cL_law 18 = .ok (.invokestatic 32, 3) := by decide +kernel
theorem dL_law_21 : decode cL_law 21 = .ok (.iadd, 1) := by decide +kernel
theorem dL_law_22 : decode cL_law 22 = .ok (.istore_n 3, 1) := by decide +kernel
theorem dL_law_23 : decode cL_law 23 = .ok (.iload_n 2, 1) := by decide +kernel
theorem dL_law_24 : decode cL_law 24 = .ok (.iconst 5, 1) := by decide +kernel
theorem dL_law_25 : decode cL_law 25 = .ok (.ishr, 1) := by decide +kernel
theorem dL_law_26 : decode cL_law 26 = .ok (.iconst 4, 1) := by decide +kernel
theorem dL_law_27 : decode cL_law 27 = .ok (.invokestatic 32, 3) := by decide +kernel
theorem dL_law_30 : decode cL_law 30 = .ok (.istore 4, 2) := by decide +kernel
theorem dL_law_32 : decode cL_law 32 = .ok (.iload_n 2, 1) := by decide +kernel
theorem dL_law_33 : decode cL_law 33 = .ok (.bipush 9, 2) := by decide +kernel
theorem dL_law_35 : decode cL_law 35 = .ok (.ishr, 1) := by decide +kernel
theorem dL_law_36 : decode cL_law 36 = .ok (.iconst 5, 1) := by decide +kernel
theorem dL_law_37 : decode cL_law 37 = .ok (.invokestatic 32, 3) := by decide +kernel
theorem dL_law_40 : decode cL_law 40 = .ok (.istore 5, 2) := by decide +kernel
theorem dL_law_42 : decode cL_law 42 = .ok (.iload 5, 2) := by decide +kernel
theorem dL_law_44 : decode cL_law 44 = .ok (.ifCond .ne 7, 3) := by decide +kernel
theorem dL_law_47 : decode cL_law 47 = .ok (.iconst 1, 1) := by decide +kernel
theorem dL_law_48 : decode cL_law 48 = .ok (.goto 39, 3) := by decide +kernel
theorem dL_law_51 : decode cL_law 51 = .ok (.iload 5, 2) := by decide +kernel
theorem dL_law_53 : decode cL_law 53 = .ok (.iconst 1, 1) := by decide +kernel
theorem dL_law_54 : decode cL_law 54 = .ok (.if_icmp .ne 8, 3) := by decide +kernel
theorem dL_law_57 : decode cL_law 57 = .ok (.bipush 6, 2) := by decide +kernel
theorem dL_law_59 : decode cL_law 59 = .ok (.goto 28, 3) := by decide +kernel
theorem dL_law_62 : decode cL_law 62 = .ok (.iload 5, 2) := by decide +kernel
theorem dL_law_64 : decode cL_law 64 = .ok (.iconst 2, 1) := by decide +kernel
theorem dL_law_65 : decode cL_law 65 = .ok (.if_icmp .ne 8, 3) := by decide +kernel
theorem dL_law_68 : decode cL_law 68 = .ok (.bipush 60, 2) := by decide +kernel
theorem dL_law_70 : decode cL_law 70 = .ok (.goto 17, 3) := by decide +kernel
theorem dL_law_73 : decode cL_law 73 = .ok (.iload 5, 2) := by decide +kernel
theorem dL_law_75 : decode cL_law 75 = .ok (.iconst 3, 1) := by decide +kernel
theorem dL_law_76 : decode cL_law 76 = .ok (.if_icmp .ne 9, 3) := by decide +kernel
theorem dL_law_79 : decode cL_law 79 = .ok (.sipush 420, 3) := by decide +kernel
theorem dL_law_82 : decode cL_law 82 = .ok (.goto 5, 3) := by decide +kernel
theorem dL_law_85 : decode cL_law 85 = .ok (.ldc 125, 2) := by decide +kernel
theorem dL_law_87 : decode cL_law 87 = .ok (.istore 6, 2) := by decide +kernel
theorem dL_law_89 : decode cL_law 89 = .ok (.aload_n 1, 1) := by decide +kernel
theorem dL_law_90 : decode cL_law 90 = .ok (.iload_n 3, 1) := by decide +kernel
theorem dL_law_91 : decode cL_law 91 = .ok (.iload 4, 2) := by decide +kernel
theorem dL_law_93 : decode cL_law 93 = .ok (.iload 6, 2) := by decide +kernel
theorem dL_law_95 : decode cL_law 95 = .ok (.invokevirtual 126, 3) := by decide +kernel
theorem dL_law_98 : decode cL_law 98 = .ok (.iconst 4, 1) := by decide +kernel
theorem dL_law_99 : decode cL_law 99 = .ok (.if_icmp .ne 78, 3) := by decide +kernel
