theorem dX10_init_183 : decode cX10_init 183 = .ok (.aload_n 0, 1) := by decide +kernel
theorem dX10_init_184 : decode cX10_init 184 = .ok (.bipush 14, 2) := by decide +kernel
theorem dX10_init_186 : decode cX10_init 186 = .ok (.newarray .int, 2) := by decide +kernel
theorem dX10_init_188 : decode cX10_init 188 = .ok (.putfield 78, 3) := by decide +kernel
theorem dX10_init_191 : decode cX10_init 191 = .ok (.aload_n 0, 1) := by decide +kernel
theorem dX10_init_192 : decode cX10_init 192 = .ok (.sipush 220, 3) := by decide +kernel
theorem dX10_init_195 : decode cX10_init 195 = .ok (.newarray .int, 2) := by decide +kernel
theorem dX10_init_197 : decode cX10_init 197 = .ok (.putfield 81, 3) := by decide +kernel
theorem dX10_init_200 : decode cX10_init 200 = .ok (.aload_n 0, 1) := by decide +kernel
theorem dX10_init_201 : decode cX10_init 201 = .ok (.bipush 14, 2) := by decide +kernel
theorem dX10_init_203 : decode cX10_init 203 = .ok (.newarray .int, 2) := by decide +kernel
theorem dX10_init_205 : decode cX10_init 205 = .ok (.putfield 84, 3) := by decide +kernel
theorem dX10_init_208 : decode cX10_init 208 = .ok (.aload_n 0, 1) := by decide +kernel
theorem dX10_init_209 : decode cX10_init 209 = .ok (.bipush 14, 2) := by decide +kernel
theorem dX10_init_211 : decode cX10_init 211 = .ok (.newarray .int, 2) := by decide +kernel
theorem dX10_init_213 : decode cX10_init 213 = .ok (.putfield 87, 3) := by decide +kernel
theorem dX10_init_216 : decode cX10_init 216 = .ok (.aload_n 0, 1) := by decide +kernel
theorem dX10_init_217 : decode cX10_init 217 = .ok (.bipush 14, 2) := by decide +kernel
theorem dX10_init_219 : decode cX10_init 219 = .ok (.newarray .int, 2) := by decide +kernel
theorem dX10_init_221 : decode cX10_init 221 = .ok (.putfield 90, 3) := by decide +kernel
theorem dX10_init_224 : decode cX10_init 224 = .ok (.aload_n 0, 1) := by decide +kernel
theorem dX10_init_225 : decode cX10_init 225 = .ok (.bipush 14, 2) := by decide +kernel
theorem dX10_init_227 : decode cX10_init 227 = .ok (.newarray .int, 2) := by decide +kernel
theorem dX10_init_229 : decode cX10_init 229 = .ok (.putfield 93, 3) := by decide +kernel
theorem dX10_init_232 : decode cX10_init 232 = .ok (.aload_n 0, 1) := by decide +kernel
theorem dX10_init_233 : decode cX10_init 233 = .ok (.sipush 220, 3) := by decide +kernel
theorem dX10_init_236 : decode cX10_init 236 = .ok (.newarray .int, 2) := by decide +kernel
theorem dX10_init_238 : decode cX10_init 238 = .ok (.putfield 96, 3) := by decide +kernel
theorem dX10_init_241 : decode cX10_init 241 = .ok (.aload_n 0, 1) := by decide +kernel
theorem dX10_init_242 : decode cX10_init 242 = .ok (.bipush 12, 2) := by decide +kernel
theorem dX10_init_244 : decode cX10_init 244 = .ok (.newarray .int, 2) := by decide +kernel
theorem dX10_init_246 : decode cX10_init 246 = .ok (.putfield 99, 3) := by decide +kernel
theorem dX10_init_249 : decode cX10_init 249 = .ok (.aload_n 0, 1) := by decide +kernel
theorem dX10_init_250 : decode cX10_init 250 = .ok (.bipush 47, 2) := by decide +kernel
theorem dX10_init_252 : decode cX10_init 252 = .ok (.newarray .int, 2) := by decide +kernel
theorem dX10_init_254 : decode cX10_init 254 = .ok (.putfield 102, 3) := by decide +kernel
theorem dX10_init_257 : decode cX10_init 257 = .ok (.aload_n 0, 1) := by decide +kernel
theorem dX10_init_258 : decode cX10_init 258 = .ok (.sipush 840, 3) := by decide +kernel
theorem dX10_init_261 : decode cX10_init 261 = .ok (.newarray .int, 2) := by decide +kernel
theorem dX10_init_263 : decode cX10_init 263 = .ok (.putfield 105, 3) := by decide +kernel
theorem dX10_init_266 : decode cX10_init 266 = .ok (.aload_n 0, 1) := by decide +kernel
theorem dX10_init_267 : decode cX10_init 267 = .ok (.sipush 11264, 3) := by decide +kernel
theorem dX10_init_270 : decode cX10_init 270 = .ok (.newarray .int, 2) := by decide +kernel
theorem dX10_init_272 : decode cX10_init 272 = .ok (.putfield 108, 3) := by decide +kernel
theorem dX10_init_275 : decode cX10_init 275 = .ok (.aload_n 0, 1) := by decide +kernel
theorem dX10_init_276 : decode cX10_init 276 = .ok (.bipush 10, 2) := by decide +kernel
theorem dX10_init_278 : decode cX10_init 278 = .ok (.newarray .int, 2) := by decide +kernel
theorem dX10_init_280 : decode cX10_init 280 = .ok (.putfield 111, 3) := by decide +kernel
theorem dX10_init_283 : decode cX10_init 283 = .ok (.aload_n 0, 1) := by decide +kernel
theorem dX10_init_284 : decode cX10_init 284 = .ok (.bipush 10, 2) := by decide +kernel
theorem dX10_init_286 : decode cX10_init 286 = .ok (.newarray .int, 2) := by decide +kernel
theorem dX10_init_288 : decode cX10_init 288 = .ok (.putfield 114, 3) := by decide +kernel
theorem dX10_init_291 : decode cX10_init 291 = .ok (.aload_n 0, 1) := by decide +kernel
theorem dX10_init_292 : decode cX10_init 292 = .ok (.bipush 96, 2) := by decide +kernel
theorem dX10_init_294 : decode cX10_init 294 = .ok (.newarray .int, 2) := by decide +kernel
theorem dX10_init_296 : decode cX10_init 296 = .ok (.putfield 117, 3) := by decide +kernel
theorem dX10_init_299 : decode cX10_init 299 = .ok (.aload_n 0, 1) := by decide +kernel
theorem dX10_init_300 : decode cX10_init 300 = .ok (.ldc 120, 2) := by decide +kernel
theorem dX10_init_302 : decode cX10_init 302 = .ok (.newarray .int, 2) := by decide +kernel
theorem dX10_init_304 : decode cX10_init 304 = .ok (.putfield 121, 3) := by decide +kernel
theorem dX10_init_307 : decode cX10_init 307 = .ok (.aload_n 0, 1) := by decide +kernel
theorem dX10_init_308 : decode cX10_init 308 = .ok (.bipush 10, 2) := by decide +kernel
theorem dX10_init_310 : decode cX10_init 310 = .ok (.newarray .int, 2) := by decide +kernel
theorem dX10_init_312 : decode cX10_init 312 = .ok (.putfield 124, 3) := by decide +kernel
theorem dX10_init_315 : decode cX10_init 315 = .ok (.aload_n 0, 1) := by decide +kernel
theorem dX10_init_316 : decode cX10_init 316 = .ok (.bipush 10, 2) := by decide +kernel
theorem dX10_init_318 : decode cX10_init 318 = .ok (.newarray .int, 2) := by decide +kernel
theorem dX10_init_320 : decode cX10_init 320 = .ok (.putfield 127, 3) := by decide +kernel
theorem dX10_init_323 : decode cX10_init 323 = .ok (.aload_n 0, 1) := by decide +kernel
theorem dX10_init_324 : decode cX10_init 324 = .ok (.bipush 12, 2) := by decide +kernel
theorem dX10_init_326 : decode cX10_init 326 = .ok (.newarray .int, 2) := by decide +kernel
theorem dX10_init_328 : decode cX10_init 328 = .ok (.putfield 130, 3) := by decide +kernel
theorem dX10_init_331 : decode cX10_init 331 = .ok (.aload_n 0, 1) := by decide +kernel
theorem dX10_init_332 : decode cX10_init 332 = .ok (.bipush 10, 2) := by decide +kernel
theorem dX10_init_334 : decode cX10_init 334 = .ok (.newarray .int, 2) := by decide +kernel
theorem dX10_init_336 : decode cX10_init 336 = .ok (.putfield 133, 3) := by decide +kernel
theorem dX10_init_339 : decode cX10_init 339 = .ok (.aload_n 0, 1) := by decide +kernel
theorem dX10_init_340 : decode cX10_init 340 = .ok (.bipush 70, 2) := by decide +kernel
theorem dX10_init_342 : decode cX10_init 342 = .ok (.newarray .int, 2) := by decide +kernel
theorem dX10_init_344 : decode cX10_init 344 = .ok (.putfield 136, 3) := by decide +kernel
theorem dX10_init_347 : decode cX10_init 347 = .ok (.aload_n 0, 1) := by decide +kernel
theorem dX10_init_348 : decode cX10_init 348 = .ok (.bipush 10, 2) := by decide +kernel
theorem dX10_init_350 : decode cX10_init 350 = .ok (.newarray .int, 2) := by decide +kernel
theorem dX10_init_352 : decode cX10_init 352 = .ok (.putfield 139, 3) := by decide +kernel
theorem dX10_init_355 : decode cX10_init 355 = .ok (.aload_n 0, 1) := by decide +kernel
theorem dX10_init_356 : decode cX10_init 356 = .ok (.bipush 10, 2) := by decide +kernel
theorem dX10_init_358 : decode cX10_init 358 = .ok (.newarray .int, 2) := by decide +kernel
theorem dX10_init_360 : decode cX10_init 360 = .ok (.putfield 142, 3) := by decide +kernel
theorem dX10_init_363 : decode cX10_init 363 = .ok (.aload_n 0, 1) := by decide +kernel
theorem dX10_init_364 : decode cX10_init 364 = .ok (.bipush 10, 2) := by decide +kernel
theorem dX10_init_366 : decode cX10_init 366 = .ok (.newarray .int, 2) := by decide +kernel
theorem dX10_init_368 : decode cX10_init 368 = .ok (.putfield 145, 3) := by decide +kernel
theorem dX10_init_371 : decode cX10_init 371 = .ok (.aload_n 0, 1) := by decide +kernel
theorem dX10_init_372 : decode cX10_init 372 = .ok (.bipush 10, 2) := by decide +kernel
theorem dX10_init_374 : decode cX10_init 374 = .ok (.newarray .int, 2) := by decide +kernel
theorem dX10_init_376 : decode cX10_init 376 = .ok (.putfield 148, 3) := by decide +kernel
theorem dX10_init_379 : decode cX10_init 379 = .ok (.aload_n 0, 1) := by decide +kernel
theorem dX10_init_380 : decode cX10_init 380 = .ok (.bipush 47, 2) := by decide +kernel
theorem dX10_init_382 : decode cX10_init 382 = .ok (.newarray .int, 2) := by decide +kernel
theorem dX10_init_384 : decode cX10_init 384 = .ok (.putfield 151, 3) := by decide +kernel
theorem dX10_init_387 : decode cX10_init 387 = .ok (.aload_n 0, 1) := by decide +kernel
theorem dX10_init_388 : decode cX10_init 388 = .ok (.iconst 1, 1) := by decide +kernel
theorem dX10_init_389 : decode cX10_init 389 = .ok (.putfield 154, 3) := by decide +kernel
theorem dX10_init_392 : decode cX10_init 392 = .ok (.aload_n 0, 1) := by decide +kernel
theorem dX10_init_393 : decode cX10_init 393 = .ok (.iconst (-1), 1) := by decide +kernel
theorem dX10_init_394 : decode cX10_init 394 = .ok (.putfield 158, 3) := by decide +kernel
theorem dX10_init_397 : decode cX10_init 397 = .ok (.return_, 1) := by decide +kernel
theorem dX10_in_0 : decode cX10_in 0 = .ok (.iload_n 0, 1) := by decide +kernel
theorem dX10_in_1 : decode cX10_in 1 = .ok (.iload_n 1, 1) := by decide +kernel
theorem dX10_in_2 : decode cX10_in 2 = .ok (.if_icmp .lt 12, 3) := by decide +kernel
theorem dX10_in_5 : decode cX10_in 5 = .ok (.iload_n 0, 1) := by decide +kernel
theorem dX10_in_6 : decode cX10_in 6 = .ok (.iload_n 2, 1) := by decide +kernel
theorem dX10_in_7 : decode cX10_in 7 = .ok (.if_icmp .gt 7, 3) := by decide +kernel
theorem dX10_in_10 : decode cX10_in 10 = .ok (.iconst 1, 1) := by decide +kernel
theorem dX10_in_11 : decode cX10_in 11 = .ok (.goto 4, 3) := by decide +kernel
theorem dX10_in_14 : decode cX10_in 14 = .ok (.iconst 0, 1) := by decide +kernel
theorem dX10_in_15 : decode cX10_in 15 = .ok (.ireturn, 1) := by decide +kernel
theorem dX10_min_0 : decode cX10_min 0 = .ok (.iload_n 0, 1) := by decide +kernel
theorem dX10_min_1 : decode cX10_min 1 = .ok (.iload_n 1, 1) := by decide +kernel
theorem dX10_min_2 : decode cX10_min 2 = .ok (.if_icmp .ge 7, 3) := by decide +kernel
theorem dX10_min_5 : decode cX10_min 5 = .ok (.iload_n 0, 1) := by decide +kernel
theorem dX10_min_6 : decode cX10_min 6 = .ok (.goto 4, 3) := by decide +kernel
theorem dX10_min_9 : decode cX10_min 9 = .ok (.iload_n 1, 1) := by decide +kernel
theorem dX10_min_10 : decode cX10_min 10 = .ok (.ireturn, 1) := by decide +kernel
theorem dX10_has_0 : decode cX10_has 0 = .ok (.iload_n 0, 1) := by decide +kernel
theorem dX10_has_1 : decode cX10_has 1 = .ok (.iload_n 1, 1) := by decide +kernel
theorem dX10_has_2 : decode cX10_has 2 = .ok (.ishr, 1) := by decide +kernel
theorem dX10_has_3 : decode cX10_has 3 = .ok (.iconst 1, 1) := by decide +kernel
theorem dX10_has_4 : decode cX10_has 4 = .ok (.iand, 1) := by decide +kernel
theorem dX10_has_5 : decode cX10_has 5 = .ok (.iconst 1, 1) := by decide +kernel
theorem dX10_has_6 : decode cX10_has 6 = .ok (.if_icmp .ne 7, 3) := by decide +kernel
theorem dX10_has_9 : decode cX10_has 9 = .ok (.iconst 1, 1) := by decide +kernel
theorem dX10_has_10 : decode cX10_has 10 = .ok (.goto 4, 3) := by decide +kernel
theorem dX10_has_13 : decode cX10_has 13 = .ok (.iconst 0, 1) := by decide +kernel
theorem dX10_has_14 : decode cX10_has 14 = .ok (.ireturn, 1) := by decide +kernel
theorem dX10_bits_0 : decode cX10_bits 0 = .ok (.iconst 0, 1) := by decide +kernel
theorem dX10_bits_1 : decode cX10_bits 1 = .ok (.istore_n 1, 1) := by decide +kernel
theorem dX10_bits_2 : decode cX10_bits 2 = .ok (.iconst 0, 1) := by decide +kernel
theorem dX10_bits_3 : decode cX10_bits 3 = .ok (.istore_n 2, 1) := by decide +kernel
theorem dX10_bits_4 : decode cX10_bits 4 = .ok (.iload_n 2, 1) := by decide +kernel
theorem dX10_bits_5 : decode cX10_bits 5 = .ok (.bipush 12, 2) := by decide +kernel
theorem dX10_bits_7 : decode cX10_bits 7 = .ok (.if_icmp .ge 17, 3) := by decide +kernel
theorem dX10_bits_10 : decode cX10_bits 10 = .ok (.iload_n 1, 1) := by decide +kernel
theorem dX10_bits_11 : decode cX10_bits 11 = .ok (.iload_n 0, 1) := by decide +kernel
theorem dX10_bits_12 : decode cX10_bits 12 = .ok (.iload_n 2, 1) := by decide +kernel
theorem dX10_bits_13 : decode cX10_bits 13 = .ok (.ishr, 1) := by decide +kernel
theorem dX10_bits_14 : decode cX10_bits 14 = .ok (.iconst 1, 1) := by decide +kernel
theorem dX10_bits_15 : decode cX10_bits 15 = .ok (.iand, 1) := by decide +kernel
theorem dX10_bits_16 : decode cX10_bits 16 = .ok (.iadd, 1) := by decide +kernel
theorem dX10_bits_17 : decode cX10_bits 17 = .ok (.istore_n 1, 1) := by decide +kernel
theorem dX10_bits_18 : decode cX10_bits 18 = .ok (.iinc 2 1, 3) := by decide +kernel
theorem dX10_bits_21 : decode cX10_bits 21 = .ok (.goto (-17), 3) := by decide +kernel
theorem dX10_bits_24 : decode cX10_bits 24 = .ok (.iload_n 1, 1) := by decide +kernel
theorem dX10_bits_25 : decode cX10_bits 25 = .ok (.ireturn, 1) := by decide +kernel
theorem dX10_isRoom_0 : decode cX10_isRoom 0 = .ok (.iload_n 0, 1) := by decide +kernel
theorem dX10_isRoom_1 : decode cX10_isRoom 1 = .ok (.ifCond .lt 13, 3) := by decide +kernel
theorem dX10_isRoom_4 : decode cX10_isRoom 4 = .ok (.iload_n 0, 1) := by decide +kernel
theorem dX10_isRoom_5 : decode cX10_isRoom 5 = .ok (.bipush 12, 2) := by decide +kernel
theorem dX10_isRoom_7 : decode cX10_isRoom 7 = .ok (.if_icmp .ge 7, 3) := by decide +kernel
theorem dX10_isRoom_10 : decode cX10_isRoom 10 = .ok (.iconst 1, 1) := by decide +kernel
theorem dX10_isRoom_11 : decode cX10_isRoom 11 = .ok (.goto 4, 3) := by decide +kernel
theorem dX10_isRoom_14 : decode cX10_isRoom 14 = .ok (.iconst 0, 1) := by decide +kernel
theorem dX10_isRoom_15 : decode cX10_isRoom 15 = .ok (.ireturn, 1) := by decide +kernel
theorem dX10_isNight_0 : decode cX10_isNight 0 = .ok (.iload_n 0, 1) := by decide +kernel
theorem dX10_isNight_1 : decode cX10_isNight 1 = .ok (.ifCond .lt 13, 3) := by decide +kernel
theorem dX10_isNight_4 : decode cX10_isNight 4 = .ok (.iload_n 0, 1) := by decide +kernel
theorem dX10_isNight_5 : decode cX10_isNight 5 = .ok (.bipush 7, 2) := by decide +kernel
theorem dX10_isNight_7 : decode cX10_isNight 7 = .ok (.if_icmp .ge 7, 3) := by decide +kernel
theorem dX10_isNight_10 : decode cX10_isNight 10 = .ok (.iconst 1, 1) := by decide +kernel
theorem dX10_isNight_11 : decode cX10_isNight 11 = .ok (.goto 4, 3) := by decide +kernel
theorem dX10_isNight_14 : decode cX10_isNight 14 = .ok (.iconst 0, 1) := by decide +kernel
theorem dX10_isNight_15 : decode cX10_isNight 15 = .ok (.ireturn, 1) := by decide +kernel
theorem dX10_isSleeper_0 : decode cX10_isSleeper 0 = .ok (.iload_n 1, 1) := by decide +kernel
theorem dX10_isSleeper_1 : decode cX10_isSleeper 1 = .ok (.ifCond .lt 24, 3) := by decide +kernel
theorem dX10_isSleeper_4 : decode cX10_isSleeper 4 = .ok (.iload_n 1, 1) := by decide +kernel
theorem dX10_isSleeper_5 : decode cX10_isSleeper 5 = .ok (.bipush 10, 2) := by decide +kernel
theorem dX10_isSleeper_7 : decode cX10_isSleeper 7 = .ok (.if_icmp .ge 18, 3) := by decide +kernel
theorem dX10_isSleeper_10 : decode cX10_isSleeper 10 = .ok (.aload_n 0, 1) := by decide +kernel
theorem dX10_isSleeper_11 : decode cX10_isSleeper 11 = .ok (.getfield 161, 3) := by decide +kernel
theorem dX10_isSleeper_14 : decode cX10_isSleeper 14 = .ok (.iload_n 1, 1) := by decide +kernel
theorem dX10_isSleeper_15 : decode cX10_isSleeper 15 = .ok (.invokestatic 164, 3) := by decide +kernel
theorem dX10_isSleeper_18 : decode cX10_isSleeper 18 = .ok (.ifCond .eq 7, 3) := by decide +kernel
theorem dX10_isSleeper_21 : decode cX10_isSleeper 21 = .ok (.iconst 1, 1) := by decide +kernel
theorem dX10_isSleeper_22 : decode cX10_isSleeper 22 = .ok (.goto 4, 3) := by decide +kernel
theorem dX10_isSleeper_25 : decode cX10_isSleeper 25 = .ok (.iconst 0, 1) := by decide +kernel
theorem dX10_isSleeper_26 : decode cX10_isSleeper 26 = .ok (.ireturn, 1) := by decide +kernel
theorem dX10_isGhost_0 : decode cX10_isGhost 0 = .ok (.iload_n 1, 1) := by decide +kernel
theorem dX10_isGhost_1 : decode cX10_isGhost 1 = .ok (.ifCond .lt 24, 3) := by decide +kernel
theorem dX10_isGhost_4 : decode cX10_isGhost 4 = .ok (.iload_n 1, 1) := by decide +kernel
theorem dX10_isGhost_5 : decode cX10_isGhost 5 = .ok (.bipush 10, 2) := by decide +kernel
theorem dX10_isGhost_7 : decode cX10_isGhost 7 = .ok (.if_icmp .ge 18, 3) := by decide +kernel
theorem dX10_isGhost_10 : decode cX10_isGhost 10 = .ok (.aload_n 0, 1) := by decide +kernel
theorem dX10_isGhost_11 : decode cX10_isGhost 11 = .ok (.getfield 168, 3) := by decide +kernel
theorem dX10_isGhost_14 : decode cX10_isGhost 14 = .ok (.iload_n 1, 1) := by decide +kernel
theorem dX10_isGhost_15 : decode cX10_isGhost 15 = .ok (.invokestatic 164, 3) := by decide +kernel
theorem dX10_isGhost_18 : decode cX10_isGhost 18 = .ok (.ifCond .eq 7, 3) := by decide +kernel
theorem dX10_isGhost_21 : decode cX10_isGhost 21 = .ok (.iconst 1, 1) := by decide +kernel
theorem dX10_isGhost_22 : decode cX10_isGhost 22 = .ok (.goto 4, 3) := by decide +kernel
theorem dX10_isGhost_25 : decode cX10_isGhost 25 = .ok (.iconst 0, 1) := by decide +kernel
theorem dX10_isGhost_26 : decode cX10_isGhost 26 = .ok (.ireturn, 1) := by decide +kernel
theorem dX10_cats_0 : decode cX10_cats 0 = .ok (.iload_n 1, 1) := by decide +kernel
theorem dX10_cats_1 : decode cX10_cats 1 = .ok (.invokestatic 171, 3) := by decide +kernel
theorem dX10_cats_4 : decode cX10_cats 4 = .ok (.ifCond .eq 13, 3) := by decide +kernel
theorem dX10_cats_7 : decode cX10_cats 7 = .ok (.iload_n 2, 1) := by decide +kernel
theorem dX10_cats_8 : decode cX10_cats 8 = .ok (.iconst 0, 1) := by decide +kernel
theorem dX10_cats_9 : decode cX10_cats 9 = .ok (.bipush 9, 2) := by decide +kernel
theorem dX10_cats_11 : decode cX10_cats 11 = .ok (.invokestatic 175, 3) := by decide +kernel
theorem dX10_cats_14 : decode cX10_cats 14 = .ok (.ifCond .ne 5, 3) := by decide +kernel
theorem dX10_cats_17 : decode cX10_cats 17 = .ok (.iconst 0, 1) := by decide +kernel
theorem dX10_cats_18 : decode cX10_cats 18 = .ok (.ireturn, 1) := by decide +kernel
theorem dX10_cats_19 : decode cX10_cats 19 = .ok (.aload_n 0, 1) := by decide +kernel
theorem dX10_cats_20 : decode cX10_cats 20 = .ok (.getfield 7, 3) := by decide +kernel
theorem dX10_cats_23 : decode cX10_cats 23 = .ok (.iload_n 1, 1) := by decide +kernel
theorem dX10_cats_24 : decode cX10_cats 24 = .ok (.iload_n 2, 1) := by decide +kernel
theorem dX10_cats_25 : decode cX10_cats 25 = .ok (.iastore, 1) := by decide +kernel
theorem dX10_cats_26 : decode cX10_cats 26 = .ok (.iconst 1, 1) := by decide +kernel
theorem dX10_cats_27 : decode cX10_cats 27 = .ok (.ireturn, 1) := by decide +kernel
theorem dX10_allSouls_0 : decode cX10_allSouls 0 = .ok (.iload_n 1, 1) := by decide +kernel
theorem dX10_allSouls_1 : decode cX10_allSouls 1 = .ok (.iconst (-1), 1) := by decide +kernel
theorem dX10_allSouls_2 : decode cX10_allSouls 2 = .ok (.if_icmp .eq 12, 3) := by decide +kernel
theorem dX10_allSouls_5 : decode cX10_allSouls 5 = .ok (.iload_n 1, 1) := by decide +kernel
theorem dX10_allSouls_6 : decode cX10_allSouls 6 = .ok (.invokestatic 179, 3) := by decide +kernel
theorem dX10_allSouls_9 : decode cX10_allSouls 9 = .ok (.ifCond .ne 5, 3) := by decide +kernel
theorem dX10_allSouls_12 : decode cX10_allSouls 12 = .ok (.iconst 0, 1) := by decide +kernel
theorem dX10_allSouls_13 : decode cX10_allSouls 13 = .ok (.ireturn, 1) := by decide +kernel
theorem dX10_allSouls_14 : decode cX10_allSouls 14 = .ok (.aload_n 0, 1) := by decide +kernel
theorem dX10_allSouls_15 : decode cX10_allSouls 15 = .ok (.iload_n 1, 1) := by decide +kernel
theorem dX10_allSouls_16 : decode cX10_allSouls 16 = .ok (.putfield 158, 3) := by decide +kernel
theorem dX10_allSouls_19 : decode cX10_allSouls 19 = .ok (.iconst 1, 1) := by decide +kernel
theorem dX10_allSouls_20 : decode cX10_allSouls 20 = .ok (.ireturn, 1) := by decide +kernel
theorem dX10_chains_0 : decode cX10_chains 0 = .ok (.iload_n 1, 1) := by decide +kernel
theorem dX10_chains_1 : decode cX10_chains 1 = .ok (.iconst 0, 1) := by decide +kernel
theorem dX10_chains_2 : decode cX10_chains 2 = .ok (.bipush 9, 2) := by decide +kernel
theorem dX10_chains_4 : decode cX10_chains 4 = .ok (.invokestatic 175, 3) := by decide +kernel
theorem dX10_chains_7 : decode cX10_chains 7 = .ok (.ifCond .ne 5, 3) := by decide +kernel
theorem dX10_chains_10 : decode cX10_chains 10 = .ok (.iconst 0, 1) := by decide +kernel
theorem dX10_chains_11 : decode cX10_chains 11 = .ok (.ireturn, 1) := by decide +kernel
theorem dX10_chains_12 : decode cX10_chains 12 = .ok (.aload_n 0, 1) := by decide +kernel
theorem dX10_chains_13 : decode cX10_chains 13 = .ok (.iload_n 1, 1) := by decide +kernel
theorem dX10_chains_14 : decode cX10_chains 14 = .ok (.putfield 182, 3) := by decide +kernel
theorem dX10_chains_17 : decode cX10_chains 17 = .ok (.iconst 1, 1) := by decide +kernel
theorem dX10_chains_18 : decode cX10_chains 18 = .ok (.ireturn, 1) := by decide +kernel
theorem dX10_sleeper_0 : decode cX10_sleeper 0 = .ok (.iload_n 1, 1) := by decide +kernel
theorem dX10_sleeper_1 : decode cX10_sleeper 1 = .ok (.iconst 0, 1) := by decide +kernel
theorem dX10_sleeper_2 : decode cX10_sleeper 2 = .ok (.bipush 9, 2) := by decide +kernel
theorem dX10_sleeper_4 : decode cX10_sleeper 4 = .ok (.invokestatic 175, 3) := by decide +kernel
theorem dX10_sleeper_7 : decode cX10_sleeper 7 = .ok (.ifCond .eq 13, 3) := by decide +kernel
theorem dX10_sleeper_10 : decode cX10_sleeper 10 = .ok (.iload_n 2, 1) := by decide +kernel
theorem dX10_sleeper_11 : decode cX10_sleeper 11 = .ok (.iconst 0, 1) := by decide +kernel
theorem dX10_sleeper_12 : decode cX10_sleeper 12 = .ok (.bipush 9, 2) := by decide +kernel
theorem dX10_sleeper_14 : decode cX10_sleeper 14 = .ok (.invokestatic 175, 3) := by decide +kernel
theorem dX10_sleeper_17 : decode cX10_sleeper 17 = .ok (.ifCond .ne 5, 3) := by decide +kernel
theorem dX10_sleeper_20 : decode cX10_sleeper 20 = .ok (.iconst 0, 1) := by decide +kernel
theorem dX10_sleeper_21 : decode cX10_sleeper 21 = .ok (.ireturn, 1) := by decide +kernel
theorem dX10_sleeper_22 : decode cX10_sleeper 22 = .ok (.aload_n 0, 1) := by decide +kernel
theorem dX10_sleeper_23 : decode cX10_sleeper 23 = .ok (.aload_n 0, 1) := by decide +kernel
theorem dX10_sleeper_24 : decode cX10_sleeper 24 = .ok (.getfield 161, 3) := by decide +kernel
theorem dX10_sleeper_27 : decode cX10_sleeper 27 = .ok (.iconst 1, 1) := by decide +kernel
theorem dX10_sleeper_28 : decode cX10_sleeper 28 = .ok (.iload_n 1, 1) := by decide +kernel
theorem dX10_sleeper_29 : decode cX10_sleeper 29 = .ok (.ishl, 1) := by decide +kernel
theorem dX10_sleeper_30 : decode cX10_sleeper 30 = .ok (.ior, 1) := by decide +kernel
theorem dX10_sleeper_31 : decode cX10_sleeper 31 = .ok (.putfield 161, 3) := by decide +kernel
theorem dX10_sleeper_34 : decode cX10_sleeper 34 = .ok (.aload_n 0, 1) := by decide +kernel
theorem dX10_sleeper_35 : decode cX10_sleeper 35 = .ok (.getfield 13, 3) := by decide +kernel
theorem dX10_sleeper_38 : decode cX10_sleeper 38 = .ok (.iload_n 1, 1) := by decide +kernel
theorem dX10_sleeper_39 : decode cX10_sleeper 39 = .ok (.iload_n 2, 1) := by decide +kernel
theorem dX10_sleeper_40 : decode cX10_sleeper 40 = .ok (.iastore, 1) := by decide +kernel
theorem dX10_sleeper_41 : decode cX10_sleeper 41 = .ok (.iconst 0, 1) := by decide +kernel
theorem dX10_sleeper_42 : decode cX10_sleeper 42 = .ok (.istore_n 3, 1) := by decide +kernel
theorem dX10_sleeper_43 : decode cX10_sleeper 43 = .ok (.iload_n 3, 1) := by decide +kernel
theorem dX10_sleeper_44 : decode cX10_sleeper 44 = .ok (.bipush 7, 2) := by decide +kernel
theorem dX10_sleeper_46 : decode cX10_sleeper 46 = .ok (.if_icmp .ge 23, 3) := by decide +kernel
theorem dX10_sleeper_49 : decode cX10_sleeper 49 = .ok (.aload_n 0, 1) := by decide +kernel
theorem dX10_sleeper_50 : decode cX10_sleeper 50 = .ok (.getfield 16, 3) := by decide +kernel
theorem dX10_sleeper_53 : decode cX10_sleeper 53 = .ok (.bipush 10, 2) := by decide +kernel
theorem dX10_sleeper_55 : decode cX10_sleeper 55 = .ok (.iload_n 3, 1) := by decide +kernel
theorem dX10_sleeper_56 : decode cX10_sleeper 56 = .ok (.imul, 1) := by decide +kernel
theorem dX10_sleeper_57 : decode cX10_sleeper 57 = .ok (.iload_n 1, 1) := by decide +kernel
theorem dX10_sleeper_58 : decode cX10_sleeper 58 = .ok (.iadd, 1) := by decide +kernel
theorem dX10_sleeper_59 : decode cX10_sleeper 59 = .ok (.sipush 255, 3) := by decide +kernel
theorem dX10_sleeper_62 : decode cX10_sleeper 62 = .ok (.iastore, 1) := by decide +kernel
theorem dX10_sleeper_63 : decode cX10_sleeper 63 = .ok (.iinc 3 1, 3) := by decide +kernel
theorem dX10_sleeper_66 : decode cX10_sleeper 66 = .ok (.goto (-23), 3) := by decide +kernel
theorem dX10_sleeper_69 : decode cX10_sleeper 69 = .ok (.aload_n 0, 1) := by decide +kernel
theorem dX10_sleeper_70 : decode cX10_sleeper 70 = .ok (.getfield 31, 3) := by decide +kernel
theorem dX10_sleeper_73 : decode cX10_sleeper 73 = .ok (.bipush 10, 2) := by decide +kernel
theorem dX10_sleeper_75 : decode cX10_sleeper 75 = .ok (.iload_n 1, 1) := by decide +kernel
theorem dX10_sleeper_76 : decode cX10_sleeper 76 = .ok (.iadd, 1) := by decide +kernel
theorem dX10_sleeper_77 : decode cX10_sleeper 77 = .ok (.iconst 0, 1) := by decide +kernel
theorem dX10_sleeper_78 : decode cX10_sleeper 78 = .ok (.iastore, 1) := by decide +kernel
theorem dX10_sleeper_79 : decode cX10_sleeper 79 = .ok (.iconst 1, 1) := by decide +kernel
theorem dX10_sleeper_80 : decode cX10_sleeper 80 = .ok (.ireturn, 1) := by decide +kernel
theorem dX10_sleeps_0 : decode cX10_sleeps 0 = .ok (.aload_n 0, 1) := by decide +kernel
theorem dX10_sleeps_1 : decode cX10_sleeps 1 = .ok (.iload_n 1, 1) := by decide +kernel
theorem dX10_sleeps_2 : decode cX10_sleeps 2 = .ok (.invokevirtual 185, 3) := by decide +kernel
theorem dX10_sleeps_5 : decode cX10_sleeps 5 = .ok (.ifCond .eq 36, 3) := by decide +kernel
theorem dX10_sleeps_8 : decode cX10_sleeps 8 = .ok (.iload_n 2, 1) := by decide +kernel
theorem dX10_sleeps_9 : decode cX10_sleeps 9 = .ok (.invokestatic 179, 3) := by decide +kernel
theorem dX10_sleeps_12 : decode cX10_sleeps 12 = .ok (.ifCond .eq 29, 3) := by decide +kernel
theorem dX10_sleeps_15 : decode cX10_sleeps 15 = .ok (.iload_n 3, 1) := by decide +kernel
theorem dX10_sleeps_16 : decode cX10_sleeps 16 = .ok (.iload_n 2, 1) := by decide +kernel
theorem dX10_sleeps_17 : decode cX10_sleeps 17 = .ok (.iconst 1, 1) := by decide +kernel
theorem dX10_sleeps_18 : decode cX10_sleeps 18 = .ok (.iadd, 1) := by decide +kernel
theorem dX10_sleeps_19 : decode cX10_sleeps 19 = .ok (.bipush 7, 2) := by decide +kernel
theorem dX10_sleeps_21 : decode cX10_sleeps 21 = .ok (.invokestatic 175, 3) := by decide +kernel
theorem dX10_sleeps_24 : decode cX10_sleeps 24 = .ok (.ifCond .eq 17, 3) := by decide +kernel
theorem dX10_sleeps_27 : decode cX10_sleeps 27 = .ok (.iload 4, 2) := by decide +kernel
theorem dX10_sleeps_29 : decode cX10_sleeps 29 = .ok (.iconst (-1), 1) := by decide +kernel
theorem dX10_sleeps_30 : decode cX10_sleeps 30 = .ok (.if_icmp .eq 13, 3) := by decide +kernel
theorem dX10_sleeps_33 : decode cX10_sleeps 33 = .ok (.iload 4, 2) := by decide +kernel
theorem dX10_sleeps_35 : decode cX10_sleeps 35 = .ok (.invokestatic 171, 3) := by decide +kernel
theorem dX10_sleeps_38 : decode cX10_sleeps 38 = .ok (.ifCond .ne 5, 3) := by decide +kernel
theorem dX10_sleeps_41 : decode cX10_sleeps 41 = .ok (.iconst 0, 1) := by decide +kernel
theorem dX10_sleeps_42 : decode cX10_sleeps 42 = .ok (.ireturn, 1) := by decide +kernel
theorem dX10_sleeps_43 : decode cX10_sleeps 43 = .ok (.iload_n 2, 1) := by decide +kernel
theorem dX10_sleeps_44 : decode cX10_sleeps 44 = .ok (.istore 5, 2) := by decide +kernel
theorem dX10_sleeps_46 : decode cX10_sleeps 46 = .ok (.iload 5, 2) := by decide +kernel
theorem dX10_sleeps_48 : decode cX10_sleeps 48 = .ok (.iload_n 3, 1) := by decide +kernel
theorem dX10_sleeps_49 : decode cX10_sleeps 49 = .ok (.if_icmp .ge 35, 3) := by decide +kernel
theorem dX10_sleeps_52 : decode cX10_sleeps 52 = .ok (.aload_n 0, 1) := by decide +kernel
theorem dX10_sleeps_53 : decode cX10_sleeps 53 = .ok (.getfield 16, 3) := by decide +kernel
theorem dX10_sleeps_56 : decode cX10_sleeps 56 = .ok (.bipush 10, 2) := by decide +kernel
theorem dX10_sleeps_58 : decode cX10_sleeps 58 = .ok (.iload 5, 2) := by decide +kernel
theorem dX10_sleeps_60 : decode cX10_sleeps 60 = .ok (.imul, 1) := by decide +kernel
theorem dX10_sleeps_61 : decode cX10_sleeps 61 = .ok (.iload_n 1, 1) := by decide +kernel
theorem dX10_sleeps_62 : decode cX10_sleeps 62 = .ok (.iadd, 1) := by decide +kernel
theorem dX10_sleeps_63 : decode cX10_sleeps 63 = .ok (.iload 4, 2) := by decide +kernel
theorem dX10_sleeps_65 : decode cX10_sleeps 65 = .ok (.iconst (-1), 1) := by decide +kernel
theorem dX10_sleeps_66 : decode cX10_sleeps 66 = .ok (.if_icmp .ne 9, 3) := by decide +kernel
theorem dX10_sleeps_69 : decode cX10_sleeps 69 = .ok (.sipush 255, 3) := by decide +kernel
theorem dX10_sleeps_72 : decode cX10_sleeps 72 = .ok (.goto 5, 3) := by decide +kernel
theorem dX10_sleeps_75 : decode cX10_sleeps 75 = .ok (.iload 4, 2) := by decide +kernel
theorem dX10_sleeps_77 : decode cX10_sleeps 77 = .ok (.iastore, 1) := by decide +kernel
theorem dX10_sleeps_78 : decode cX10_sleeps 78 = .ok (.iinc 5 1, 3) := by decide +kernel
theorem dX10_sleeps_81 : decode cX10_sleeps 81 = .ok (.goto (-35), 3) := by decide +kernel
theorem dX10_sleeps_84 : decode cX10_sleeps 84 = .ok (.iconst 1, 1) := by decide +kernel
theorem dX10_sleeps_85 : decode cX10_sleeps 85 = .ok (.ireturn, 1) := by decide +kernel
theorem dX10_ghost_0 : decode cX10_ghost 0 = .ok (.iload_n 1, 1) := by decide +kernel
theorem dX10_ghost_1 : decode cX10_ghost 1 = .ok (.iconst 0, 1) := by decide +kernel
theorem dX10_ghost_2 : decode cX10_ghost 2 = .ok (.bipush 9, 2) := by decide +kernel
theorem dX10_ghost_4 : decode cX10_ghost 4 = .ok (.invokestatic 175, 3) := by decide +kernel
theorem dX10_ghost_7 : decode cX10_ghost 7 = .ok (.ifCond .eq 45, 3) := by decide +kernel
theorem dX10_ghost_10 : decode cX10_ghost 10 = .ok (.iload_n 2, 1) := by decide +kernel
theorem dX10_ghost_11 : decode cX10_ghost 11 = .ok (.iconst 0, 1) := by decide +kernel
theorem dX10_ghost_12 : decode cX10_ghost 12 = .ok (.iconst 4, 1) := by decide +kernel
theorem dX10_ghost_13 : decode cX10_ghost 13 = .ok (.invokestatic 175, 3) := by decide +kernel
theorem dX10_ghost_16 : decode cX10_ghost 16 = .ok (.ifCond .eq 36, 3) := by decide +kernel
theorem dX10_ghost_19 : decode cX10_ghost 19 = .ok (.iload_n 3, 1) := by decide +kernel
theorem dX10_ghost_20 : decode cX10_ghost 20 = .ok (.iconst 0, 1) := by decide +kernel
theorem dX10_ghost_21 : decode cX10_ghost 21 = .ok (.bipush 9, 2) := by decide +kernel
theorem dX10_ghost_23 : decode cX10_ghost 23 = .ok (.invokestatic 175, 3) := by decide +kernel
theorem dX10_ghost_26 : decode cX10_ghost 26 = .ok (.ifCond .eq 26, 3) := by decide +kernel
theorem dX10_ghost_29 : decode cX10_ghost 29 = .ok (.iload 4, 2) := by decide +kernel
theorem dX10_ghost_31 : decode cX10_ghost 31 = .ok (.iconst 0, 1) := by decide +kernel
theorem dX10_ghost_32 : decode cX10_ghost 32 = .ok (.bipush 9, 2) := by decide +kernel
theorem dX10_ghost_34 : decode cX10_ghost 34 = .ok (.invokestatic 175, 3) := by decide +kernel
theorem dX10_ghost_37 : decode cX10_ghost 37 = .ok (.ifCond .eq 15, 3) := by decide +kernel
theorem dX10_ghost_40 : decode cX10_ghost 40 = .ok (.iload 5, 2) := by decide +kernel
theorem dX10_ghost_42 : decode cX10_ghost 42 = .ok (.iconst 0, 1) := by decide +kernel
theorem dX10_ghost_43 : decode cX10_ghost 43 = .ok (.sipush 999, 3) := by decide +kernel
theorem dX10_ghost_46 : decode cX10_ghost 46 = .ok (.invokestatic 175, 3) := by decide +kernel
theorem dX10_ghost_49 : decode cX10_ghost 49 = .ok (.ifCond .ne 5, 3) := by decide +kernel
theorem dX10_ghost_52 : decode cX10_ghost 52 = .ok (.iconst 0, 1) := by decide +kernel
theorem dX10_ghost_53 : decode cX10_ghost 53 = .ok (.ireturn, 1) := by decide +kernel
theorem dX10_ghost_54 : decode cX10_ghost 54 = .ok (.aload_n 0, 1) := by decide +kernel
theorem dX10_ghost_55 : decode cX10_ghost 55 = .ok (.aload_n 0, 1) := by decide +kernel
theorem dX10_ghost_56 : decode cX10_ghost 56 = .ok (.getfield 168, 3) := by decide +kernel
theorem dX10_ghost_59 : decode cX10_ghost 59 = .ok (.iconst 1, 1) := by decide +kernel
theorem dX10_ghost_60 : decode cX10_ghost 60 = .ok (.iload_n 1, 1) := by decide +kernel
theorem dX10_ghost_61 : decode cX10_ghost 61 = .ok (.ishl, 1) := by decide +kernel
theorem dX10_ghost_62 : decode cX10_ghost 62 = .ok (.ior, 1) := by decide +kernel
theorem dX10_ghost_63 : decode cX10_ghost 63 = .ok (.putfield 168, 3) := by decide +kernel
theorem dX10_ghost_66 : decode cX10_ghost 66 = .ok (.aload_n 0, 1) := by decide +kernel
theorem dX10_ghost_67 : decode cX10_ghost 67 = .ok (.getfield 19, 3) := by decide +kernel
theorem dX10_ghost_70 : decode cX10_ghost 70 = .ok (.iload_n 1, 1) := by decide +kernel
theorem dX10_ghost_71 : decode cX10_ghost 71 = .ok (.iload_n 2, 1) := by decide +kernel
theorem dX10_ghost_72 : decode cX10_ghost 72 = .ok (.iastore, 1) := by decide +kernel
theorem dX10_ghost_73 : decode cX10_ghost 73 = .ok (.aload_n 0, 1) := by decide +kernel
theorem dX10_ghost_74 : decode cX10_ghost 74 = .ok (.getfield 22, 3) := by decide +kernel
theorem dX10_ghost_77 : decode cX10_ghost 77 = .ok (.iload_n 1, 1) := by decide +kernel
theorem dX10_ghost_78 : decode cX10_ghost 78 = .ok (.iload_n 3, 1) := by decide +kernel
theorem dX10_ghost_79 : decode cX10_ghost 79 = .ok (.iastore, 1) := by decide +kernel
theorem dX10_ghost_80 : decode cX10_ghost 80 = .ok (.aload_n 0, 1) := by decide +kernel
theorem dX10_ghost_81 : decode cX10_ghost 81 = .ok (.getfield 25, 3) := by decide +kernel
theorem dX10_ghost_84 : decode cX10_ghost 84 = .ok (.iload_n 1, 1) := by decide +kernel
theorem dX10_ghost_85 : decode cX10_ghost 85 = .ok (.iload 4, 2) := by decide +kernel
theorem dX10_ghost_87 : decode cX10_ghost 87 = .ok (.iastore, 1) := by decide +kernel
theorem dX10_ghost_88 : decode cX10_ghost 88 = .ok (.aload_n 0, 1) := by decide +kernel
theorem dX10_ghost_89 : decode cX10_ghost 89 = .ok (.getfield 28, 3) := by decide +kernel
theorem dX10_ghost_92 : decode cX10_ghost 92 = .ok (.iload_n 1, 1) := by decide +kernel
theorem dX10_ghost_93 : decode cX10_ghost 93 = .ok (.iload 5, 2) := by decide +kernel
theorem dX10_ghost_95 : decode cX10_ghost 95 = .ok (.iastore, 1) := by decide +kernel
theorem dX10_ghost_96 : decode cX10_ghost 96 = .ok (.aload_n 0, 1) := by decide +kernel
theorem dX10_ghost_97 : decode cX10_ghost 97 = .ok (.getfield 31, 3) := by decide +kernel
theorem dX10_ghost_100 : decode cX10_ghost 100 = .ok (.bipush 20, 2) := by decide +kernel
theorem dX10_ghost_102 : decode cX10_ghost 102 = .ok (.iload_n 1, 1) := by decide +kernel
theorem dX10_ghost_103 : decode cX10_ghost 103 = .ok (.iadd, 1) := by decide +kernel
theorem dX10_ghost_104 : decode cX10_ghost 104 = .ok (.iconst 0, 1) := by decide +kernel
theorem dX10_ghost_105 : decode cX10_ghost 105 = .ok (.iastore, 1) := by decide +kernel
theorem dX10_ghost_106 : decode cX10_ghost 106 = .ok (.aload_n 0, 1) := by decide +kernel
theorem dX10_ghost_107 : decode cX10_ghost 107 = .ok (.getfield 31, 3) := by decide +kernel
theorem dX10_ghost_110 : decode cX10_ghost 110 = .ok (.bipush 30, 2) := by decide +kernel
theorem dX10_ghost_112 : decode cX10_ghost 112 = .ok (.iload_n 1, 1) := by decide +kernel
theorem dX10_ghost_113 : decode cX10_ghost 113 = .ok (.iadd, 1) := by decide +kernel
theorem dX10_ghost_114 : decode cX10_ghost 114 = .ok (.iconst 0, 1) := by decide +kernel
theorem dX10_ghost_115 : decode cX10_ghost 115 = .ok (.iastore, 1) := by decide +kernel
theorem dX10_ghost_116 : decode cX10_ghost 116 = .ok (.iconst 1, 1) := by decide +kernel
theorem dX10_ghost_117 : decode cX10_ghost 117 = .ok (.ireturn, 1) := by decide +kernel
theorem dX10_types_0 : decode cX10_types 0 = .ok (.iconst 3, 1) := by decide +kernel
theorem dX10_types_1 : decode cX10_types 1 = .ok (.istore_n 2, 1) := by decide +kernel
theorem dX10_types_2 : decode cX10_types 2 = .ok (.iload_n 2, 1) := by decide +kernel
theorem dX10_types_3 : decode cX10_types 3 = .ok (.ifCond .lt 35, 3) := by decide +kernel
theorem dX10_types_6 : decode cX10_types 6 = .ok (.aload_n 0, 1) := by decide +kernel
theorem dX10_types_7 : decode cX10_types 7 = .ok (.getfield 34, 3) := by decide +kernel
theorem dX10_types_10 : decode cX10_types 10 = .ok (.aload_n 0, 1) := by decide +kernel
theorem dX10_types_11 : decode cX10_types 11 = .ok (.getfield 188, 3) := by decide +kernel
theorem dX10_types_14 : decode cX10_types 14 = .ok (.iload_n 1, 1) := by decide +kernel
theorem dX10_types_15 : decode cX10_types 15 = .ok (.bipush 8, 2) := by decide +kernel
theorem dX10_types_17 : decode cX10_types 17 = .ok (.iload_n 2, 1) := by decide +kernel
theorem dX10_types_18 : decode cX10_types 18 = .ok (.imul, 1) := by decide +kernel
theorem dX10_types_19 : decode cX10_types 19 = .ok (.ishr, 1) := by decide +kernel
theorem dX10_types_20 : decode cX10_types 20 = .ok (.i2b, 1) := by decide +kernel
theorem dX10_types_21 : decode cX10_types 21 = .ok (.bastore, 1) := by decide +kernel
theorem dX10_types_22 : decode cX10_types 22 = .ok (.aload_n 0, 1) := by decide +kernel
theorem dX10_types_23 : decode cX10_types 23 = .ok (.aload_n 0, 1) := by decide +kernel
theorem dX10_types_24 : decode cX10_types 24 = .ok (.getfield 188, 3) := by decide +kernel
theorem dX10_types_27 : decode cX10_types 27 = .ok (.iconst 1, 1) := by decide +kernel
theorem dX10_types_28 : decode cX10_types 28 = .ok (.iadd, 1) := by decide +kernel
theorem dX10_types_29 : decode cX10_types 29 = .ok (.putfield 188, 3) := by decide +kernel
theorem dX10_types_32 : decode cX10_types 32 = .ok (.iinc 2 (-1), 3) := by decide +kernel
theorem dX10_types_35 : decode cX10_types 35 = .ok (.goto (-33), 3) := by decide +kernel
theorem dX10_types_38 : decode cX10_types 38 = .ok (.return_, 1) := by decide +kernel
theorem dX10_feed_0 : decode cX10_feed 0 = .ok (.aload_n 0, 1) := by decide +kernel
theorem dX10_feed_1 : decode cX10_feed 1 = .ok (.getfield 188, 3) := by decide +kernel
theorem dX10_feed_4 : decode cX10_feed 4 = .ok (.bipush 20, 2) := by decide +kernel
theorem dX10_feed_6 : decode cX10_feed 6 = .ok (.iadd, 1) := by decide +kernel
theorem dX10_feed_7 : decode cX10_feed 7 = .ok (.sipush 220, 3) := by decide +kernel
theorem dX10_feed_10 : decode cX10_feed 10 = .ok (.if_icmp .le 5, 3) := by decide +kernel
theorem dX10_feed_13 : decode cX10_feed 13 = .ok (.iconst (-1), 1) := by decide +kernel
theorem dX10_feed_14 : decode cX10_feed 14 = .ok (.ireturn, 1) := by decide +kernel
theorem dX10_feed_15 : decode cX10_feed 15 = .ok (.aload_n 0, 1) := by decide +kernel
theorem dX10_feed_16 : decode cX10_feed 16 = .ok (.iload_n 1, 1) := by decide +kernel
theorem dX10_feed_17 : decode cX10_feed 17 = .ok (.invokevirtual 191, 3) := by decide +kernel
theorem dX10_feed_20 : decode cX10_feed 20 = .ok (.aload_n 0, 1) := by decide +kernel
theorem dX10_feed_21 : decode cX10_feed 21 = .ok (.iload_n 2, 1) := by decide +kernel
theorem dX10_feed_22 : decode cX10_feed 22 = .ok (.invokevirtual 191, 3) := by decide +kernel
theorem dX10_feed_25 : decode cX10_feed 25 = .ok (.aload_n 0, 1) := by decide +kernel
theorem dX10_feed_26 : decode cX10_feed 26 = .ok (.iload_n 3, 1) := by decide +kernel
theorem dX10_feed_27 : decode cX10_feed 27 = .ok (.invokevirtual 191, 3) := by decide +kernel
theorem dX10_feed_30 : decode cX10_feed 30 = .ok (.aload_n 0, 1) := by decide +kernel
theorem dX10_feed_31 : decode cX10_feed 31 = .ok (.iload 4, 2) := by decide +kernel
theorem dX10_feed_33 : decode cX10_feed 33 = .ok (.invokevirtual 191, 3) := by decide +kernel
theorem dX10_feed_36 : decode cX10_feed 36 = .ok (.aload_n 0, 1) := by decide +kernel
theorem dX10_feed_37 : decode cX10_feed 37 = .ok (.iload 5, 2) := by decide +kernel
theorem dX10_feed_39 : decode cX10_feed 39 = .ok (.invokevirtual 191, 3) := by decide +kernel
theorem dX10_feed_42 : decode cX10_feed 42 = .ok (.aload_n 0, 1) := by decide +kernel
theorem dX10_feed_43 : decode cX10_feed 43 = .ok (.getfield 188, 3) := by decide +kernel
theorem dX10_feed_46 : decode cX10_feed 46 = .ok (.ireturn, 1) := by decide +kernel
theorem dX10_readsOne_0 : decode cX10_readsOne 0 = .ok (.aload_n 0, 1) := by decide +kernel
theorem dX10_readsOne_1 : decode cX10_readsOne 1 = .ok (.invokevirtual 195, 3) := by decide +kernel
theorem dX10_readsOne_4 : decode cX10_readsOne 4 = .ok (.ifCond .eq 14, 3) := by decide +kernel
theorem dX10_readsOne_7 : decode cX10_readsOne 7 = .ok (.aload_n 0, 1) := by decide +kernel
theorem dX10_readsOne_8 : decode cX10_readsOne 8 = .ok (.invokevirtual 199, 3) := by decide +kernel
theorem dX10_readsOne_11 : decode cX10_readsOne 11 = .ok (.bipush 48, 2) := by decide +kernel
theorem dX10_readsOne_13 : decode cX10_readsOne 13 = .ok (.isub, 1) := by decide +kernel
theorem dX10_readsOne_14 : decode cX10_readsOne 14 = .ok (.iload_n 1, 1) := by decide +kernel
theorem dX10_readsOne_15 : decode cX10_readsOne 15 = .ok (.if_icmp .le 13, 3) := by decide +kernel
theorem dX10_readsOne_18 : decode cX10_readsOne 18 = .ok (.aload_n 0, 1) := by decide +kernel
theorem dX10_readsOne_19 : decode cX10_readsOne 19 = .ok (.iconst 1, 1) := by decide +kernel
theorem dX10_readsOne_20 : decode cX10_readsOne 20 = .ok (.aload_n 0, 1) := by decide +kernel
theorem dX10_readsOne_21 : decode cX10_readsOne 21 = .ok (.getfield 203, 3) := by decide +kernel
theorem dX10_readsOne_24 : decode cX10_readsOne 24 = .ok (.invokevirtual 206, 3) := by decide +kernel
theorem dX10_readsOne_27 : decode cX10_readsOne 27 = .ok (.ireturn, 1) := by decide +kernel
theorem dX10_readsOne_28 : decode cX10_readsOne 28 = .ok (.aload_n 0, 1) := by decide +kernel
theorem dX10_readsOne_29 : decode cX10_readsOne 29 = .ok (.aload_n 0, 1) := by decide +kernel
theorem dX10_readsOne_30 : decode cX10_readsOne 30 = .ok (.invokevirtual 199, 3) := by decide +kernel
theorem dX10_readsOne_33 : decode cX10_readsOne 33 = .ok (.bipush 48, 2) := by decide +kernel
theorem dX10_readsOne_35 : decode cX10_readsOne 35 = .ok (.isub, 1) := by decide +kernel
theorem dX10_readsOne_36 : decode cX10_readsOne 36 = .ok (.putfield 209, 3) := by decide +kernel
theorem dX10_readsOne_39 : decode cX10_readsOne 39 = .ok (.aload_n 0, 1) := by decide +kernel
theorem dX10_readsOne_40 : decode cX10_readsOne 40 = .ok (.aload_n 0, 1) := by decide +kernel
theorem dX10_readsOne_41 : decode cX10_readsOne 41 = .ok (.getfield 203, 3) := by decide +kernel
theorem dX10_readsOne_44 : decode cX10_readsOne 44 = .ok (.iconst 1, 1) := by decide +kernel
theorem dX10_readsOne_45 : decode cX10_readsOne 45 = .ok (.iadd, 1) := by decide +kernel
theorem dX10_readsOne_46 : decode cX10_readsOne 46 = .ok (.putfield 203, 3) := by decide +kernel
theorem dX10_readsOne_49 : decode cX10_readsOne 49 = .ok (.iconst 1, 1) := by decide +kernel
theorem dX10_readsOne_50 : decode cX10_readsOne 50 = .ok (.ireturn, 1) := by decide +kernel
theorem dX10_readsRoom_0 : decode cX10_readsRoom 0 = .ok (.aload_n 0, 1) := by decide +kernel
theorem dX10_readsRoom_1 : decode cX10_readsRoom 1 = .ok (.getfield 203, 3) := by decide +kernel
theorem dX10_readsRoom_4 : decode cX10_readsRoom 4 = .ok (.istore_n 1, 1) := by decide +kernel
theorem dX10_readsRoom_5 : decode cX10_readsRoom 5 = .ok (.aload_n 0, 1) := by decide +kernel
theorem dX10_readsRoom_6 : decode cX10_readsRoom 6 = .ok (.iconst 0, 1) := by decide +kernel
theorem dX10_readsRoom_7 : decode cX10_readsRoom 7 = .ok (.putfield 209, 3) := by decide +kernel
theorem dX10_readsRoom_10 : decode cX10_readsRoom 10 = .ok (.aload_n 0, 1) := by decide +kernel
theorem dX10_readsRoom_11 : decode cX10_readsRoom 11 = .ok (.invokevirtual 195, 3) := by decide +kernel
theorem dX10_readsRoom_14 : decode cX10_readsRoom 14 = .ok (.ifCond .eq 45, 3) := by decide +kernel
theorem dX10_readsRoom_17 : decode cX10_readsRoom 17 = .ok (.aload_n 0, 1) := by decide +kernel
theorem dX10_readsRoom_18 : decode cX10_readsRoom 18 = .ok (.getfield 203, 3) := by decide +kernel
theorem dX10_readsRoom_21 : decode cX10_readsRoom 21 = .ok (.iload_n 1, 1) := by decide +kernel
theorem dX10_readsRoom_22 : decode cX10_readsRoom 22 = .ok (.iconst 2, 1) := by decide +kernel
theorem dX10_readsRoom_23 : decode cX10_readsRoom 23 = .ok (.iadd, 1) := by decide +kernel
theorem dX10_readsRoom_24 : decode cX10_readsRoom 24 = .ok (.if_icmp .ge 35, 3) := by decide +kernel
theorem dX10_readsRoom_27 : decode cX10_readsRoom 27 = .ok (.aload_n 0, 1) := by decide +kernel
theorem dX10_readsRoom_28 : decode cX10_readsRoom 28 = .ok (.bipush 10, 2) := by decide +kernel
theorem dX10_readsRoom_30 : decode cX10_readsRoom 30 = .ok (.aload_n 0, 1) := by decide +kernel
theorem dX10_readsRoom_31 : decode cX10_readsRoom 31 = .ok (.getfield 209, 3) := by decide +kernel
theorem dX10_readsRoom_34 : decode cX10_readsRoom 34 = .ok (.imul, 1) := by decide +kernel
theorem dX10_readsRoom_35 : decode cX10_readsRoom 35 = .ok (.aload_n 0, 1) := by decide +kernel
theorem dX10_readsRoom_36 : decode cX10_readsRoom 36 = .ok (.invokevirtual 199, 3) := by decide +kernel
theorem dX10_readsRoom_39 : decode cX10_readsRoom 39 = .ok (.iadd, 1) := by decide +kernel
theorem dX10_readsRoom_40 : decode cX10_readsRoom 40 = .ok (.bipush 48, 2) := by decide +kernel
theorem dX10_readsRoom_42 : decode cX10_readsRoom 42 = .ok (.isub, 1) := by decide +kernel
theorem dX10_readsRoom_43 : decode cX10_readsRoom 43 = .ok (.putfield 209, 3) := by decide +kernel
theorem dX10_readsRoom_46 : decode cX10_readsRoom 46 = .ok (.aload_n 0, 1) := by decide +kernel
theorem dX10_readsRoom_47 : decode cX10_readsRoom 47 = .ok (.aload_n 0, 1) := by decide +kernel
theorem dX10_readsRoom_48 : decode cX10_readsRoom 48 = .ok (.getfield 203, 3) := by decide +kernel
theorem dX10_readsRoom_51 : decode cX10_readsRoom 51 = .ok (.iconst 1, 1) := by decide +kernel
theorem dX10_readsRoom_52 : decode cX10_readsRoom 52 = .ok (.iadd, 1) := by decide +kernel
theorem dX10_readsRoom_53 : decode cX10_readsRoom 53 = .ok (.putfield 203, 3) := by decide +kernel
theorem dX10_readsRoom_56 : decode cX10_readsRoom 56 = .ok (.goto (-46), 3) := by decide +kernel
theorem dX10_readsRoom_59 : decode cX10_readsRoom 59 = .ok (.aload_n 0, 1) := by decide +kernel
theorem dX10_readsRoom_60 : decode cX10_readsRoom 60 = .ok (.getfield 203, 3) := by decide +kernel
theorem dX10_readsRoom_63 : decode cX10_readsRoom 63 = .ok (.iload_n 1, 1) := by decide +kernel
theorem dX10_readsRoom_64 : decode cX10_readsRoom 64 = .ok (.if_icmp .ne 13, 3) := by decide +kernel
theorem dX10_readsRoom_67 : decode cX10_readsRoom 67 = .ok (.aload_n 0, 1) := by decide +kernel
theorem dX10_readsRoom_68 : decode cX10_readsRoom 68 = .ok (.iconst 1, 1) := by decide +kernel
theorem dX10_readsRoom_69 : decode cX10_readsRoom 69 = .ok (.aload_n 0, 1) := by decide +kernel
theorem dX10_readsRoom_70 : decode cX10_readsRoom 70 = .ok (.getfield 203, 3) := by decide +kernel
theorem dX10_readsRoom_73 : decode cX10_readsRoom 73 = .ok (.invokevirtual 206, 3) := by decide +kernel
theorem dX10_readsRoom_76 : decode cX10_readsRoom 76 = .ok (.ireturn, 1) := by decide +kernel
theorem dX10_readsRoom_77 : decode cX10_readsRoom 77 = .ok (.aload_n 0, 1) := by decide +kernel
theorem dX10_readsRoom_78 : decode cX10_readsRoom 78 = .ok (.getfield 209, 3) := by decide +kernel
theorem dX10_readsRoom_81 : decode cX10_readsRoom 81 = .ok (.invokestatic 171, 3) := by decide +kernel
theorem dX10_readsRoom_84 : decode cX10_readsRoom 84 = .ok (.ifCond .ne 12, 3) := by decide +kernel
theorem dX10_readsRoom_87 : decode cX10_readsRoom 87 = .ok (.aload_n 0, 1) := by decide +kernel
theorem dX10_readsRoom_88 : decode cX10_readsRoom 88 = .ok (.iconst 3, 1) := by decide +kernel
theorem dX10_readsRoom_89 : decode cX10_readsRoom 89 = .ok (.iload_n 1, 1) := by decide +kernel
theorem dX10_readsRoom_90 : decode cX10_readsRoom 90 = .ok (.invokevirtual 206, 3) := by decide +kernel
theorem dX10_readsRoom_93 : decode cX10_readsRoom 93 = .ok (.ifCond .eq 7, 3) := by decide +kernel
theorem dX10_readsRoom_96 : decode cX10_readsRoom 96 = .ok (.iconst 1, 1) := by decide +kernel
theorem dX10_readsRoom_97 : decode cX10_readsRoom 97 = .ok (.goto 4, 3) := by decide +kernel
theorem dX10_readsRoom_100 : decode cX10_readsRoom 100 = .ok (.iconst 0, 1) := by decide +kernel
theorem dX10_readsRoom_101 : decode cX10_readsRoom 101 = .ok (.ireturn, 1) := by decide +kernel
theorem dX10_readsWalk_0 : decode cX10_readsWalk 0 = .ok (.aload_n 0, 1) := by decide +kernel
theorem dX10_readsWalk_1 : decode cX10_readsWalk 1 = .ok (.invokevirtual 195, 3) := by decide +kernel
theorem dX10_readsWalk_4 : decode cX10_readsWalk 4 = .ok (.ifCond .ne 13, 3) := by decide +kernel
theorem dX10_readsWalk_7 : decode cX10_readsWalk 7 = .ok (.aload_n 0, 1) := by decide +kernel
theorem dX10_readsWalk_8 : decode cX10_readsWalk 8 = .ok (.iconst 1, 1) := by decide +kernel
theorem dX10_readsWalk_9 : decode cX10_readsWalk 9 = .ok (.aload_n 0, 1) := by decide +kernel
theorem dX10_readsWalk_10 : decode cX10_readsWalk 10 = .ok (.getfield 203, 3) := by decide +kernel
theorem dX10_readsWalk_13 : decode cX10_readsWalk 13 = .ok (.invokevirtual 206, 3) := by decide +kernel
theorem dX10_readsWalk_16 : decode cX10_readsWalk 16 = .ok (.ireturn, 1) := by decide +kernel
theorem dX10_readsWalk_17 : decode cX10_readsWalk 17 = .ok (.aload_n 0, 1) := by decide +kernel
theorem dX10_readsWalk_18 : decode cX10_readsWalk 18 = .ok (.getfield 212, 3) := by decide +kernel
theorem dX10_readsWalk_21 : decode cX10_readsWalk 21 = .ok (.bipush 16, 2) := by decide +kernel
theorem dX10_readsWalk_23 : decode cX10_readsWalk 23 = .ok (.if_icmp .ne 13, 3) := by decide +kernel
theorem dX10_readsWalk_26 : decode cX10_readsWalk 26 = .ok (.aload_n 0, 1) := by decide +kernel
theorem dX10_readsWalk_27 : decode cX10_readsWalk 27 = .ok (.iconst 4, 1) := by decide +kernel
theorem dX10_readsWalk_28 : decode cX10_readsWalk 28 = .ok (.aload_n 0, 1) := by decide +kernel
theorem dX10_readsWalk_29 : decode cX10_readsWalk 29 = .ok (.getfield 203, 3) := by decide +kernel
theorem dX10_readsWalk_32 : decode cX10_readsWalk 32 = .ok (.invokevirtual 206, 3) := by decide +kernel
theorem dX10_readsWalk_35 : decode cX10_readsWalk 35 = .ok (.ireturn, 1) := by decide +kernel
theorem dX10_readsWalk_36 : decode cX10_readsWalk 36 = .ok (.aload_n 0, 1) := by decide +kernel
theorem dX10_readsWalk_37 : decode cX10_readsWalk 37 = .ok (.bipush 9, 2) := by decide +kernel
theorem dX10_readsWalk_39 : decode cX10_readsWalk 39 = .ok (.invokevirtual 215, 3) := by decide +kernel
theorem dX10_readsWalk_42 : decode cX10_readsWalk 42 = .ok (.pop, 1) := by decide +kernel
theorem dX10_readsWalk_43 : decode cX10_readsWalk 43 = .ok (.aload_n 0, 1) := by decide +kernel
theorem dX10_readsWalk_44 : decode cX10_readsWalk 44 = .ok (.getfield 47, 3) := by decide +kernel
theorem dX10_readsWalk_47 : decode cX10_readsWalk 47 = .ok (.aload_n 0, 1) := by decide +kernel
theorem dX10_readsWalk_48 : decode cX10_readsWalk 48 = .ok (.getfield 212, 3) := by decide +kernel
theorem dX10_readsWalk_51 : decode cX10_readsWalk 51 = .ok (.aload_n 0, 1) := by decide +kernel
theorem dX10_readsWalk_52 : decode cX10_readsWalk 52 = .ok (.getfield 209, 3) := by decide +kernel
theorem dX10_readsWalk_55 : decode cX10_readsWalk 55 = .ok (.iastore, 1) := by decide +kernel
theorem dX10_readsWalk_56 : decode cX10_readsWalk 56 = .ok (.aload_n 0, 1) := by decide +kernel
theorem dX10_readsWalk_57 : decode cX10_readsWalk 57 = .ok (.bipush 64, 2) := by decide +kernel
theorem dX10_readsWalk_59 : decode cX10_readsWalk 59 = .ok (.invokevirtual 218, 3) := by decide +kernel
theorem dX10_readsWalk_62 : decode cX10_readsWalk 62 = .ok (.ifCond .eq 12, 3) := by decide +kernel
theorem dX10_readsWalk_65 : decode cX10_readsWalk 65 = .ok (.aload_n 0, 1) := by decide +kernel
theorem dX10_readsWalk_66 : decode cX10_readsWalk 66 = .ok (.bipush 6, 2) := by decide +kernel
theorem dX10_readsWalk_68 : decode cX10_readsWalk 68 = .ok (.invokevirtual 215, 3) := by decide +kernel
theorem dX10_readsWalk_71 : decode cX10_readsWalk 71 = .ok (.ifCond .ne 5, 3) := by decide +kernel
theorem dX10_readsWalk_74 : decode cX10_readsWalk 74 = .ok (.iconst 0, 1) := by decide +kernel
theorem dX10_readsWalk_75 : decode cX10_readsWalk 75 = .ok (.ireturn, 1) := by decide +kernel
theorem dX10_readsWalk_76 : decode cX10_readsWalk 76 = .ok (.aload_n 0, 1) := by decide +kernel
theorem dX10_readsWalk_77 : decode cX10_readsWalk 77 = .ok (.getfield 50, 3) := by decide +kernel
theorem dX10_readsWalk_80 : decode cX10_readsWalk 80 = .ok (.aload_n 0, 1) := by decide +kernel
theorem dX10_readsWalk_81 : decode cX10_readsWalk 81 = .ok (.getfield 212, 3) := by decide +kernel
theorem dX10_readsWalk_84 : decode cX10_readsWalk 84 = .ok (.aload_n 0, 1) := by decide +kernel
theorem dX10_readsWalk_85 : decode cX10_readsWalk 85 = .ok (.getfield 209, 3) := by decide +kernel
theorem dX10_readsWalk_88 : decode cX10_readsWalk 88 = .ok (.iastore, 1) := by decide +kernel
theorem dX10_readsWalk_89 : decode cX10_readsWalk 89 = .ok (.aload_n 0, 1) := by decide +kernel
theorem dX10_readsWalk_90 : decode cX10_readsWalk 90 = .ok (.bipush 45, 2) := by decide +kernel
theorem dX10_readsWalk_92 : decode cX10_readsWalk 92 = .ok (.invokevirtual 218, 3) := by decide +kernel
theorem dX10_readsWalk_95 : decode cX10_readsWalk 95 = .ok (.ifCond .eq 10, 3) := by decide +kernel
theorem dX10_readsWalk_98 : decode cX10_readsWalk 98 = .ok (.aload_n 0, 1) := by decide +kernel
theorem dX10_readsWalk_99 : decode cX10_readsWalk 99 = .ok (.invokevirtual 221, 3) := by decide +kernel
theorem dX10_readsWalk_102 : decode cX10_readsWalk 102 = .ok (.ifCond .ne 5, 3) := by decide +kernel
theorem dX10_readsWalk_105 : decode cX10_readsWalk 105 = .ok (.iconst 0, 1) := by decide +kernel
theorem dX10_readsWalk_106 : decode cX10_readsWalk 106 = .ok (.ireturn, 1) := by decide +kernel
theorem dX10_readsWalk_107 : decode cX10_readsWalk 107 = .ok (.aload_n 0, 1) := by decide +kernel
theorem dX10_readsWalk_108 : decode cX10_readsWalk 108 = .ok (.getfield 53, 3) := by decide +kernel
theorem dX10_readsWalk_111 : decode cX10_readsWalk 111 = .ok (.aload_n 0, 1) := by decide +kernel
theorem dX10_readsWalk_112 : decode cX10_readsWalk 112 = .ok (.getfield 212, 3) := by decide +kernel
theorem dX10_readsWalk_115 : decode cX10_readsWalk 115 = .ok (.aload_n 0, 1) := by decide +kernel
theorem dX10_readsWalk_116 : decode cX10_readsWalk 116 = .ok (.getfield 209, 3) := by decide +kernel
theorem dX10_readsWalk_119 : decode cX10_readsWalk 119 = .ok (.iastore, 1) := by decide +kernel
theorem dX10_readsWalk_120 : decode cX10_readsWalk 120 = .ok (.aload_n 0, 1) := by decide +kernel
theorem dX10_readsWalk_121 : decode cX10_readsWalk 121 = .ok (.getfield 60, 3) := by decide +kernel
theorem dX10_readsWalk_124 : decode cX10_readsWalk 124 = .ok (.aload_n 0, 1) := by decide +kernel
theorem dX10_readsWalk_125 : decode cX10_readsWalk 125 = .ok (.getfield 212, 3) := by decide +kernel
theorem dX10_readsWalk_128 : decode cX10_readsWalk 128 = .ok (.aload_n 0, 1) := by decide +kernel
theorem dX10_readsWalk_129 : decode cX10_readsWalk 129 = .ok (.invokevirtual 199, 3) := by decide +kernel
theorem dX10_readsWalk_132 : decode cX10_readsWalk 132 = .ok (.bipush 43, 2) := by decide +kernel
theorem dX10_readsWalk_134 : decode cX10_readsWalk 134 = .ok (.if_icmp .ne 7, 3) := by decide +kernel
theorem dX10_readsWalk_137 : decode cX10_readsWalk 137 = .ok (.iconst 1, 1) := by decide +kernel
theorem dX10_readsWalk_138 : decode cX10_readsWalk 138 = .ok (.goto 4, 3) := by decide +kernel
theorem dX10_readsWalk_141 : decode cX10_readsWalk 141 = .ok (.iconst 0, 1) := by decide +kernel
theorem dX10_readsWalk_142 : decode cX10_readsWalk 142 = .ok (.bastore, 1) := by decide +kernel
theorem dX10_readsWalk_143 : decode cX10_readsWalk 143 = .ok (.aload_n 0, 1) := by decide +kernel
theorem dX10_readsWalk_144 : decode cX10_readsWalk 144 = .ok (.invokevirtual 199, 3) := by decide +kernel
theorem dX10_readsWalk_147 : decode cX10_readsWalk 147 = .ok (.bipush 43, 2) := by decide +kernel
theorem dX10_readsWalk_149 : decode cX10_readsWalk 149 = .ok (.if_icmp .ne 13, 3) := by decide +kernel
theorem dX10_readsWalk_152 : decode cX10_readsWalk 152 = .ok (.aload_n 0, 1) := by decide +kernel
theorem dX10_readsWalk_153 : decode cX10_readsWalk 153 = .ok (.aload_n 0, 1) := by decide +kernel
theorem dX10_readsWalk_154 : decode cX10_readsWalk 154 = .ok (.getfield 203, 3) := by decide +kernel
theorem dX10_readsWalk_157 : decode cX10_readsWalk 157 = .ok (.iconst 1, 1) := by decide +kernel
theorem dX10_readsWalk_158 : decode cX10_readsWalk 158 = .ok (.iadd, 1) := by decide +kernel
theorem dX10_readsWalk_159 : decode cX10_readsWalk 159 = .ok (.putfield 203, 3) := by decide +kernel
theorem dX10_readsWalk_162 : decode cX10_readsWalk 162 = .ok (.aload_n 0, 1) := by decide +kernel
theorem dX10_readsWalk_163 : decode cX10_readsWalk 163 = .ok (.aload_n 0, 1) := by decide +kernel
theorem dX10_readsWalk_164 : decode cX10_readsWalk 164 = .ok (.getfield 212, 3) := by decide +kernel
theorem dX10_readsWalk_167 : decode cX10_readsWalk 167 = .ok (.iconst 1, 1) := by decide +kernel
theorem dX10_readsWalk_168 : decode cX10_readsWalk 168 = .ok (.iadd, 1) := by decide +kernel
theorem dX10_readsWalk_169 : decode cX10_readsWalk 169 = .ok (.putfield 212, 3) := by decide +kernel
theorem dX10_readsWalk_172 : decode cX10_readsWalk 172 = .ok (.iconst 1, 1) := by decide +kernel
theorem dX10_readsWalk_173 : decode cX10_readsWalk 173 = .ok (.ireturn, 1) := by decide +kernel
theorem dX10_rota_0 : decode cX10_rota 0 = .ok (.iload_n 1, 1) := by decide +kernel
theorem dX10_rota_1 : decode cX10_rota 1 = .ok (.iconst 1, 1) := by decide +kernel
theorem dX10_rota_2 : decode cX10_rota 2 = .ok (.sipush 160, 3) := by decide +kernel
theorem dX10_rota_5 : decode cX10_rota 5 = .ok (.invokestatic 175, 3) := by decide +kernel
theorem dX10_rota_8 : decode cX10_rota 8 = .ok (.ifCond .eq 11, 3) := by decide +kernel
theorem dX10_rota_11 : decode cX10_rota 11 = .ok (.iload_n 1, 1) := by decide +kernel
theorem dX10_rota_12 : decode cX10_rota 12 = .ok (.aload_n 0, 1) := by decide +kernel
theorem dX10_rota_13 : decode cX10_rota 13 = .ok (.getfield 188, 3) := by decide +kernel
theorem dX10_rota_16 : decode cX10_rota 16 = .ok (.if_icmp .le 5, 3) := by decide +kernel
theorem dX10_rota_19 : decode cX10_rota 19 = .ok (.iconst (-1), 1) := by decide +kernel
theorem dX10_rota_20 : decode cX10_rota 20 = .ok (.ireturn, 1) := by decide +kernel
theorem dX10_rota_21 : decode cX10_rota 21 = .ok (.aload_n 0, 1) := by decide +kernel
theorem dX10_rota_22 : decode cX10_rota 22 = .ok (.iconst 0, 1) := by decide +kernel
theorem dX10_rota_23 : decode cX10_rota 23 = .ok (.putfield 203, 3) := by decide +kernel
theorem dX10_rota_26 : decode cX10_rota 26 = .ok (.aload_n 0, 1) := by decide +kernel
theorem dX10_rota_27 : decode cX10_rota 27 = .ok (.iload_n 1, 1) := by decide +kernel
theorem dX10_rota_28 : decode cX10_rota 28 = .ok (.putfield 224, 3) := by decide +kernel
theorem dX10_rota_31 : decode cX10_rota 31 = .ok (.aload_n 0, 1) := by decide +kernel
theorem dX10_rota_32 : decode cX10_rota 32 = .ok (.iconst 0, 1) := by decide +kernel
theorem dX10_rota_33 : decode cX10_rota 33 = .ok (.putfield 212, 3) := by decide +kernel
theorem dX10_rota_36 : decode cX10_rota 36 = .ok (.aload_n 0, 1) := by decide +kernel
theorem dX10_rota_37 : decode cX10_rota 37 = .ok (.invokevirtual 227, 3) := by decide +kernel
theorem dX10_rota_40 : decode cX10_rota 40 = .ok (.istore_n 2, 1) := by decide +kernel
theorem dX10_rota_41 : decode cX10_rota 41 = .ok (.iload_n 2, 1) := by decide +kernel
theorem dX10_rota_42 : decode cX10_rota 42 = .ok (.ifCond .eq 39, 3) := by decide +kernel
theorem dX10_rota_45 : decode cX10_rota 45 = .ok (.aload_n 0, 1) := by decide +kernel
theorem dX10_rota_46 : decode cX10_rota 46 = .ok (.getfield 203, 3) := by decide +kernel
theorem dX10_rota_49 : decode cX10_rota 49 = .ok (.aload_n 0, 1) := by decide +kernel
theorem dX10_rota_50 : decode cX10_rota 50 = .ok (.getfield 224, 3) := by decide +kernel
theorem dX10_rota_53 : decode cX10_rota 53 = .ok (.if_icmp .ge 28, 3) := by decide +kernel
theorem dX10_rota_56 : decode cX10_rota 56 = .ok (.aload_n 0, 1) := by decide +kernel
theorem dX10_rota_57 : decode cX10_rota 57 = .ok (.bipush 59, 2) := by decide +kernel
theorem dX10_rota_59 : decode cX10_rota 59 = .ok (.invokevirtual 218, 3) := by decide +kernel
theorem dX10_rota_62 : decode cX10_rota 62 = .ok (.ifCond .eq 14, 3) := by decide +kernel
theorem dX10_rota_65 : decode cX10_rota 65 = .ok (.aload_n 0, 1) := by decide +kernel
theorem dX10_rota_66 : decode cX10_rota 66 = .ok (.invokevirtual 227, 3) := by decide +kernel
theorem dX10_rota_69 : decode cX10_rota 69 = .ok (.ifCond .eq 7, 3) := by decide +kernel
theorem dX10_rota_72 : decode cX10_rota 72 = .ok (.iconst 1, 1) := by decide +kernel
theorem dX10_rota_73 : decode cX10_rota 73 = .ok (.goto 4, 3) := by decide +kernel
theorem dX10_rota_76 : decode cX10_rota 76 = .ok (.iconst 0, 1) := by decide +kernel
theorem dX10_rota_77 : decode cX10_rota 77 = .ok (.istore_n 2, 1) := by decide +kernel
theorem dX10_rota_78 : decode cX10_rota 78 = .ok (.goto (-37), 3) := by decide +kernel
theorem dX10_rota_81 : decode cX10_rota 81 = .ok (.aload_n 0, 1) := by decide +kernel
theorem dX10_rota_82 : decode cX10_rota 82 = .ok (.iconst 0, 1) := by decide +kernel
theorem dX10_rota_83 : decode cX10_rota 83 = .ok (.putfield 188, 3) := by decide +kernel
theorem dX10_rota_86 : decode cX10_rota 86 = .ok (.iload_n 2, 1) := by decide +kernel
theorem dX10_rota_87 : decode cX10_rota 87 = .ok (.ifCond .ne 8, 3) := by decide +kernel
theorem dX10_rota_90 : decode cX10_rota 90 = .ok (.aload_n 0, 1) := by decide +kernel
theorem dX10_rota_91 : decode cX10_rota 91 = .ok (.getfield 230, 3) := by decide +kernel
theorem dX10_rota_94 : decode cX10_rota 94 = .ok (.ireturn, 1) := by decide +kernel
theorem dX10_rota_95 : decode cX10_rota 95 = .ok (.aload_n 0, 1) := by decide +kernel
theorem dX10_rota_96 : decode cX10_rota 96 = .ok (.aload_n 0, 1) := by decide +kernel
theorem dX10_rota_97 : decode cX10_rota 97 = .ok (.getfield 212, 3) := by decide +kernel
theorem dX10_rota_100 : decode cX10_rota 100 = .ok (.putfield 233, 3) := by decide +kernel
theorem dX10_rota_103 : decode cX10_rota 103 = .ok (.iconst 0, 1) := by decide +kernel
theorem dX10_rota_104 : decode cX10_rota 104 = .ok (.istore_n 3, 1) := by decide +kernel
theorem dX10_rota_105 : decode cX10_rota 105 = .ok (.iload_n 3, 1) := by decide +kernel
theorem dX10_rota_106 : decode cX10_rota 106 = .ok (.aload_n 0, 1) := by decide +kernel
theorem dX10_rota_107 : decode cX10_rota 107 = .ok (.getfield 233, 3) := by decide +kernel
theorem dX10_rota_110 : decode cX10_rota 110 = .ok (.if_icmp .ge 57, 3) := by decide +kernel
theorem dX10_rota_113 : decode cX10_rota 113 = .ok (.aload_n 0, 1) := by decide +kernel
theorem dX10_rota_114 : decode cX10_rota 114 = .ok (.getfield 38, 3) := by decide +kernel
theorem dX10_rota_117 : decode cX10_rota 117 = .ok (.iload_n 3, 1) := by decide +kernel
theorem dX10_rota_118 : decode cX10_rota 118 = .ok (.aload_n 0, 1) := by decide +kernel
theorem dX10_rota_119 : decode cX10_rota 119 = .ok (.getfield 47, 3) := by decide +kernel
theorem dX10_rota_122 : decode cX10_rota 122 = .ok (.iload_n 3, 1) := by decide +kernel
theorem dX10_rota_123 : decode cX10_rota 123 = .ok (.iaload, 1) := by decide +kernel
theorem dX10_rota_124 : decode cX10_rota 124 = .ok (.iastore, 1) := by decide +kernel
theorem dX10_rota_125 : decode cX10_rota 125 = .ok (.aload_n 0, 1) := by decide +kernel
theorem dX10_rota_126 : decode cX10_rota 126 = .ok (.getfield 41, 3) := by decide +kernel
theorem dX10_rota_129 : decode cX10_rota 129 = .ok (.iload_n 3, 1) := by decide +kernel
theorem dX10_rota_130 : decode cX10_rota 130 = .ok (.aload_n 0, 1) := by decide +kernel
theorem dX10_rota_131 : decode cX10_rota 131 = .ok (.getfield 50, 3) := by decide +kernel
theorem dX10_rota_134 : decode cX10_rota 134 = .ok (.iload_n 3, 1) := by decide +kernel
theorem dX10_rota_135 : decode cX10_rota 135 = .ok (.iaload, 1) := by decide +kernel
theorem dX10_rota_136 : decode cX10_rota 136 = .ok (.iastore, 1) := by decide +kernel
theorem dX10_rota_137 : decode cX10_rota 137 = .ok (.aload_n 0, 1) := by decide +kernel
theorem dX10_rota_138 : decode cX10_rota 138 = .ok (.getfield 44, 3) := by decide +kernel
theorem dX10_rota_141 : decode cX10_rota 141 = .ok (.iload_n 3, 1) := by decide +kernel
theorem dX10_rota_142 : decode cX10_rota 142 = .ok (.aload_n 0, 1) := by decide +kernel
theorem dX10_rota_143 : decode cX10_rota 143 = .ok (.getfield 53, 3) := by decide +kernel
theorem dX10_rota_146 : decode cX10_rota 146 = .ok (.iload_n 3, 1) := by decide +kernel
theorem dX10_rota_147 : decode cX10_rota 147 = .ok (.iaload, 1) := by decide +kernel
theorem dX10_rota_148 : decode cX10_rota 148 = .ok (.iastore, 1) := by decide +kernel
theorem dX10_rota_149 : decode cX10_rota 149 = .ok (.aload_n 0, 1) := by decide +kernel
theorem dX10_rota_150 : decode cX10_rota 150 = .ok (.getfield 56, 3) := by decide +kernel
theorem dX10_rota_153 : decode cX10_rota 153 = .ok (.iload_n 3, 1) := by decide +kernel
theorem dX10_rota_154 : decode cX10_rota 154 = .ok (.aload_n 0, 1) := by decide +kernel
theorem dX10_rota_155 : decode cX10_rota 155 = .ok (.getfield 60, 3) := by decide +kernel
theorem dX10_rota_158 : decode cX10_rota 158 = .ok (.iload_n 3, 1) := by decide +kernel
theorem dX10_rota_159 : decode cX10_rota 159 = .ok (.baload, 1) := by decide +kernel
theorem dX10_rota_160 : decode cX10_rota 160 = .ok (.bastore, 1) := by decide +kernel
theorem dX10_rota_161 : decode cX10_rota 161 = .ok (.iinc 3 1, 3) := by decide +kernel
theorem dX10_rota_164 : decode cX10_rota 164 = .ok (.goto (-59), 3) := by decide +kernel
theorem dX10_rota_167 : decode cX10_rota 167 = .ok (.aload_n 0, 1) := by decide +kernel
theorem dX10_rota_168 : decode cX10_rota 168 = .ok (.getfield 233, 3) := by decide +kernel
theorem dX10_rota_171 : decode cX10_rota 171 = .ok (.ireturn, 1) := by decide +kernel
theorem dX10_counts_0 : decode cX10_counts 0 = .ok (.aload_n 0, 1) := by decide +kernel
theorem dX10_counts_1 : decode cX10_counts 1 = .ok (.aload_n 0, 1) := by decide +kernel
theorem dX10_counts_2 : decode cX10_counts 2 = .ok (.getfield 38, 3) := by decide +kernel
theorem dX10_counts_5 : decode cX10_counts 5 = .ok (.iload_n 1, 1) := by decide +kernel
theorem dX10_counts_6 : decode cX10_counts 6 = .ok (.iaload, 1) := by decide +kernel
theorem dX10_counts_7 : decode cX10_counts 7 = .ok (.invokevirtual 236, 3) := by decide +kernel
theorem dX10_counts_10 : decode cX10_counts 10 = .ok (.ifCond .ne 5, 3) := by decide +kernel
theorem dX10_counts_13 : decode cX10_counts 13 = .ok (.iconst 0, 1) := by decide +kernel
theorem dX10_counts_14 : decode cX10_counts 14 = .ok (.ireturn, 1) := by decide +kernel
theorem dX10_counts_15 : decode cX10_counts 15 = .ok (.iconst 0, 1) := by decide +kernel
theorem dX10_counts_16 : decode cX10_counts 16 = .ok (.istore_n 2, 1) := by decide +kernel
theorem dX10_counts_17 : decode cX10_counts 17 = .ok (.iload_n 2, 1) := by decide +kernel
theorem dX10_counts_18 : decode cX10_counts 18 = .ok (.iload_n 1, 1) := by decide +kernel
theorem dX10_counts_19 : decode cX10_counts 19 = .ok (.if_icmp .ge 41, 3) := by decide +kernel
theorem dX10_counts_22 : decode cX10_counts 22 = .ok (.aload_n 0, 1) := by decide +kernel
theorem dX10_counts_23 : decode cX10_counts 23 = .ok (.getfield 38, 3) := by decide +kernel
theorem dX10_counts_26 : decode cX10_counts 26 = .ok (.iload_n 2, 1) := by decide +kernel
theorem dX10_counts_27 : decode cX10_counts 27 = .ok (.iaload, 1) := by decide +kernel
theorem dX10_counts_28 : decode cX10_counts 28 = .ok (.aload_n 0, 1) := by decide +kernel
theorem dX10_counts_29 : decode cX10_counts 29 = .ok (.getfield 38, 3) := by decide +kernel
theorem dX10_counts_32 : decode cX10_counts 32 = .ok (.iload_n 1, 1) := by decide +kernel
theorem dX10_counts_33 : decode cX10_counts 33 = .ok (.iaload, 1) := by decide +kernel
theorem dX10_counts_34 : decode cX10_counts 34 = .ok (.if_icmp .ne 20, 3) := by decide +kernel
theorem dX10_counts_37 : decode cX10_counts 37 = .ok (.aload_n 0, 1) := by decide +kernel
theorem dX10_counts_38 : decode cX10_counts 38 = .ok (.getfield 41, 3) := by decide +kernel
theorem dX10_counts_41 : decode cX10_counts 41 = .ok (.iload_n 2, 1) := by decide +kernel
theorem dX10_counts_42 : decode cX10_counts 42 = .ok (.iaload, 1) := by decide +kernel
theorem dX10_counts_43 : decode cX10_counts 43 = .ok (.aload_n 0, 1) := by decide +kernel
theorem dX10_counts_44 : decode cX10_counts 44 = .ok (.getfield 41, 3) := by decide +kernel
theorem dX10_counts_47 : decode cX10_counts 47 = .ok (.iload_n 1, 1) := by decide +kernel
theorem dX10_counts_48 : decode cX10_counts 48 = .ok (.iaload, 1) := by decide +kernel
theorem dX10_counts_49 : decode cX10_counts 49 = .ok (.if_icmp .ne 5, 3) := by decide +kernel
theorem dX10_counts_52 : decode cX10_counts 52 = .ok (.iconst 0, 1) := by decide +kernel
theorem dX10_counts_53 : decode cX10_counts 53 = .ok (.ireturn, 1) := by decide +kernel
theorem dX10_counts_54 : decode cX10_counts 54 = .ok (.iinc 2 1, 3) := by decide +kernel
theorem dX10_counts_57 : decode cX10_counts 57 = .ok (.goto (-40), 3) := by decide +kernel
theorem dX10_counts_60 : decode cX10_counts 60 = .ok (.iconst 1, 1) := by decide +kernel
theorem dX10_counts_61 : decode cX10_counts 61 = .ok (.ireturn, 1) := by decide +kernel
theorem dX10_walk_0 : decode cX10_walk 0 = .ok (.iload_n 1, 1) := by decide +kernel
theorem dX10_walk_1 : decode cX10_walk 1 = .ok (.ifCond .lt 11, 3) := by decide +kernel
theorem dX10_walk_4 : decode cX10_walk 4 = .ok (.iload_n 1, 1) := by decide +kernel
theorem dX10_walk_5 : decode cX10_walk 5 = .ok (.aload_n 0, 1) := by decide +kernel
theorem dX10_walk_6 : decode cX10_walk 6 = .ok (.getfield 233, 3) := by decide +kernel
theorem dX10_walk_9 : decode cX10_walk 9 = .ok (.if_icmp .lt 5, 3) := by decide +kernel
theorem dX10_walk_12 : decode cX10_walk 12 = .ok (.iconst (-1), 1) := by decide +kernel
theorem dX10_walk_13 : decode cX10_walk 13 = .ok (.ireturn, 1) := by decide +kernel
theorem dX10_walk_14 : decode cX10_walk 14 = .ok (.iload_n 2, 1) := by decide +kernel
theorem dX10_walk_15 : decode cX10_walk 15 = .ok (.tableswitch 83 0 4 #[33, 40, 47, 54, 69], 33) := by decide +kernel
theorem dX10_walk_48 : decode cX10_walk 48 = .ok (.aload_n 0, 1) := by decide +kernel
theorem dX10_walk_49 : decode cX10_walk 49 = .ok (.getfield 38, 3) := by decide +kernel
theorem dX10_walk_52 : decode cX10_walk 52 = .ok (.iload_n 1, 1) := by decide +kernel
theorem dX10_walk_53 : decode cX10_walk 53 = .ok (.iaload, 1) := by decide +kernel
theorem dX10_walk_54 : decode cX10_walk 54 = .ok (.ireturn, 1) := by decide +kernel
theorem dX10_walk_55 : decode cX10_walk 55 = .ok (.aload_n 0, 1) := by decide +kernel
theorem dX10_walk_56 : decode cX10_walk 56 = .ok (.getfield 41, 3) := by decide +kernel
theorem dX10_walk_59 : decode cX10_walk 59 = .ok (.iload_n 1, 1) := by decide +kernel
theorem dX10_walk_60 : decode cX10_walk 60 = .ok (.iaload, 1) := by decide +kernel
theorem dX10_walk_61 : decode cX10_walk 61 = .ok (.ireturn, 1) := by decide +kernel
theorem dX10_walk_62 : decode cX10_walk 62 = .ok (.aload_n 0, 1) := by decide +kernel
theorem dX10_walk_63 : decode cX10_walk 63 = .ok (.getfield 44, 3) := by decide +kernel
theorem dX10_walk_66 : decode cX10_walk 66 = .ok (.iload_n 1, 1) := by decide +kernel
theorem dX10_walk_67 : decode cX10_walk 67 = .ok (.iaload, 1) := by decide +kernel
theorem dX10_walk_68 : decode cX10_walk 68 = .ok (.ireturn, 1) := by decide +kernel
theorem dX10_walk_69 : decode cX10_walk 69 = .ok (.aload_n 0, 1) := by decide +kernel
theorem dX10_walk_70 : decode cX10_walk 70 = .ok (.getfield 56, 3) := by decide +kernel
theorem dX10_walk_73 : decode cX10_walk 73 = .ok (.iload_n 1, 1) := by decide +kernel
theorem dX10_walk_74 : decode cX10_walk 74 = .ok (.baload, 1) := by decide +kernel
theorem dX10_walk_75 : decode cX10_walk 75 = .ok (.ifCond .eq 7, 3) := by decide +kernel
theorem dX10_walk_78 : decode cX10_walk 78 = .ok (.iconst 1, 1) := by decide +kernel
theorem dX10_walk_79 : decode cX10_walk 79 = .ok (.goto 4, 3) := by decide +kernel
theorem dX10_walk_82 : decode cX10_walk 82 = .ok (.iconst 0, 1) := by decide +kernel
theorem dX10_walk_83 : decode cX10_walk 83 = .ok (.ireturn, 1) := by decide +kernel
theorem dX10_walk_84 : decode cX10_walk 84 = .ok (.aload_n 0, 1) := by decide +kernel
theorem dX10_walk_85 : decode cX10_walk 85 = .ok (.iload_n 1, 1) := by decide +kernel
theorem dX10_walk_86 : decode cX10_walk 86 = .ok (.invokevirtual 239, 3) := by decide +kernel
theorem dX10_walk_89 : decode cX10_walk 89 = .ok (.ifCond .eq 7, 3) := by decide +kernel
theorem dX10_walk_92 : decode cX10_walk 92 = .ok (.iconst 1, 1) := by decide +kernel
theorem dX10_walk_93 : decode cX10_walk 93 = .ok (.goto 4, 3) := by decide +kernel
theorem dX10_walk_96 : decode cX10_walk 96 = .ok (.iconst 0, 1) := by decide +kernel
theorem dX10_walk_97 : decode cX10_walk 97 = .ok (.ireturn, 1) := by decide +kernel
theorem dX10_walk_98 : decode cX10_walk 98 = .ok (.iconst (-1), 1) := by decide +kernel
theorem dX10_walk_99 : decode cX10_walk 99 = .ok (.ireturn, 1) := by decide +kernel
theorem dX10_here_0 : decode cX10_here 0 = .ok (.aload_n 0, 1) := by decide +kernel
theorem dX10_here_1 : decode cX10_here 1 = .ok (.getfield 203, 3) := by decide +kernel
theorem dX10_here_4 : decode cX10_here 4 = .ok (.aload_n 0, 1) := by decide +kernel
theorem dX10_here_5 : decode cX10_here 5 = .ok (.getfield 224, 3) := by decide +kernel
theorem dX10_here_8 : decode cX10_here 8 = .ok (.if_icmp .ge 19, 3) := by decide +kernel
theorem dX10_here_11 : decode cX10_here 11 = .ok (.aload_n 0, 1) := by decide +kernel
theorem dX10_here_12 : decode cX10_here 12 = .ok (.getfield 34, 3) := by decide +kernel
theorem dX10_here_15 : decode cX10_here 15 = .ok (.aload_n 0, 1) := by decide +kernel
theorem dX10_here_16 : decode cX10_here 16 = .ok (.getfield 203, 3) := by decide +kernel
theorem dX10_here_19 : decode cX10_here 19 = .ok (.baload, 1) := by decide +kernel
theorem dX10_here_20 : decode cX10_here 20 = .ok (.sipush 255, 3) := by decide +kernel
theorem dX10_here_23 : decode cX10_here 23 = .ok (.iand, 1) := by decide +kernel
theorem dX10_here_24 : decode cX10_here 24 = .ok (.goto 4, 3) := by decide +kernel
theorem dX10_here_27 : decode cX10_here 27 = .ok (.iconst (-1), 1) := by decide +kernel
theorem dX10_here_28 : decode cX10_here 28 = .ok (.ireturn, 1) := by decide +kernel
theorem dX10_isDigit_0 : decode cX10_isDigit 0 = .ok (.aload_n 0, 1) := by decide +kernel
theorem dX10_isDigit_1 : decode cX10_isDigit 1 = .ok (.invokevirtual 199, 3) := by decide +kernel
theorem dX10_isDigit_4 : decode cX10_isDigit 4 = .ok (.bipush 48, 2) := by decide +kernel
theorem dX10_isDigit_6 : decode cX10_isDigit 6 = .ok (.if_icmp .lt 16, 3) := by decide +kernel
theorem dX10_isDigit_9 : decode cX10_isDigit 9 = .ok (.aload_n 0, 1) := by decide +kernel
theorem dX10_isDigit_10 : decode cX10_isDigit 10 = .ok (.invokevirtual 199, 3) := by decide +kernel
theorem dX10_isDigit_13 : decode cX10_isDigit 13 = .ok (.bipush 57, 2) := by decide +kernel
theorem dX10_isDigit_15 : decode cX10_isDigit 15 = .ok (.if_icmp .gt 7, 3) := by decide +kernel
theorem dX10_isDigit_18 : decode cX10_isDigit 18 = .ok (.iconst 1, 1) := by decide +kernel
theorem dX10_isDigit_19 : decode cX10_isDigit 19 = .ok (.goto 4, 3) := by decide +kernel
theorem dX10_isDigit_22 : decode cX10_isDigit 22 = .ok (.iconst 0, 1) := by decide +kernel
theorem dX10_isDigit_23 : decode cX10_isDigit 23 = .ok (.ireturn, 1) := by decide +kernel
theorem dX10_wrongAt_0 : decode cX10_wrongAt 0 = .ok (.aload_n 0, 1) := by decide +kernel
theorem dX10_wrongAt_1 : decode cX10_wrongAt 1 = .ok (.sipush (-1000), 3) := by decide +kernel
theorem dX10_wrongAt_4 : decode cX10_wrongAt 4 = .ok (.iload_n 1, 1) := by decide +kernel
theorem dX10_wrongAt_5 : decode cX10_wrongAt 5 = .ok (.imul, 1) := by decide +kernel
theorem dX10_wrongAt_6 : decode cX10_wrongAt 6 = .ok (.iload_n 2, 1) := by decide +kernel
theorem dX10_wrongAt_7 : decode cX10_wrongAt 7 = .ok (.isub, 1) := by decide +kernel
theorem dX10_wrongAt_8 : decode cX10_wrongAt 8 = .ok (.putfield 230, 3) := by decide +kernel
theorem dX10_wrongAt_11 : decode cX10_wrongAt 11 = .ok (.iconst 0, 1) := by decide +kernel
theorem dX10_wrongAt_12 : decode cX10_wrongAt 12 = .ok (.ireturn, 1) := by decide +kernel
theorem dX10_takes_0 : decode cX10_takes 0 = .ok (.aload_n 0, 1) := by decide +kernel
theorem dX10_takes_1 : decode cX10_takes 1 = .ok (.invokevirtual 199, 3) := by decide +kernel
theorem dX10_takes_4 : decode cX10_takes 4 = .ok (.iload_n 1, 1) := by decide +kernel
theorem dX10_takes_5 : decode cX10_takes 5 = .ok (.if_icmp .eq 13, 3) := by decide +kernel
theorem dX10_takes_8 : decode cX10_takes 8 = .ok (.aload_n 0, 1) := by decide +kernel
theorem dX10_takes_9 : decode cX10_takes 9 = .ok (.iconst 1, 1) := by decide +kernel
theorem dX10_takes_10 : decode cX10_takes 10 = .ok (.aload_n 0, 1) := by decide +kernel
theorem dX10_takes_11 : decode cX10_takes 11 = .ok (.getfield 203, 3) := by decide +kernel
theorem dX10_takes_14 : decode cX10_takes 14 = .ok (.invokevirtual 206, 3) := by decide +kernel
theorem dX10_takes_17 : decode cX10_takes 17 = .ok (.ireturn, 1) := by decide +kernel
theorem dX10_takes_18 : decode cX10_takes 18 = .ok (.aload_n 0, 1) := by decide +kernel
theorem dX10_takes_19 : decode cX10_takes 19 = .ok (.aload_n 0, 1) := by decide +kernel
theorem dX10_takes_20 : decode cX10_takes 20 = .ok (.getfield 203, 3) := by decide +kernel
theorem dX10_takes_23 : decode cX10_takes 23 = .ok (.iconst 1, 1) := by decide +kernel
theorem dX10_takes_24 : decode cX10_takes 24 = .ok (.iadd, 1) := by decide +kernel
theorem dX10_takes_25 : decode cX10_takes 25 = .ok (.putfield 203, 3) := by decide +kernel
theorem dX10_takes_28 : decode cX10_takes 28 = .ok (.iconst 1, 1) := by decide +kernel
theorem dX10_takes_29 : decode cX10_takes 29 = .ok (.ireturn, 1) := by decide +kernel
theorem dX10_readsNumber_0 : decode cX10_readsNumber 0 = .ok (.aload_n 0, 1) := by decide +kernel
theorem dX10_readsNumber_1 : decode cX10_readsNumber 1 = .ok (.getfield 203, 3) := by decide +kernel
theorem dX10_readsNumber_4 : decode cX10_readsNumber 4 = .ok (.istore_n 1, 1) := by decide +kernel
theorem dX10_readsNumber_5 : decode cX10_readsNumber 5 = .ok (.aload_n 0, 1) := by decide +kernel
theorem dX10_readsNumber_6 : decode cX10_readsNumber 6 = .ok (.iconst 0, 1) := by decide +kernel
theorem dX10_readsNumber_7 : decode cX10_readsNumber 7 = .ok (.putfield 209, 3) := by decide +kernel
theorem dX10_readsNumber_10 : decode cX10_readsNumber 10 = .ok (.aload_n 0, 1) := by decide +kernel
theorem dX10_readsNumber_11 : decode cX10_readsNumber 11 = .ok (.invokevirtual 195, 3) := by decide +kernel
theorem dX10_readsNumber_14 : decode cX10_readsNumber 14 = .ok (.ifCond .eq 55, 3) := by decide +kernel
theorem dX10_readsNumber_17 : decode cX10_readsNumber 17 = .ok (.aload_n 0, 1) := by decide +kernel
theorem dX10_readsNumber_18 : decode cX10_readsNumber 18 = .ok (.getfield 203, 3) := by decide +kernel
theorem dX10_readsNumber_21 : decode cX10_readsNumber 21 = .ok (.iload_n 1, 1) := by decide +kernel
theorem dX10_readsNumber_22 : decode cX10_readsNumber 22 = .ok (.iconst 5, 1) := by decide +kernel
theorem dX10_readsNumber_23 : decode cX10_readsNumber 23 = .ok (.iadd, 1) := by decide +kernel
theorem dX10_readsNumber_24 : decode cX10_readsNumber 24 = .ok (.if_icmp .ne 13, 3) := by decide +kernel
theorem dX10_readsNumber_27 : decode cX10_readsNumber 27 = .ok (.aload_n 0, 1) := by decide +kernel
theorem dX10_readsNumber_28 : decode cX10_readsNumber 28 = .ok (.iconst 2, 1) := by decide +kernel
theorem dX10_readsNumber_29 : decode cX10_readsNumber 29 = .ok (.aload_n 0, 1) := by decide +kernel
theorem dX10_readsNumber_30 : decode cX10_readsNumber 30 = .ok (.getfield 203, 3) := by decide +kernel
theorem dX10_readsNumber_33 : decode cX10_readsNumber 33 = .ok (.invokevirtual 206, 3) := by decide +kernel
theorem dX10_readsNumber_36 : decode cX10_readsNumber 36 = .ok (.ireturn, 1) := by decide +kernel
theorem dX10_readsNumber_37 : decode cX10_readsNumber 37 = .ok (.aload_n 0, 1) := by decide +kernel
theorem dX10_readsNumber_38 : decode cX10_readsNumber 38 = .ok (.bipush 10, 2) := by decide +kernel
theorem dX10_readsNumber_40 : decode cX10_readsNumber 40 = .ok (.aload_n 0, 1) := by decide +kernel
theorem dX10_readsNumber_41 : decode cX10_readsNumber 41 = .ok (.getfield 209, 3) := by decide +kernel
theorem dX10_readsNumber_44 : decode cX10_readsNumber 44 = .ok (.imul, 1) := by decide +kernel
theorem dX10_readsNumber_45 : decode cX10_readsNumber 45 = .ok (.aload_n 0, 1) := by decide +kernel
theorem dX10_readsNumber_46 : decode cX10_readsNumber 46 = .ok (.invokevirtual 199, 3) := by decide +kernel
theorem dX10_readsNumber_49 : decode cX10_readsNumber 49 = .ok (.iadd, 1) := by decide +kernel
theorem dX10_readsNumber_50 : decode cX10_readsNumber 50 = .ok (.bipush 48, 2) := by decide +kernel
theorem dX10_readsNumber_52 : decode cX10_readsNumber 52 = .ok (.isub, 1) := by decide +kernel
theorem dX10_readsNumber_53 : decode cX10_readsNumber 53 = .ok (.putfield 209, 3) := by decide +kernel
theorem dX10_readsNumber_56 : decode cX10_readsNumber 56 = .ok (.aload_n 0, 1) := by decide +kernel
theorem dX10_readsNumber_57 : decode cX10_readsNumber 57 = .ok (.aload_n 0, 1) := by decide +kernel
theorem dX10_readsNumber_58 : decode cX10_readsNumber 58 = .ok (.getfield 203, 3) := by decide +kernel
theorem dX10_readsNumber_61 : decode cX10_readsNumber 61 = .ok (.iconst 1, 1) := by decide +kernel
theorem dX10_readsNumber_62 : decode cX10_readsNumber 62 = .ok (.iadd, 1) := by decide +kernel
theorem dX10_readsNumber_63 : decode cX10_readsNumber 63 = .ok (.putfield 203, 3) := by decide +kernel
theorem dX10_readsNumber_66 : decode cX10_readsNumber 66 = .ok (.goto (-56), 3) := by decide +kernel
theorem dX10_readsNumber_69 : decode cX10_readsNumber 69 = .ok (.iconst 1, 1) := by decide +kernel
theorem dX10_readsNumber_70 : decode cX10_readsNumber 70 = .ok (.ireturn, 1) := by decide +kernel
theorem dX10_notes_0 : decode cX10_notes 0 = .ok (.aload_n 0, 1) := by decide +kernel
theorem dX10_notes_1 : decode cX10_notes 1 = .ok (.getfield 63, 3) := by decide +kernel
theorem dX10_notes_4 : decode cX10_notes 4 = .ok (.aload_n 0, 1) := by decide +kernel
theorem dX10_notes_5 : decode cX10_notes 5 = .ok (.getfield 242, 3) := by decide +kernel
theorem dX10_notes_8 : decode cX10_notes 8 = .ok (.ldc 245, 2) := by decide +kernel
theorem dX10_notes_10 : decode cX10_notes 10 = .ok (.iload_n 1, 1) := by decide +kernel
theorem dX10_notes_11 : decode cX10_notes 11 = .ok (.imul, 1) := by decide +kernel
theorem dX10_notes_12 : decode cX10_notes 12 = .ok (.iload_n 2, 1) := by decide +kernel
theorem dX10_notes_13 : decode cX10_notes 13 = .ok (.iadd, 1) := by decide +kernel
theorem dX10_notes_14 : decode cX10_notes 14 = .ok (.iastore, 1) := by decide +kernel
theorem dX10_notes_15 : decode cX10_notes 15 = .ok (.aload_n 0, 1) := by decide +kernel
theorem dX10_notes_16 : decode cX10_notes 16 = .ok (.aload_n 0, 1) := by decide +kernel
theorem dX10_notes_17 : decode cX10_notes 17 = .ok (.getfield 242, 3) := by decide +kernel
theorem dX10_notes_20 : decode cX10_notes 20 = .ok (.iconst 1, 1) := by decide +kernel
theorem dX10_notes_21 : decode cX10_notes 21 = .ok (.iadd, 1) := by decide +kernel
theorem dX10_notes_22 : decode cX10_notes 22 = .ok (.putfield 242, 3) := by decide +kernel
theorem dX10_notes_25 : decode cX10_notes 25 = .ok (.return_, 1) := by decide +kernel
theorem dX10_opens_0 : decode cX10_opens 0 = .ok (.aload_n 0, 1) := by decide +kernel
theorem dX10_opens_1 : decode cX10_opens 1 = .ok (.getfield 246, 3) := by decide +kernel
theorem dX10_opens_4 : decode cX10_opens 4 = .ok (.bipush 6, 2) := by decide +kernel
theorem dX10_opens_6 : decode cX10_opens 6 = .ok (.if_icmp .ne 13, 3) := by decide +kernel
theorem dX10_opens_9 : decode cX10_opens 9 = .ok (.aload_n 0, 1) := by decide +kernel
theorem dX10_opens_10 : decode cX10_opens 10 = .ok (.iconst 5, 1) := by decide +kernel
theorem dX10_opens_11 : decode cX10_opens 11 = .ok (.aload_n 0, 1) := by decide +kernel
theorem dX10_opens_12 : decode cX10_opens 12 = .ok (.getfield 203, 3) := by decide +kernel
theorem dX10_opens_15 : decode cX10_opens 15 = .ok (.invokevirtual 206, 3) := by decide +kernel
theorem dX10_opens_18 : decode cX10_opens 18 = .ok (.ireturn, 1) := by decide +kernel
theorem dX10_opens_19 : decode cX10_opens 19 = .ok (.aload_n 0, 1) := by decide +kernel
theorem dX10_opens_20 : decode cX10_opens 20 = .ok (.aload_n 0, 1) := by decide +kernel
theorem dX10_opens_21 : decode cX10_opens 21 = .ok (.getfield 246, 3) := by decide +kernel
theorem dX10_opens_24 : decode cX10_opens 24 = .ok (.iconst 1, 1) := by decide +kernel
theorem dX10_opens_25 : decode cX10_opens 25 = .ok (.iadd, 1) := by decide +kernel
theorem dX10_opens_26 : decode cX10_opens 26 = .ok (.putfield 246, 3) := by decide +kernel
theorem dX10_opens_29 : decode cX10_opens 29 = .ok (.aload_n 0, 1) := by decide +kernel
theorem dX10_opens_30 : decode cX10_opens 30 = .ok (.getfield 66, 3) := by decide +kernel
theorem dX10_opens_33 : decode cX10_opens 33 = .ok (.aload_n 0, 1) := by decide +kernel
theorem dX10_opens_34 : decode cX10_opens 34 = .ok (.getfield 249, 3) := by decide +kernel
theorem dX10_opens_37 : decode cX10_opens 37 = .ok (.ldc 245, 2) := by decide +kernel
theorem dX10_opens_39 : decode cX10_opens 39 = .ok (.iload_n 1, 1) := by decide +kernel
theorem dX10_opens_40 : decode cX10_opens 40 = .ok (.imul, 1) := by decide +kernel
theorem dX10_opens_41 : decode cX10_opens 41 = .ok (.iastore, 1) := by decide +kernel
theorem dX10_opens_42 : decode cX10_opens 42 = .ok (.aload_n 0, 1) := by decide +kernel
theorem dX10_opens_43 : decode cX10_opens 43 = .ok (.aload_n 0, 1) := by decide +kernel
theorem dX10_opens_44 : decode cX10_opens 44 = .ok (.getfield 249, 3) := by decide +kernel
theorem dX10_opens_47 : decode cX10_opens 47 = .ok (.iconst 1, 1) := by decide +kernel
theorem dX10_opens_48 : decode cX10_opens 48 = .ok (.iadd, 1) := by decide +kernel
theorem dX10_opens_49 : decode cX10_opens 49 = .ok (.putfield 249, 3) := by decide +kernel
theorem dX10_opens_52 : decode cX10_opens 52 = .ok (.aload_n 0, 1) := by decide +kernel
theorem dX10_opens_53 : decode cX10_opens 53 = .ok (.aload_n 0, 1) := by decide +kernel
theorem dX10_opens_54 : decode cX10_opens 54 = .ok (.getfield 203, 3) := by decide +kernel
theorem dX10_opens_57 : decode cX10_opens 57 = .ok (.iconst 1, 1) := by decide +kernel
theorem dX10_opens_58 : decode cX10_opens 58 = .ok (.iadd, 1) := by decide +kernel
theorem dX10_opens_59 : decode cX10_opens 59 = .ok (.putfield 203, 3) := by decide +kernel
theorem dX10_opens_62 : decode cX10_opens 62 = .ok (.iconst 1, 1) := by decide +kernel
theorem dX10_opens_63 : decode cX10_opens 63 = .ok (.ireturn, 1) := by decide +kernel
theorem dX10_waitTop_0 : decode cX10_waitTop 0 = .ok (.aload_n 0, 1) := by decide +kernel
theorem dX10_waitTop_1 : decode cX10_waitTop 1 = .ok (.getfield 249, 3) := by decide +kernel
theorem dX10_waitTop_4 : decode cX10_waitTop 4 = .ok (.ifCond .ne 7, 3) := by decide +kernel
theorem dX10_waitTop_7 : decode cX10_waitTop 7 = .ok (.iconst (-1), 1) := by decide +kernel
theorem dX10_waitTop_8 : decode cX10_waitTop 8 = .ok (.goto 17, 3) := by decide +kernel
theorem dX10_waitTop_11 : decode cX10_waitTop 11 = .ok (.aload_n 0, 1) := by decide +kernel
theorem dX10_waitTop_12 : decode cX10_waitTop 12 = .ok (.getfield 66, 3) := by decide +kernel
theorem dX10_waitTop_15 : decode cX10_waitTop 15 = .ok (.aload_n 0, 1) := by decide +kernel
theorem dX10_waitTop_16 : decode cX10_waitTop 16 = .ok (.getfield 249, 3) := by decide +kernel
theorem dX10_waitTop_19 : decode cX10_waitTop 19 = .ok (.iconst 1, 1) := by decide +kernel
theorem dX10_waitTop_20 : decode cX10_waitTop 20 = .ok (.isub, 1) := by decide +kernel
theorem dX10_waitTop_21 : decode cX10_waitTop 21 = .ok (.iaload, 1) := by decide +kernel
theorem dX10_waitTop_22 : decode cX10_waitTop 22 = .ok (.ldc 245, 2) := by decide +kernel
theorem dX10_waitTop_24 : decode cX10_waitTop 24 = .ok (.idiv, 1) := by decide +kernel
theorem dX10_waitTop_25 : decode cX10_waitTop 25 = .ok (.ireturn, 1) := by decide +kernel
theorem dX10_factOf_0 : decode cX10_factOf 0 = .ok (.iload_n 0, 1) := by decide +kernel
theorem dX10_factOf_1 : decode cX10_factOf 1 = .ok (.tableswitch 137 99 121 #[117, 137, 137, 137, 113, 122, 137, 137, 137, 134, 115, 109, 131, 125, 137, 107, 137, 111, 137, 128, 137, 137, 119], 107) := by decide +kernel
theorem dX10_factOf_108 : decode cX10_factOf 108 = .ok (.iconst 0, 1) := by decide +kernel
theorem dX10_factOf_109 : decode cX10_factOf 109 = .ok (.ireturn, 1) := by decide +kernel
theorem dX10_factOf_110 : decode cX10_factOf 110 = .ok (.iconst 1, 1) := by decide +kernel
theorem dX10_factOf_111 : decode cX10_factOf 111 = .ok (.ireturn, 1) := by decide +kernel
theorem dX10_factOf_112 : decode cX10_factOf 112 = .ok (.iconst 2, 1) := by decide +kernel
theorem dX10_factOf_113 : decode cX10_factOf 113 = .ok (.ireturn, 1) := by decide +kernel
theorem dX10_factOf_114 : decode cX10_factOf 114 = .ok (.iconst 3, 1) := by decide +kernel
theorem dX10_factOf_115 : decode cX10_factOf 115 = .ok (.ireturn, 1) := by decide +kernel
theorem dX10_factOf_116 : decode cX10_factOf 116 = .ok (.iconst 4, 1) := by decide +kernel
theorem dX10_factOf_117 : decode cX10_factOf 117 = .ok (.ireturn, 1) := by decide +kernel
theorem dX10_factOf_118 : decode cX10_factOf 118 = .ok (.iconst 5, 1) := by decide +kernel
theorem dX10_factOf_119 : decode cX10_factOf 119 = .ok (.ireturn, 1) := by decide +kernel
theorem dX10_factOf_120 : decode cX10_factOf 120 = .ok (.bipush 6, 2) := by decide +kernel
theorem dX10_factOf_122 : decode cX10_factOf 122 = .ok (.ireturn, 1) := by decide +kernel
theorem dX10_factOf_123 : decode cX10_factOf 123 = .ok (.bipush 7, 2) := by decide +kernel
theorem dX10_factOf_125 : decode cX10_factOf 125 = .ok (.ireturn, 1) := by decide +kernel
theorem dX10_factOf_126 : decode cX10_factOf 126 = .ok (.bipush 8, 2) := by decide +kernel
theorem dX10_factOf_128 : decode cX10_factOf 128 = .ok (.ireturn, 1) := by decide +kernel
theorem dX10_factOf_129 : decode cX10_factOf 129 = .ok (.bipush 9, 2) := by decide +kernel
theorem dX10_factOf_131 : decode cX10_factOf 131 = .ok (.ireturn, 1) := by decide +kernel
theorem dX10_factOf_132 : decode cX10_factOf 132 = .ok (.bipush 10, 2) := by decide +kernel
theorem dX10_factOf_134 : decode cX10_factOf 134 = .ok (.ireturn, 1) := by decide +kernel
theorem dX10_factOf_135 : decode cX10_factOf 135 = .ok (.bipush 11, 2) := by decide +kernel
theorem dX10_factOf_137 : decode cX10_factOf 137 = .ok (.ireturn, 1) := by decide +kernel
theorem dX10_factOf_138 : decode cX10_factOf 138 = .ok (.iconst (-1), 1) := by decide +kernel
theorem dX10_factOf_139 : decode cX10_factOf 139 = .ok (.ireturn, 1) := by decide +kernel
theorem dX10_sumSign_0 : decode cX10_sumSign 0 = .ok (.iload_n 0, 1) := by decide +kernel
theorem dX10_sumSign_1 : decode cX10_sumSign 1 = .ok (.bipush 43, 2) := by decide +kernel
theorem dX10_sumSign_3 : decode cX10_sumSign 3 = .ok (.if_icmp .ne 7, 3) := by decide +kernel
theorem dX10_sumSign_6 : decode cX10_sumSign 6 = .ok (.iconst 2, 1) := by decide +kernel
theorem dX10_sumSign_7 : decode cX10_sumSign 7 = .ok (.goto 45, 3) := by decide +kernel
theorem dX10_sumSign_10 : decode cX10_sumSign 10 = .ok (.iload_n 0, 1) := by decide +kernel
theorem dX10_sumSign_11 : decode cX10_sumSign 11 = .ok (.bipush 45, 2) := by decide +kernel
theorem dX10_sumSign_13 : decode cX10_sumSign 13 = .ok (.if_icmp .ne 7, 3) := by decide +kernel
theorem dX10_sumSign_16 : decode cX10_sumSign 16 = .ok (.iconst 3, 1) := by decide +kernel
theorem dX10_sumSign_17 : decode cX10_sumSign 17 = .ok (.goto 35, 3) := by decide +kernel
theorem dX10_sumSign_20 : decode cX10_sumSign 20 = .ok (.iload_n 0, 1) := by decide +kernel
theorem dX10_sumSign_21 : decode cX10_sumSign 21 = .ok (.bipush 42, 2) := by decide +kernel
theorem dX10_sumSign_23 : decode cX10_sumSign 23 = .ok (.if_icmp .ne 7, 3) := by decide +kernel
theorem dX10_sumSign_26 : decode cX10_sumSign 26 = .ok (.iconst 4, 1) := by decide +kernel
theorem dX10_sumSign_27 : decode cX10_sumSign 27 = .ok (.goto 25, 3) := by decide +kernel
theorem dX10_sumSign_30 : decode cX10_sumSign 30 = .ok (.iload_n 0, 1) := by decide +kernel
theorem dX10_sumSign_31 : decode cX10_sumSign 31 = .ok (.bipush 47, 2) := by decide +kernel
theorem dX10_sumSign_33 : decode cX10_sumSign 33 = .ok (.if_icmp .ne 7, 3) := by decide +kernel
theorem dX10_sumSign_36 : decode cX10_sumSign 36 = .ok (.iconst 5, 1) := by decide +kernel
theorem dX10_sumSign_37 : decode cX10_sumSign 37 = .ok (.goto 15, 3) := by decide +kernel
theorem dX10_sumSign_40 : decode cX10_sumSign 40 = .ok (.iload_n 0, 1) := by decide +kernel
theorem dX10_sumSign_41 : decode cX10_sumSign 41 = .ok (.bipush 37, 2) := by decide +kernel
theorem dX10_sumSign_43 : decode cX10_sumSign 43 = .ok (.if_icmp .ne 8, 3) := by decide +kernel
theorem dX10_sumSign_46 : decode cX10_sumSign 46 = .ok (.bipush 6, 2) := by decide +kernel
theorem dX10_sumSign_48 : decode cX10_sumSign 48 = .ok (.goto 4, 3) := by decide +kernel
theorem dX10_sumSign_51 : decode cX10_sumSign 51 = .ok (.iconst (-1), 1) := by decide +kernel
theorem dX10_sumSign_52 : decode cX10_sumSign 52 = .ok (.ireturn, 1) := by decide +kernel
theorem dX10_closesSums_0 : decode cX10_closesSums 0 = .ok (.aload_n 0, 1) := by decide +kernel
theorem dX10_closesSums_1 : decode cX10_closesSums 1 = .ok (.invokevirtual 252, 3) := by decide +kernel
theorem dX10_closesSums_4 : decode cX10_closesSums 4 = .ok (.iconst 4, 1) := by decide +kernel
theorem dX10_closesSums_5 : decode cX10_closesSums 5 = .ok (.if_icmp .lt 12, 3) := by decide +kernel
theorem dX10_closesSums_8 : decode cX10_closesSums 8 = .ok (.aload_n 0, 1) := by decide +kernel
theorem dX10_closesSums_9 : decode cX10_closesSums 9 = .ok (.invokevirtual 252, 3) := by decide +kernel
theorem dX10_closesSums_12 : decode cX10_closesSums 12 = .ok (.bipush 6, 2) := by decide +kernel
theorem dX10_closesSums_14 : decode cX10_closesSums 14 = .ok (.if_icmp .le 23, 3) := by decide +kernel
theorem dX10_closesSums_17 : decode cX10_closesSums 17 = .ok (.iload_n 1, 1) := by decide +kernel
theorem dX10_closesSums_18 : decode cX10_closesSums 18 = .ok (.ifCond .eq 41, 3) := by decide +kernel
theorem dX10_closesSums_21 : decode cX10_closesSums 21 = .ok (.aload_n 0, 1) := by decide +kernel
theorem dX10_closesSums_22 : decode cX10_closesSums 22 = .ok (.invokevirtual 252, 3) := by decide +kernel
theorem dX10_closesSums_25 : decode cX10_closesSums 25 = .ok (.iconst 2, 1) := by decide +kernel
theorem dX10_closesSums_26 : decode cX10_closesSums 26 = .ok (.if_icmp .eq 11, 3) := by decide +kernel
theorem dX10_closesSums_29 : decode cX10_closesSums 29 = .ok (.aload_n 0, 1) := by decide +kernel
theorem dX10_closesSums_30 : decode cX10_closesSums 30 = .ok (.invokevirtual 252, 3) := by decide +kernel
theorem dX10_closesSums_33 : decode cX10_closesSums 33 = .ok (.iconst 3, 1) := by decide +kernel
theorem dX10_closesSums_34 : decode cX10_closesSums 34 = .ok (.if_icmp .ne 25, 3) := by decide +kernel
theorem dX10_closesSums_37 : decode cX10_closesSums 37 = .ok (.aload_n 0, 1) := by decide +kernel
theorem dX10_closesSums_38 : decode cX10_closesSums 38 = .ok (.aload_n 0, 1) := by decide +kernel
theorem dX10_closesSums_39 : decode cX10_closesSums 39 = .ok (.invokevirtual 252, 3) := by decide +kernel
theorem dX10_closesSums_42 : decode cX10_closesSums 42 = .ok (.iconst 0, 1) := by decide +kernel
theorem dX10_closesSums_43 : decode cX10_closesSums 43 = .ok (.invokevirtual 255, 3) := by decide +kernel
theorem dX10_closesSums_46 : decode cX10_closesSums 46 = .ok (.aload_n 0, 1) := by decide +kernel
theorem dX10_closesSums_47 : decode cX10_closesSums 47 = .ok (.aload_n 0, 1) := by decide +kernel
theorem dX10_closesSums_48 : decode cX10_closesSums 48 = .ok (.getfield 249, 3) := by decide +kernel
theorem dX10_closesSums_51 : decode cX10_closesSums 51 = .ok (.iconst 1, 1) := by decide +kernel
theorem dX10_closesSums_52 : decode cX10_closesSums 52 = .ok (.isub, 1) := by decide +kernel
theorem dX10_closesSums_53 : decode cX10_closesSums 53 = .ok (.putfield 249, 3) := by decide +kernel
theorem dX10_closesSums_56 : decode cX10_closesSums 56 = .ok (.goto (-56), 3) := by decide +kernel
theorem dX10_closesSums_59 : decode cX10_closesSums 59 = .ok (.return_, 1) := by decide +kernel
theorem dX10_readsFactor_0 : decode cX10_readsFactor 0 = .ok (.aload_n 0, 1) := by decide +kernel
theorem dX10_readsFactor_1 : decode cX10_readsFactor 1 = .ok (.invokevirtual 199, 3) := by decide +kernel
theorem dX10_readsFactor_4 : decode cX10_readsFactor 4 = .ok (.bipush 91, 2) := by decide +kernel
theorem dX10_readsFactor_6 : decode cX10_readsFactor 6 = .ok (.if_icmp .ne 14, 3) := by decide +kernel
theorem dX10_readsFactor_9 : decode cX10_readsFactor 9 = .ok (.aload_n 0, 1) := by decide +kernel
theorem dX10_readsFactor_10 : decode cX10_readsFactor 10 = .ok (.bipush 14, 2) := by decide +kernel
theorem dX10_readsFactor_12 : decode cX10_readsFactor 12 = .ok (.invokevirtual 259, 3) := by decide +kernel
theorem dX10_readsFactor_15 : decode cX10_readsFactor 15 = .ok (.ifCond .ne (-15), 3) := by decide +kernel
theorem dX10_readsFactor_18 : decode cX10_readsFactor 18 = .ok (.iconst 0, 1) := by decide +kernel
theorem dX10_readsFactor_19 : decode cX10_readsFactor 19 = .ok (.ireturn, 1) := by decide +kernel
theorem dX10_readsFactor_20 : decode cX10_readsFactor 20 = .ok (.aload_n 0, 1) := by decide +kernel
theorem dX10_readsFactor_21 : decode cX10_readsFactor 21 = .ok (.invokevirtual 195, 3) := by decide +kernel
theorem dX10_readsFactor_24 : decode cX10_readsFactor 24 = .ok (.ifCond .eq 23, 3) := by decide +kernel
theorem dX10_readsFactor_27 : decode cX10_readsFactor 27 = .ok (.aload_n 0, 1) := by decide +kernel
theorem dX10_readsFactor_28 : decode cX10_readsFactor 28 = .ok (.invokevirtual 262, 3) := by decide +kernel
theorem dX10_readsFactor_31 : decode cX10_readsFactor 31 = .ok (.ifCond .ne 5, 3) := by decide +kernel
theorem dX10_readsFactor_34 : decode cX10_readsFactor 34 = .ok (.iconst 0, 1) := by decide +kernel
theorem dX10_readsFactor_35 : decode cX10_readsFactor 35 = .ok (.ireturn, 1) := by decide +kernel
theorem dX10_readsFactor_36 : decode cX10_readsFactor 36 = .ok (.aload_n 0, 1) := by decide +kernel
theorem dX10_readsFactor_37 : decode cX10_readsFactor 37 = .ok (.iconst 0, 1) := by decide +kernel
theorem dX10_readsFactor_38 : decode cX10_readsFactor 38 = .ok (.aload_n 0, 1) := by decide +kernel
theorem dX10_readsFactor_39 : decode cX10_readsFactor 39 = .ok (.getfield 209, 3) := by decide +kernel
theorem dX10_readsFactor_42 : decode cX10_readsFactor 42 = .ok (.invokevirtual 255, 3) := by decide +kernel
theorem dX10_readsFactor_45 : decode cX10_readsFactor 45 = .ok (.iconst 1, 1) := by decide +kernel
theorem dX10_readsFactor_46 : decode cX10_readsFactor 46 = .ok (.ireturn, 1) := by decide +kernel
theorem dX10_readsFactor_47 : decode cX10_readsFactor 47 = .ok (.aload_n 0, 1) := by decide +kernel
theorem dX10_readsFactor_48 : decode cX10_readsFactor 48 = .ok (.invokevirtual 199, 3) := by decide +kernel
theorem dX10_readsFactor_51 : decode cX10_readsFactor 51 = .ok (.invokestatic 265, 3) := by decide +kernel
theorem dX10_readsFactor_54 : decode cX10_readsFactor 54 = .ok (.istore_n 1, 1) := by decide +kernel
theorem dX10_readsFactor_55 : decode cX10_readsFactor 55 = .ok (.iload_n 1, 1) := by decide +kernel
theorem dX10_readsFactor_56 : decode cX10_readsFactor 56 = .ok (.iconst (-1), 1) := by decide +kernel
theorem dX10_readsFactor_57 : decode cX10_readsFactor 57 = .ok (.if_icmp .ne 13, 3) := by decide +kernel
theorem dX10_readsFactor_60 : decode cX10_readsFactor 60 = .ok (.aload_n 0, 1) := by decide +kernel
theorem dX10_readsFactor_61 : decode cX10_readsFactor 61 = .ok (.iconst 1, 1) := by decide +kernel
theorem dX10_readsFactor_62 : decode cX10_readsFactor 62 = .ok (.aload_n 0, 1) := by decide +kernel
theorem dX10_readsFactor_63 : decode cX10_readsFactor 63 = .ok (.getfield 203, 3) := by decide +kernel
theorem dX10_readsFactor_66 : decode cX10_readsFactor 66 = .ok (.invokevirtual 206, 3) := by decide +kernel
theorem dX10_readsFactor_69 : decode cX10_readsFactor 69 = .ok (.ireturn, 1) := by decide +kernel
theorem dX10_readsFactor_70 : decode cX10_readsFactor 70 = .ok (.aload_n 0, 1) := by decide +kernel
theorem dX10_readsFactor_71 : decode cX10_readsFactor 71 = .ok (.iconst 1, 1) := by decide +kernel
theorem dX10_readsFactor_72 : decode cX10_readsFactor 72 = .ok (.iload_n 1, 1) := by decide +kernel
theorem dX10_readsFactor_73 : decode cX10_readsFactor 73 = .ok (.invokevirtual 255, 3) := by decide +kernel
theorem dX10_readsFactor_76 : decode cX10_readsFactor 76 = .ok (.aload_n 0, 1) := by decide +kernel
theorem dX10_readsFactor_77 : decode cX10_readsFactor 77 = .ok (.aload_n 0, 1) := by decide +kernel
theorem dX10_readsFactor_78 : decode cX10_readsFactor 78 = .ok (.getfield 203, 3) := by decide +kernel
theorem dX10_readsFactor_81 : decode cX10_readsFactor 81 = .ok (.iconst 1, 1) := by decide +kernel
theorem dX10_readsFactor_82 : decode cX10_readsFactor 82 = .ok (.iadd, 1) := by decide +kernel
theorem dX10_readsFactor_83 : decode cX10_readsFactor 83 = .ok (.putfield 203, 3) := by decide +kernel
theorem dX10_readsFactor_86 : decode cX10_readsFactor 86 = .ok (.iconst 1, 1) := by decide +kernel
theorem dX10_readsFactor_87 : decode cX10_readsFactor 87 = .ok (.ireturn, 1) := by decide +kernel
theorem dX10_hasOpenSum_0 : decode cX10_hasOpenSum 0 = .ok (.iload_n 1, 1) := by decide +kernel
theorem dX10_hasOpenSum_1 : decode cX10_hasOpenSum 1 = .ok (.istore_n 2, 1) := by decide +kernel
theorem dX10_hasOpenSum_2 : decode cX10_hasOpenSum 2 = .ok (.iload_n 2, 1) := by decide +kernel
theorem dX10_hasOpenSum_3 : decode cX10_hasOpenSum 3 = .ok (.aload_n 0, 1) := by decide +kernel
theorem dX10_hasOpenSum_4 : decode cX10_hasOpenSum 4 = .ok (.getfield 249, 3) := by decide +kernel
theorem dX10_hasOpenSum_7 : decode cX10_hasOpenSum 7 = .ok (.if_icmp .ge 25, 3) := by decide +kernel
theorem dX10_hasOpenSum_10 : decode cX10_hasOpenSum 10 = .ok (.aload_n 0, 1) := by decide +kernel
theorem dX10_hasOpenSum_11 : decode cX10_hasOpenSum 11 = .ok (.getfield 66, 3) := by decide +kernel
theorem dX10_hasOpenSum_14 : decode cX10_hasOpenSum 14 = .ok (.iload_n 2, 1) := by decide +kernel
theorem dX10_hasOpenSum_15 : decode cX10_hasOpenSum 15 = .ok (.iaload, 1) := by decide +kernel
theorem dX10_hasOpenSum_16 : decode cX10_hasOpenSum 16 = .ok (.ldc 245, 2) := by decide +kernel
theorem dX10_hasOpenSum_18 : decode cX10_hasOpenSum 18 = .ok (.idiv, 1) := by decide +kernel
theorem dX10_hasOpenSum_19 : decode cX10_hasOpenSum 19 = .ok (.bipush 14, 2) := by decide +kernel
theorem dX10_hasOpenSum_21 : decode cX10_hasOpenSum 21 = .ok (.if_icmp .ne 5, 3) := by decide +kernel
theorem dX10_hasOpenSum_24 : decode cX10_hasOpenSum 24 = .ok (.iconst 1, 1) := by decide +kernel
theorem dX10_hasOpenSum_25 : decode cX10_hasOpenSum 25 = .ok (.ireturn, 1) := by decide +kernel
theorem dX10_hasOpenSum_26 : decode cX10_hasOpenSum 26 = .ok (.iinc 2 1, 3) := by decide +kernel
theorem dX10_hasOpenSum_29 : decode cX10_hasOpenSum 29 = .ok (.goto (-27), 3) := by decide +kernel
theorem dX10_hasOpenSum_32 : decode cX10_hasOpenSum 32 = .ok (.iconst 0, 1) := by decide +kernel
theorem dX10_hasOpenSum_33 : decode cX10_hasOpenSum 33 = .ok (.ireturn, 1) := by decide +kernel
theorem dX10_readsSum_0 : decode cX10_readsSum 0 = .ok (.aload_n 0, 1) := by decide +kernel
theorem dX10_readsSum_1 : decode cX10_readsSum 1 = .ok (.getfield 249, 3) := by decide +kernel
theorem dX10_readsSum_4 : decode cX10_readsSum 4 = .ok (.istore_n 1, 1) := by decide +kernel
theorem dX10_readsSum_5 : decode cX10_readsSum 5 = .ok (.aload_n 0, 1) := by decide +kernel
theorem dX10_readsSum_6 : decode cX10_readsSum 6 = .ok (.invokevirtual 269, 3) := by decide +kernel
theorem dX10_readsSum_9 : decode cX10_readsSum 9 = .ok (.ifCond .ne 5, 3) := by decide +kernel
theorem dX10_readsSum_12 : decode cX10_readsSum 12 = .ok (.iconst 0, 1) := by decide +kernel
theorem dX10_readsSum_13 : decode cX10_readsSum 13 = .ok (.ireturn, 1) := by decide +kernel
theorem dX10_readsSum_14 : decode cX10_readsSum 14 = .ok (.aload_n 0, 1) := by decide +kernel
theorem dX10_readsSum_15 : decode cX10_readsSum 15 = .ok (.invokevirtual 199, 3) := by decide +kernel
theorem dX10_readsSum_18 : decode cX10_readsSum 18 = .ok (.invokestatic 272, 3) := by decide +kernel
theorem dX10_readsSum_21 : decode cX10_readsSum 21 = .ok (.istore_n 2, 1) := by decide +kernel
theorem dX10_readsSum_22 : decode cX10_readsSum 22 = .ok (.iload_n 2, 1) := by decide +kernel
theorem dX10_readsSum_23 : decode cX10_readsSum 23 = .ok (.iconst (-1), 1) := by decide +kernel
theorem dX10_readsSum_24 : decode cX10_readsSum 24 = .ok (.if_icmp .eq 59, 3) := by decide +kernel
theorem dX10_readsSum_27 : decode cX10_readsSum 27 = .ok (.aload_n 0, 1) := by decide +kernel
theorem dX10_readsSum_28 : decode cX10_readsSum 28 = .ok (.iload_n 2, 1) := by decide +kernel
theorem dX10_readsSum_29 : decode cX10_readsSum 29 = .ok (.iconst 4, 1) := by decide +kernel
theorem dX10_readsSum_30 : decode cX10_readsSum 30 = .ok (.if_icmp .ge 7, 3) := by decide +kernel
theorem dX10_readsSum_33 : decode cX10_readsSum 33 = .ok (.iconst 1, 1) := by decide +kernel
theorem dX10_readsSum_34 : decode cX10_readsSum 34 = .ok (.goto 4, 3) := by decide +kernel
theorem dX10_readsSum_37 : decode cX10_readsSum 37 = .ok (.iconst 0, 1) := by decide +kernel
theorem dX10_readsSum_38 : decode cX10_readsSum 38 = .ok (.invokevirtual 275, 3) := by decide +kernel
theorem dX10_readsSum_41 : decode cX10_readsSum 41 = .ok (.aload_n 0, 1) := by decide +kernel
theorem dX10_readsSum_42 : decode cX10_readsSum 42 = .ok (.getfield 66, 3) := by decide +kernel
theorem dX10_readsSum_45 : decode cX10_readsSum 45 = .ok (.aload_n 0, 1) := by decide +kernel
theorem dX10_readsSum_46 : decode cX10_readsSum 46 = .ok (.getfield 249, 3) := by decide +kernel
theorem dX10_readsSum_49 : decode cX10_readsSum 49 = .ok (.ldc 245, 2) := by decide +kernel
theorem dX10_readsSum_51 : decode cX10_readsSum 51 = .ok (.iload_n 2, 1) := by decide +kernel
theorem dX10_readsSum_52 : decode cX10_readsSum 52 = .ok (.imul, 1) := by decide +kernel
theorem dX10_readsSum_53 : decode cX10_readsSum 53 = .ok (.iastore, 1) := by decide +kernel
theorem dX10_readsSum_54 : decode cX10_readsSum 54 = .ok (.aload_n 0, 1) := by decide +kernel
theorem dX10_readsSum_55 : decode cX10_readsSum 55 = .ok (.aload_n 0, 1) := by decide +kernel
theorem dX10_readsSum_56 : decode cX10_readsSum 56 = .ok (.getfield 249, 3) := by decide +kernel
theorem dX10_readsSum_59 : decode cX10_readsSum 59 = .ok (.iconst 1, 1) := by decide +kernel
theorem dX10_readsSum_60 : decode cX10_readsSum 60 = .ok (.iadd, 1) := by decide +kernel
theorem dX10_readsSum_61 : decode cX10_readsSum 61 = .ok (.putfield 249, 3) := by decide +kernel
theorem dX10_readsSum_64 : decode cX10_readsSum 64 = .ok (.aload_n 0, 1) := by decide +kernel
theorem dX10_readsSum_65 : decode cX10_readsSum 65 = .ok (.aload_n 0, 1) := by decide +kernel
theorem dX10_readsSum_66 : decode cX10_readsSum 66 = .ok (.getfield 203, 3) := by decide +kernel
theorem dX10_readsSum_69 : decode cX10_readsSum 69 = .ok (.iconst 1, 1) := by decide +kernel
theorem dX10_readsSum_70 : decode cX10_readsSum 70 = .ok (.iadd, 1) := by decide +kernel
theorem dX10_readsSum_71 : decode cX10_readsSum 71 = .ok (.putfield 203, 3) := by decide +kernel
theorem dX10_readsSum_74 : decode cX10_readsSum 74 = .ok (.aload_n 0, 1) := by decide +kernel
theorem dX10_readsSum_75 : decode cX10_readsSum 75 = .ok (.invokevirtual 269, 3) := by decide +kernel
theorem dX10_readsSum_78 : decode cX10_readsSum 78 = .ok (.ifCond .ne 85, 3) := by decide +kernel
theorem dX10_readsSum_81 : decode cX10_readsSum 81 = .ok (.iconst 0, 1) := by decide +kernel
theorem dX10_readsSum_82 : decode cX10_readsSum 82 = .ok (.ireturn, 1) := by decide +kernel
theorem dX10_readsSum_83 : decode cX10_readsSum 83 = .ok (.aload_n 0, 1) := by decide +kernel
theorem dX10_readsSum_84 : decode cX10_readsSum 84 = .ok (.invokevirtual 199, 3) := by decide +kernel
theorem dX10_readsSum_87 : decode cX10_readsSum 87 = .ok (.bipush 93, 2) := by decide +kernel
theorem dX10_readsSum_89 : decode cX10_readsSum 89 = .ok (.if_icmp .ne 49, 3) := by decide +kernel
theorem dX10_readsSum_92 : decode cX10_readsSum 92 = .ok (.aload_n 0, 1) := by decide +kernel
theorem dX10_readsSum_93 : decode cX10_readsSum 93 = .ok (.iload_n 1, 1) := by decide +kernel
theorem dX10_readsSum_94 : decode cX10_readsSum 94 = .ok (.invokevirtual 279, 3) := by decide +kernel
theorem dX10_readsSum_97 : decode cX10_readsSum 97 = .ok (.ifCond .eq 41, 3) := by decide +kernel
theorem dX10_readsSum_100 : decode cX10_readsSum 100 = .ok (.aload_n 0, 1) := by decide +kernel
theorem dX10_readsSum_101 : decode cX10_readsSum 101 = .ok (.iconst 1, 1) := by decide +kernel
theorem dX10_readsSum_102 : decode cX10_readsSum 102 = .ok (.invokevirtual 275, 3) := by decide +kernel
theorem dX10_readsSum_105 : decode cX10_readsSum 105 = .ok (.aload_n 0, 1) := by decide +kernel
theorem dX10_readsSum_106 : decode cX10_readsSum 106 = .ok (.aload_n 0, 1) := by decide +kernel
theorem dX10_readsSum_107 : decode cX10_readsSum 107 = .ok (.getfield 249, 3) := by decide +kernel
theorem dX10_readsSum_110 : decode cX10_readsSum 110 = .ok (.iconst 1, 1) := by decide +kernel
theorem dX10_readsSum_111 : decode cX10_readsSum 111 = .ok (.isub, 1) := by decide +kernel
theorem dX10_readsSum_112 : decode cX10_readsSum 112 = .ok (.putfield 249, 3) := by decide +kernel
theorem dX10_readsSum_115 : decode cX10_readsSum 115 = .ok (.aload_n 0, 1) := by decide +kernel
theorem dX10_readsSum_116 : decode cX10_readsSum 116 = .ok (.aload_n 0, 1) := by decide +kernel
theorem dX10_readsSum_117 : decode cX10_readsSum 117 = .ok (.getfield 246, 3) := by decide +kernel
theorem dX10_readsSum_120 : decode cX10_readsSum 120 = .ok (.iconst 1, 1) := by decide +kernel
theorem dX10_readsSum_121 : decode cX10_readsSum 121 = .ok (.isub, 1) := by decide +kernel
theorem dX10_readsSum_122 : decode cX10_readsSum 122 = .ok (.putfield 246, 3) := by decide +kernel
theorem dX10_readsSum_125 : decode cX10_readsSum 125 = .ok (.aload_n 0, 1) := by decide +kernel
theorem dX10_readsSum_126 : decode cX10_readsSum 126 = .ok (.aload_n 0, 1) := by decide +kernel
theorem dX10_readsSum_127 : decode cX10_readsSum 127 = .ok (.getfield 203, 3) := by decide +kernel
theorem dX10_readsSum_130 : decode cX10_readsSum 130 = .ok (.iconst 1, 1) := by decide +kernel
theorem dX10_readsSum_131 : decode cX10_readsSum 131 = .ok (.iadd, 1) := by decide +kernel
theorem dX10_readsSum_132 : decode cX10_readsSum 132 = .ok (.putfield 203, 3) := by decide +kernel
theorem dX10_readsSum_135 : decode cX10_readsSum 135 = .ok (.goto 28, 3) := by decide +kernel
theorem dX10_readsSum_138 : decode cX10_readsSum 138 = .ok (.aload_n 0, 1) := by decide +kernel
theorem dX10_readsSum_139 : decode cX10_readsSum 139 = .ok (.iload_n 1, 1) := by decide +kernel
theorem dX10_readsSum_140 : decode cX10_readsSum 140 = .ok (.invokevirtual 279, 3) := by decide +kernel
theorem dX10_readsSum_143 : decode cX10_readsSum 143 = .ok (.ifCond .eq 13, 3) := by decide +kernel
theorem dX10_readsSum_146 : decode cX10_readsSum 146 = .ok (.aload_n 0, 1) := by decide +kernel
theorem dX10_readsSum_147 : decode cX10_readsSum 147 = .ok (.iconst 1, 1) := by decide +kernel
theorem dX10_readsSum_148 : decode cX10_readsSum 148 = .ok (.aload_n 0, 1) := by decide +kernel
theorem dX10_readsSum_149 : decode cX10_readsSum 149 = .ok (.getfield 203, 3) := by decide +kernel
theorem dX10_readsSum_152 : decode cX10_readsSum 152 = .ok (.invokevirtual 206, 3) := by decide +kernel
theorem dX10_readsSum_155 : decode cX10_readsSum 155 = .ok (.ireturn, 1) := by decide +kernel
theorem dX10_readsSum_156 : decode cX10_readsSum 156 = .ok (.aload_n 0, 1) := by decide +kernel
theorem dX10_readsSum_157 : decode cX10_readsSum 157 = .ok (.iconst 1, 1) := by decide +kernel
theorem dX10_readsSum_158 : decode cX10_readsSum 158 = .ok (.invokevirtual 275, 3) := by decide +kernel
theorem dX10_readsSum_161 : decode cX10_readsSum 161 = .ok (.iconst 1, 1) := by decide +kernel
theorem dX10_readsSum_162 : decode cX10_readsSum 162 = .ok (.ireturn, 1) := by decide +kernel
theorem dX10_readsSum_163 : decode cX10_readsSum 163 = .ok (.goto (-149), 3) := by decide +kernel
theorem dX10_endsPiece_0 : decode cX10_endsPiece 0 = .ok (.aload_n 0, 1) := by decide +kernel
theorem dX10_endsPiece_1 : decode cX10_endsPiece 1 = .ok (.invokevirtual 252, 3) := by decide +kernel
theorem dX10_endsPiece_4 : decode cX10_endsPiece 4 = .ok (.bipush 10, 2) := by decide +kernel
theorem dX10_endsPiece_6 : decode cX10_endsPiece 6 = .ok (.if_icmp .ne 33, 3) := by decide +kernel
theorem dX10_endsPiece_9 : decode cX10_endsPiece 9 = .ok (.aload_n 0, 1) := by decide +kernel
theorem dX10_endsPiece_10 : decode cX10_endsPiece 10 = .ok (.bipush 10, 2) := by decide +kernel
theorem dX10_endsPiece_12 : decode cX10_endsPiece 12 = .ok (.iconst 0, 1) := by decide +kernel
theorem dX10_endsPiece_13 : decode cX10_endsPiece 13 = .ok (.invokevirtual 255, 3) := by decide +kernel
theorem dX10_endsPiece_16 : decode cX10_endsPiece 16 = .ok (.aload_n 0, 1) := by decide +kernel
theorem dX10_endsPiece_17 : decode cX10_endsPiece 17 = .ok (.aload_n 0, 1) := by decide +kernel
theorem dX10_endsPiece_18 : decode cX10_endsPiece 18 = .ok (.getfield 249, 3) := by decide +kernel
theorem dX10_endsPiece_21 : decode cX10_endsPiece 21 = .ok (.iconst 1, 1) := by decide +kernel
theorem dX10_endsPiece_22 : decode cX10_endsPiece 22 = .ok (.isub, 1) := by decide +kernel
theorem dX10_endsPiece_23 : decode cX10_endsPiece 23 = .ok (.putfield 249, 3) := by decide +kernel
theorem dX10_endsPiece_26 : decode cX10_endsPiece 26 = .ok (.aload_n 0, 1) := by decide +kernel
theorem dX10_endsPiece_27 : decode cX10_endsPiece 27 = .ok (.aload_n 0, 1) := by decide +kernel
theorem dX10_endsPiece_28 : decode cX10_endsPiece 28 = .ok (.getfield 246, 3) := by decide +kernel
theorem dX10_endsPiece_31 : decode cX10_endsPiece 31 = .ok (.iconst 1, 1) := by decide +kernel
theorem dX10_endsPiece_32 : decode cX10_endsPiece 32 = .ok (.isub, 1) := by decide +kernel
theorem dX10_endsPiece_33 : decode cX10_endsPiece 33 = .ok (.putfield 246, 3) := by decide +kernel
theorem dX10_endsPiece_36 : decode cX10_endsPiece 36 = .ok (.goto (-36), 3) := by decide +kernel
theorem dX10_endsPiece_39 : decode cX10_endsPiece 39 = .ok (.return_, 1) := by decide +kernel
theorem dX10_lands_0 : decode cX10_lands 0 = .ok (.aload_n 0, 1) := by decide +kernel
theorem dX10_lands_1 : decode cX10_lands 1 = .ok (.invokevirtual 252, 3) := by decide +kernel
theorem dX10_lands_4 : decode cX10_lands 4 = .ok (.bipush 11, 2) := by decide +kernel
theorem dX10_lands_6 : decode cX10_lands 6 = .ok (.if_icmp .eq 16, 3) := by decide +kernel
theorem dX10_lands_9 : decode cX10_lands 9 = .ok (.iload_n 1, 1) := by decide +kernel
theorem dX10_lands_10 : decode cX10_lands 10 = .ok (.ifCond .eq 63, 3) := by decide +kernel
theorem dX10_lands_13 : decode cX10_lands 13 = .ok (.aload_n 0, 1) := by decide +kernel
theorem dX10_lands_14 : decode cX10_lands 14 = .ok (.invokevirtual 252, 3) := by decide +kernel
theorem dX10_lands_17 : decode cX10_lands 17 = .ok (.bipush 12, 2) := by decide +kernel
theorem dX10_lands_19 : decode cX10_lands 19 = .ok (.if_icmp .ne 54, 3) := by decide +kernel
theorem dX10_lands_22 : decode cX10_lands 22 = .ok (.aload_n 0, 1) := by decide +kernel
theorem dX10_lands_23 : decode cX10_lands 23 = .ok (.getfield 66, 3) := by decide +kernel
theorem dX10_lands_26 : decode cX10_lands 26 = .ok (.aload_n 0, 1) := by decide +kernel
theorem dX10_lands_27 : decode cX10_lands 27 = .ok (.getfield 249, 3) := by decide +kernel
theorem dX10_lands_30 : decode cX10_lands 30 = .ok (.iconst 1, 1) := by decide +kernel
theorem dX10_lands_31 : decode cX10_lands 31 = .ok (.isub, 1) := by decide +kernel
theorem dX10_lands_32 : decode cX10_lands 32 = .ok (.iaload, 1) := by decide +kernel
theorem dX10_lands_33 : decode cX10_lands 33 = .ok (.ldc 245, 2) := by decide +kernel
theorem dX10_lands_35 : decode cX10_lands 35 = .ok (.irem, 1) := by decide +kernel
theorem dX10_lands_36 : decode cX10_lands 36 = .ok (.istore_n 2, 1) := by decide +kernel
theorem dX10_lands_37 : decode cX10_lands 37 = .ok (.aload_n 0, 1) := by decide +kernel
theorem dX10_lands_38 : decode cX10_lands 38 = .ok (.getfield 63, 3) := by decide +kernel
theorem dX10_lands_41 : decode cX10_lands 41 = .ok (.iload_n 2, 1) := by decide +kernel
theorem dX10_lands_42 : decode cX10_lands 42 = .ok (.ldc 245, 2) := by decide +kernel
theorem dX10_lands_44 : decode cX10_lands 44 = .ok (.aload_n 0, 1) := by decide +kernel
theorem dX10_lands_45 : decode cX10_lands 45 = .ok (.getfield 63, 3) := by decide +kernel
theorem dX10_lands_48 : decode cX10_lands 48 = .ok (.iload_n 2, 1) := by decide +kernel
theorem dX10_lands_49 : decode cX10_lands 49 = .ok (.iaload, 1) := by decide +kernel
theorem dX10_lands_50 : decode cX10_lands 50 = .ok (.ldc 245, 2) := by decide +kernel
theorem dX10_lands_52 : decode cX10_lands 52 = .ok (.idiv, 1) := by decide +kernel
theorem dX10_lands_53 : decode cX10_lands 53 = .ok (.imul, 1) := by decide +kernel
theorem dX10_lands_54 : decode cX10_lands 54 = .ok (.aload_n 0, 1) := by decide +kernel
theorem dX10_lands_55 : decode cX10_lands 55 = .ok (.getfield 242, 3) := by decide +kernel
theorem dX10_lands_58 : decode cX10_lands 58 = .ok (.iadd, 1) := by decide +kernel
theorem dX10_lands_59 : decode cX10_lands 59 = .ok (.iastore, 1) := by decide +kernel
theorem dX10_lands_60 : decode cX10_lands 60 = .ok (.aload_n 0, 1) := by decide +kernel
theorem dX10_lands_61 : decode cX10_lands 61 = .ok (.aload_n 0, 1) := by decide +kernel
theorem dX10_lands_62 : decode cX10_lands 62 = .ok (.getfield 249, 3) := by decide +kernel
theorem dX10_lands_65 : decode cX10_lands 65 = .ok (.iconst 1, 1) := by decide +kernel
theorem dX10_lands_66 : decode cX10_lands 66 = .ok (.isub, 1) := by decide +kernel
theorem dX10_lands_67 : decode cX10_lands 67 = .ok (.putfield 249, 3) := by decide +kernel
theorem dX10_lands_70 : decode cX10_lands 70 = .ok (.goto (-70), 3) := by decide +kernel
theorem dX10_lands_73 : decode cX10_lands 73 = .ok (.return_, 1) := by decide +kernel
theorem dX10_jumps_0 : decode cX10_jumps 0 = .ok (.aload_n 0, 1) := by decide +kernel
theorem dX10_jumps_1 : decode cX10_jumps 1 = .ok (.getfield 66, 3) := by decide +kernel
theorem dX10_jumps_4 : decode cX10_jumps 4 = .ok (.aload_n 0, 1) := by decide +kernel
theorem dX10_jumps_5 : decode cX10_jumps 5 = .ok (.getfield 249, 3) := by decide +kernel
theorem dX10_jumps_8 : decode cX10_jumps 8 = .ok (.ldc 245, 2) := by decide +kernel
theorem dX10_jumps_10 : decode cX10_jumps 10 = .ok (.iload_n 1, 1) := by decide +kernel
theorem dX10_jumps_11 : decode cX10_jumps 11 = .ok (.imul, 1) := by decide +kernel
theorem dX10_jumps_12 : decode cX10_jumps 12 = .ok (.aload_n 0, 1) := by decide +kernel
theorem dX10_jumps_13 : decode cX10_jumps 13 = .ok (.getfield 242, 3) := by decide +kernel
theorem dX10_jumps_16 : decode cX10_jumps 16 = .ok (.iadd, 1) := by decide +kernel
theorem dX10_jumps_17 : decode cX10_jumps 17 = .ok (.iastore, 1) := by decide +kernel
theorem dX10_jumps_18 : decode cX10_jumps 18 = .ok (.aload_n 0, 1) := by decide +kernel
theorem dX10_jumps_19 : decode cX10_jumps 19 = .ok (.aload_n 0, 1) := by decide +kernel
theorem dX10_jumps_20 : decode cX10_jumps 20 = .ok (.getfield 249, 3) := by decide +kernel
theorem dX10_jumps_23 : decode cX10_jumps 23 = .ok (.iconst 1, 1) := by decide +kernel
theorem dX10_jumps_24 : decode cX10_jumps 24 = .ok (.iadd, 1) := by decide +kernel
theorem dX10_jumps_25 : decode cX10_jumps 25 = .ok (.putfield 249, 3) := by decide +kernel
theorem dX10_jumps_28 : decode cX10_jumps 28 = .ok (.aload_n 0, 1) := by decide +kernel
theorem dX10_jumps_29 : decode cX10_jumps 29 = .ok (.iload_n 1, 1) := by decide +kernel
theorem dX10_jumps_30 : decode cX10_jumps 30 = .ok (.iconst 0, 1) := by decide +kernel
theorem dX10_jumps_31 : decode cX10_jumps 31 = .ok (.invokevirtual 255, 3) := by decide +kernel
theorem dX10_jumps_34 : decode cX10_jumps 34 = .ok (.aload_n 0, 1) := by decide +kernel
theorem dX10_jumps_35 : decode cX10_jumps 35 = .ok (.aload_n 0, 1) := by decide +kernel
theorem dX10_jumps_36 : decode cX10_jumps 36 = .ok (.getfield 203, 3) := by decide +kernel
theorem dX10_jumps_39 : decode cX10_jumps 39 = .ok (.iconst 1, 1) := by decide +kernel
theorem dX10_jumps_40 : decode cX10_jumps 40 = .ok (.iadd, 1) := by decide +kernel
theorem dX10_jumps_41 : decode cX10_jumps 41 = .ok (.putfield 203, 3) := by decide +kernel
theorem dX10_jumps_44 : decode cX10_jumps 44 = .ok (.return_, 1) := by decide +kernel
theorem dX10_readsCompared_0 : decode cX10_readsCompared 0 = .ok (.aload_n 0, 1) := by decide +kernel
theorem dX10_readsCompared_1 : decode cX10_readsCompared 1 = .ok (.invokevirtual 282, 3) := by decide +kernel
theorem dX10_readsCompared_4 : decode cX10_readsCompared 4 = .ok (.ifCond .ne 5, 3) := by decide +kernel
theorem dX10_readsCompared_7 : decode cX10_readsCompared 7 = .ok (.iconst 0, 1) := by decide +kernel
theorem dX10_readsCompared_8 : decode cX10_readsCompared 8 = .ok (.ireturn, 1) := by decide +kernel
theorem dX10_readsCompared_9 : decode cX10_readsCompared 9 = .ok (.aload_n 0, 1) := by decide +kernel
theorem dX10_readsCompared_10 : decode cX10_readsCompared 10 = .ok (.invokevirtual 199, 3) := by decide +kernel
theorem dX10_readsCompared_13 : decode cX10_readsCompared 13 = .ok (.bipush 60, 2) := by decide +kernel
theorem dX10_readsCompared_15 : decode cX10_readsCompared 15 = .ok (.if_icmp .ne 8, 3) := by decide +kernel
theorem dX10_readsCompared_18 : decode cX10_readsCompared 18 = .ok (.bipush 7, 2) := by decide +kernel
theorem dX10_readsCompared_20 : decode cX10_readsCompared 20 = .ok (.goto 32, 3) := by decide +kernel
theorem dX10_readsCompared_23 : decode cX10_readsCompared 23 = .ok (.aload_n 0, 1) := by decide +kernel
theorem dX10_readsCompared_24 : decode cX10_readsCompared 24 = .ok (.invokevirtual 199, 3) := by decide +kernel
theorem dX10_readsCompared_27 : decode cX10_readsCompared 27 = .ok (.bipush 62, 2) := by decide +kernel
theorem dX10_readsCompared_29 : decode cX10_readsCompared 29 = .ok (.if_icmp .ne 8, 3) := by decide +kernel
theorem dX10_readsCompared_32 : decode cX10_readsCompared 32 = .ok (.bipush 8, 2) := by decide +kernel
theorem dX10_readsCompared_34 : decode cX10_readsCompared 34 = .ok (.goto 18, 3) := by decide +kernel
theorem dX10_readsCompared_37 : decode cX10_readsCompared 37 = .ok (.aload_n 0, 1) := by decide +kernel
theorem dX10_readsCompared_38 : decode cX10_readsCompared 38 = .ok (.invokevirtual 199, 3) := by decide +kernel
theorem dX10_readsCompared_41 : decode cX10_readsCompared 41 = .ok (.bipush 61, 2) := by decide +kernel
theorem dX10_readsCompared_43 : decode cX10_readsCompared 43 = .ok (.if_icmp .ne 8, 3) := by decide +kernel
theorem dX10_readsCompared_46 : decode cX10_readsCompared 46 = .ok (.bipush 9, 2) := by decide +kernel
theorem dX10_readsCompared_48 : decode cX10_readsCompared 48 = .ok (.goto 4, 3) := by decide +kernel
theorem dX10_readsCompared_51 : decode cX10_readsCompared 51 = .ok (.iconst (-1), 1) := by decide +kernel
theorem dX10_readsCompared_52 : decode cX10_readsCompared 52 = .ok (.istore_n 1, 1) := by decide +kernel
theorem dX10_readsCompared_53 : decode cX10_readsCompared 53 = .ok (.iload_n 1, 1) := by decide +kernel
theorem dX10_readsCompared_54 : decode cX10_readsCompared 54 = .ok (.iconst (-1), 1) := by decide +kernel
theorem dX10_readsCompared_55 : decode cX10_readsCompared 55 = .ok (.if_icmp .ne 13, 3) := by decide +kernel
theorem dX10_readsCompared_58 : decode cX10_readsCompared 58 = .ok (.aload_n 0, 1) := by decide +kernel
theorem dX10_readsCompared_59 : decode cX10_readsCompared 59 = .ok (.iconst 1, 1) := by decide +kernel
theorem dX10_readsCompared_60 : decode cX10_readsCompared 60 = .ok (.aload_n 0, 1) := by decide +kernel
theorem dX10_readsCompared_61 : decode cX10_readsCompared 61 = .ok (.getfield 203, 3) := by decide +kernel
theorem dX10_readsCompared_64 : decode cX10_readsCompared 64 = .ok (.invokevirtual 206, 3) := by decide +kernel
theorem dX10_readsCompared_67 : decode cX10_readsCompared 67 = .ok (.ireturn, 1) := by decide +kernel
theorem dX10_readsCompared_68 : decode cX10_readsCompared 68 = .ok (.aload_n 0, 1) := by decide +kernel
theorem dX10_readsCompared_69 : decode cX10_readsCompared 69 = .ok (.aload_n 0, 1) := by decide +kernel
theorem dX10_readsCompared_70 : decode cX10_readsCompared 70 = .ok (.getfield 203, 3) := by decide +kernel
theorem dX10_readsCompared_73 : decode cX10_readsCompared 73 = .ok (.iconst 1, 1) := by decide +kernel
theorem dX10_readsCompared_74 : decode cX10_readsCompared 74 = .ok (.iadd, 1) := by decide +kernel
theorem dX10_readsCompared_75 : decode cX10_readsCompared 75 = .ok (.putfield 203, 3) := by decide +kernel
theorem dX10_readsCompared_78 : decode cX10_readsCompared 78 = .ok (.aload_n 0, 1) := by decide +kernel
theorem dX10_readsCompared_79 : decode cX10_readsCompared 79 = .ok (.invokevirtual 282, 3) := by decide +kernel
theorem dX10_readsCompared_82 : decode cX10_readsCompared 82 = .ok (.ifCond .ne 5, 3) := by decide +kernel
theorem dX10_readsCompared_85 : decode cX10_readsCompared 85 = .ok (.iconst 0, 1) := by decide +kernel
theorem dX10_readsCompared_86 : decode cX10_readsCompared 86 = .ok (.ireturn, 1) := by decide +kernel
theorem dX10_readsCompared_87 : decode cX10_readsCompared 87 = .ok (.aload_n 0, 1) := by decide +kernel
theorem dX10_readsCompared_88 : decode cX10_readsCompared 88 = .ok (.iload_n 1, 1) := by decide +kernel
theorem dX10_readsCompared_89 : decode cX10_readsCompared 89 = .ok (.iconst 0, 1) := by decide +kernel
theorem dX10_readsCompared_90 : decode cX10_readsCompared 90 = .ok (.invokevirtual 255, 3) := by decide +kernel
theorem dX10_readsCompared_93 : decode cX10_readsCompared 93 = .ok (.aload_n 0, 1) := by decide +kernel
theorem dX10_readsCompared_94 : decode cX10_readsCompared 94 = .ok (.invokevirtual 285, 3) := by decide +kernel
theorem dX10_readsCompared_97 : decode cX10_readsCompared 97 = .ok (.iconst 1, 1) := by decide +kernel
theorem dX10_readsCompared_98 : decode cX10_readsCompared 98 = .ok (.ireturn, 1) := by decide +kernel
theorem dX10_readsCondition_0 : decode cX10_readsCondition 0 = .ok (.aload_n 0, 1) := by decide +kernel
theorem dX10_readsCondition_1 : decode cX10_readsCondition 1 = .ok (.invokevirtual 199, 3) := by decide +kernel
theorem dX10_readsCondition_4 : decode cX10_readsCondition 4 = .ok (.bipush 40, 2) := by decide +kernel
theorem dX10_readsCondition_6 : decode cX10_readsCondition 6 = .ok (.if_icmp .eq 13, 3) := by decide +kernel
theorem dX10_readsCondition_9 : decode cX10_readsCondition 9 = .ok (.aload_n 0, 1) := by decide +kernel
theorem dX10_readsCondition_10 : decode cX10_readsCondition 10 = .ok (.iconst 1, 1) := by decide +kernel
theorem dX10_readsCondition_11 : decode cX10_readsCondition 11 = .ok (.aload_n 0, 1) := by decide +kernel
theorem dX10_readsCondition_12 : decode cX10_readsCondition 12 = .ok (.getfield 203, 3) := by decide +kernel
theorem dX10_readsCondition_15 : decode cX10_readsCondition 15 = .ok (.invokevirtual 206, 3) := by decide +kernel
theorem dX10_readsCondition_18 : decode cX10_readsCondition 18 = .ok (.ireturn, 1) := by decide +kernel
theorem dX10_readsCondition_19 : decode cX10_readsCondition 19 = .ok (.aload_n 0, 1) := by decide +kernel
theorem dX10_readsCondition_20 : decode cX10_readsCondition 20 = .ok (.iconst 0, 1) := by decide +kernel
theorem dX10_readsCondition_21 : decode cX10_readsCondition 21 = .ok (.putfield 246, 3) := by decide +kernel
theorem dX10_readsCondition_24 : decode cX10_readsCondition 24 = .ok (.aload_n 0, 1) := by decide +kernel
theorem dX10_readsCondition_25 : decode cX10_readsCondition 25 = .ok (.iconst 0, 1) := by decide +kernel
theorem dX10_readsCondition_26 : decode cX10_readsCondition 26 = .ok (.putfield 249, 3) := by decide +kernel
theorem dX10_readsCondition_29 : decode cX10_readsCondition 29 = .ok (.aload_n 0, 1) := by decide +kernel
theorem dX10_readsCondition_30 : decode cX10_readsCondition 30 = .ok (.bipush 13, 2) := by decide +kernel
theorem dX10_readsCondition_32 : decode cX10_readsCondition 32 = .ok (.invokevirtual 259, 3) := by decide +kernel
theorem dX10_readsCondition_35 : decode cX10_readsCondition 35 = .ok (.ifCond .ne 5, 3) := by decide +kernel
theorem dX10_readsCondition_38 : decode cX10_readsCondition 38 = .ok (.iconst 0, 1) := by decide +kernel
theorem dX10_readsCondition_39 : decode cX10_readsCondition 39 = .ok (.ireturn, 1) := by decide +kernel
theorem dX10_readsCondition_40 : decode cX10_readsCondition 40 = .ok (.aload_n 0, 1) := by decide +kernel
theorem dX10_readsCondition_41 : decode cX10_readsCondition 41 = .ok (.invokevirtual 199, 3) := by decide +kernel
theorem dX10_readsCondition_44 : decode cX10_readsCondition 44 = .ok (.bipush 33, 2) := by decide +kernel
theorem dX10_readsCondition_46 : decode cX10_readsCondition 46 = .ok (.if_icmp .eq 12, 3) := by decide +kernel
theorem dX10_readsCondition_49 : decode cX10_readsCondition 49 = .ok (.aload_n 0, 1) := by decide +kernel
theorem dX10_readsCondition_50 : decode cX10_readsCondition 50 = .ok (.invokevirtual 199, 3) := by decide +kernel
theorem dX10_readsCondition_53 : decode cX10_readsCondition 53 = .ok (.bipush 40, 2) := by decide +kernel
theorem dX10_readsCondition_55 : decode cX10_readsCondition 55 = .ok (.if_icmp .ne 28, 3) := by decide +kernel
theorem dX10_readsCondition_58 : decode cX10_readsCondition 58 = .ok (.aload_n 0, 1) := by decide +kernel
theorem dX10_readsCondition_59 : decode cX10_readsCondition 59 = .ok (.aload_n 0, 1) := by decide +kernel
theorem dX10_readsCondition_60 : decode cX10_readsCondition 60 = .ok (.invokevirtual 199, 3) := by decide +kernel
theorem dX10_readsCondition_63 : decode cX10_readsCondition 63 = .ok (.bipush 33, 2) := by decide +kernel
theorem dX10_readsCondition_65 : decode cX10_readsCondition 65 = .ok (.if_icmp .ne 8, 3) := by decide +kernel
theorem dX10_readsCondition_68 : decode cX10_readsCondition 68 = .ok (.bipush 10, 2) := by decide +kernel
theorem dX10_readsCondition_70 : decode cX10_readsCondition 70 = .ok (.goto 5, 3) := by decide +kernel
theorem dX10_readsCondition_73 : decode cX10_readsCondition 73 = .ok (.bipush 13, 2) := by decide +kernel
theorem dX10_readsCondition_75 : decode cX10_readsCondition 75 = .ok (.invokevirtual 259, 3) := by decide +kernel
theorem dX10_readsCondition_78 : decode cX10_readsCondition 78 = .ok (.ifCond .ne (-38), 3) := by decide +kernel
theorem dX10_readsCondition_81 : decode cX10_readsCondition 81 = .ok (.iconst 0, 1) := by decide +kernel
theorem dX10_readsCondition_82 : decode cX10_readsCondition 82 = .ok (.ireturn, 1) := by decide +kernel
theorem dX10_readsCondition_83 : decode cX10_readsCondition 83 = .ok (.aload_n 0, 1) := by decide +kernel
theorem dX10_readsCondition_84 : decode cX10_readsCondition 84 = .ok (.invokevirtual 288, 3) := by decide +kernel
theorem dX10_readsCondition_87 : decode cX10_readsCondition 87 = .ok (.ifCond .ne 5, 3) := by decide +kernel
theorem dX10_readsCondition_90 : decode cX10_readsCondition 90 = .ok (.iconst 0, 1) := by decide +kernel
theorem dX10_readsCondition_91 : decode cX10_readsCondition 91 = .ok (.ireturn, 1) := by decide +kernel
theorem dX10_readsCondition_92 : decode cX10_readsCondition 92 = .ok (.aload_n 0, 1) := by decide +kernel
theorem dX10_readsCondition_93 : decode cX10_readsCondition 93 = .ok (.invokevirtual 199, 3) := by decide +kernel
theorem dX10_readsCondition_96 : decode cX10_readsCondition 96 = .ok (.bipush 41, 2) := by decide +kernel
theorem dX10_readsCondition_98 : decode cX10_readsCondition 98 = .ok (.if_icmp .ne 54, 3) := by decide +kernel
theorem dX10_readsCondition_101 : decode cX10_readsCondition 101 = .ok (.aload_n 0, 1) := by decide +kernel
theorem dX10_readsCondition_102 : decode cX10_readsCondition 102 = .ok (.iconst 1, 1) := by decide +kernel
theorem dX10_readsCondition_103 : decode cX10_readsCondition 103 = .ok (.invokevirtual 291, 3) := by decide +kernel
theorem dX10_readsCondition_106 : decode cX10_readsCondition 106 = .ok (.aload_n 0, 1) := by decide +kernel
theorem dX10_readsCondition_107 : decode cX10_readsCondition 107 = .ok (.aload_n 0, 1) := by decide +kernel
theorem dX10_readsCondition_108 : decode cX10_readsCondition 108 = .ok (.getfield 249, 3) := by decide +kernel
theorem dX10_readsCondition_111 : decode cX10_readsCondition 111 = .ok (.iconst 1, 1) := by decide +kernel
theorem dX10_readsCondition_112 : decode cX10_readsCondition 112 = .ok (.isub, 1) := by decide +kernel
theorem dX10_readsCondition_113 : decode cX10_readsCondition 113 = .ok (.putfield 249, 3) := by decide +kernel
theorem dX10_readsCondition_116 : decode cX10_readsCondition 116 = .ok (.aload_n 0, 1) := by decide +kernel
theorem dX10_readsCondition_117 : decode cX10_readsCondition 117 = .ok (.aload_n 0, 1) := by decide +kernel
theorem dX10_readsCondition_118 : decode cX10_readsCondition 118 = .ok (.getfield 246, 3) := by decide +kernel
theorem dX10_readsCondition_121 : decode cX10_readsCondition 121 = .ok (.iconst 1, 1) := by decide +kernel
theorem dX10_readsCondition_122 : decode cX10_readsCondition 122 = .ok (.isub, 1) := by decide +kernel
theorem dX10_readsCondition_123 : decode cX10_readsCondition 123 = .ok (.putfield 246, 3) := by decide +kernel
theorem dX10_readsCondition_126 : decode cX10_readsCondition 126 = .ok (.aload_n 0, 1) := by decide +kernel
theorem dX10_readsCondition_127 : decode cX10_readsCondition 127 = .ok (.aload_n 0, 1) := by decide +kernel
theorem dX10_readsCondition_128 : decode cX10_readsCondition 128 = .ok (.getfield 203, 3) := by decide +kernel
theorem dX10_readsCondition_131 : decode cX10_readsCondition 131 = .ok (.iconst 1, 1) := by decide +kernel
theorem dX10_readsCondition_132 : decode cX10_readsCondition 132 = .ok (.iadd, 1) := by decide +kernel
theorem dX10_readsCondition_133 : decode cX10_readsCondition 133 = .ok (.putfield 203, 3) := by decide +kernel
theorem dX10_readsCondition_136 : decode cX10_readsCondition 136 = .ok (.aload_n 0, 1) := by decide +kernel
theorem dX10_readsCondition_137 : decode cX10_readsCondition 137 = .ok (.getfield 249, 3) := by decide +kernel
theorem dX10_readsCondition_140 : decode cX10_readsCondition 140 = .ok (.ifCond .ne 5, 3) := by decide +kernel
theorem dX10_readsCondition_143 : decode cX10_readsCondition 143 = .ok (.iconst 1, 1) := by decide +kernel
theorem dX10_readsCondition_144 : decode cX10_readsCondition 144 = .ok (.ireturn, 1) := by decide +kernel
theorem dX10_readsCondition_145 : decode cX10_readsCondition 145 = .ok (.aload_n 0, 1) := by decide +kernel
theorem dX10_readsCondition_146 : decode cX10_readsCondition 146 = .ok (.invokevirtual 285, 3) := by decide +kernel
theorem dX10_readsCondition_149 : decode cX10_readsCondition 149 = .ok (.goto (-57), 3) := by decide +kernel
theorem dX10_readsCondition_152 : decode cX10_readsCondition 152 = .ok (.aload_n 0, 1) := by decide +kernel
theorem dX10_readsCondition_153 : decode cX10_readsCondition 153 = .ok (.invokevirtual 199, 3) := by decide +kernel
theorem dX10_readsCondition_156 : decode cX10_readsCondition 156 = .ok (.bipush 38, 2) := by decide +kernel
theorem dX10_readsCondition_158 : decode cX10_readsCondition 158 = .ok (.if_icmp .eq 22, 3) := by decide +kernel
theorem dX10_readsCondition_161 : decode cX10_readsCondition 161 = .ok (.aload_n 0, 1) := by decide +kernel
theorem dX10_readsCondition_162 : decode cX10_readsCondition 162 = .ok (.invokevirtual 199, 3) := by decide +kernel
theorem dX10_readsCondition_165 : decode cX10_readsCondition 165 = .ok (.bipush 124, 2) := by decide +kernel
theorem dX10_readsCondition_167 : decode cX10_readsCondition 167 = .ok (.if_icmp .eq 13, 3) := by decide +kernel
theorem dX10_readsCondition_170 : decode cX10_readsCondition 170 = .ok (.aload_n 0, 1) := by decide +kernel
theorem dX10_readsCondition_171 : decode cX10_readsCondition 171 = .ok (.iconst 1, 1) := by decide +kernel
theorem dX10_readsCondition_172 : decode cX10_readsCondition 172 = .ok (.aload_n 0, 1) := by decide +kernel
theorem dX10_readsCondition_173 : decode cX10_readsCondition 173 = .ok (.getfield 203, 3) := by decide +kernel
theorem dX10_readsCondition_176 : decode cX10_readsCondition 176 = .ok (.invokevirtual 206, 3) := by decide +kernel
theorem dX10_readsCondition_179 : decode cX10_readsCondition 179 = .ok (.ireturn, 1) := by decide +kernel
theorem dX10_readsCondition_180 : decode cX10_readsCondition 180 = .ok (.aload_n 0, 1) := by decide +kernel
theorem dX10_readsCondition_181 : decode cX10_readsCondition 181 = .ok (.aload_n 0, 1) := by decide +kernel
theorem dX10_readsCondition_182 : decode cX10_readsCondition 182 = .ok (.invokevirtual 199, 3) := by decide +kernel
theorem dX10_readsCondition_185 : decode cX10_readsCondition 185 = .ok (.bipush 124, 2) := by decide +kernel
theorem dX10_readsCondition_187 : decode cX10_readsCondition 187 = .ok (.if_icmp .ne 7, 3) := by decide +kernel
theorem dX10_readsCondition_190 : decode cX10_readsCondition 190 = .ok (.iconst 1, 1) := by decide +kernel
theorem dX10_readsCondition_191 : decode cX10_readsCondition 191 = .ok (.goto 4, 3) := by decide +kernel
theorem dX10_readsCondition_194 : decode cX10_readsCondition 194 = .ok (.iconst 0, 1) := by decide +kernel
theorem dX10_readsCondition_195 : decode cX10_readsCondition 195 = .ok (.invokevirtual 291, 3) := by decide +kernel
theorem dX10_readsCondition_198 : decode cX10_readsCondition 198 = .ok (.aload_n 0, 1) := by decide +kernel
theorem dX10_readsCondition_199 : decode cX10_readsCondition 199 = .ok (.aload_n 0, 1) := by decide +kernel
theorem dX10_readsCondition_200 : decode cX10_readsCondition 200 = .ok (.invokevirtual 199, 3) := by decide +kernel
theorem dX10_readsCondition_203 : decode cX10_readsCondition 203 = .ok (.bipush 38, 2) := by decide +kernel
theorem dX10_readsCondition_205 : decode cX10_readsCondition 205 = .ok (.if_icmp .ne 8, 3) := by decide +kernel
theorem dX10_readsCondition_208 : decode cX10_readsCondition 208 = .ok (.bipush 11, 2) := by decide +kernel
theorem dX10_readsCondition_210 : decode cX10_readsCondition 210 = .ok (.goto 5, 3) := by decide +kernel
theorem dX10_readsCondition_213 : decode cX10_readsCondition 213 = .ok (.bipush 12, 2) := by decide +kernel
theorem dX10_readsCondition_215 : decode cX10_readsCondition 215 = .ok (.invokevirtual 294, 3) := by decide +kernel
theorem dX10_readsCondition_218 : decode cX10_readsCondition 218 = .ok (.goto (-178), 3) := by decide +kernel
theorem dX10_isClause_0 : decode cX10_isClause 0 = .ok (.iload_n 0, 1) := by decide +kernel
theorem dX10_isClause_1 : decode cX10_isClause 1 = .ok (.bipush 107, 2) := by decide +kernel
theorem dX10_isClause_3 : decode cX10_isClause 3 = .ok (.if_icmp .eq 27, 3) := by decide +kernel
theorem dX10_isClause_6 : decode cX10_isClause 6 = .ok (.iload_n 0, 1) := by decide +kernel
theorem dX10_isClause_7 : decode cX10_isClause 7 = .ok (.bipush 102, 2) := by decide +kernel
theorem dX10_isClause_9 : decode cX10_isClause 9 = .ok (.if_icmp .eq 21, 3) := by decide +kernel
theorem dX10_isClause_12 : decode cX10_isClause 12 = .ok (.iload_n 0, 1) := by decide +kernel
theorem dX10_isClause_13 : decode cX10_isClause 13 = .ok (.bipush 119, 2) := by decide +kernel
theorem dX10_isClause_15 : decode cX10_isClause 15 = .ok (.if_icmp .eq 15, 3) := by decide +kernel
theorem dX10_isClause_18 : decode cX10_isClause 18 = .ok (.iload_n 0, 1) := by decide +kernel
theorem dX10_isClause_19 : decode cX10_isClause 19 = .ok (.bipush 122, 2) := by decide +kernel
theorem dX10_isClause_21 : decode cX10_isClause 21 = .ok (.if_icmp .eq 9, 3) := by decide +kernel
theorem dX10_isClause_24 : decode cX10_isClause 24 = .ok (.iload_n 0, 1) := by decide +kernel
theorem dX10_isClause_25 : decode cX10_isClause 25 = .ok (.bipush 113, 2) := by decide +kernel
theorem dX10_isClause_27 : decode cX10_isClause 27 = .ok (.if_icmp .ne 7, 3) := by decide +kernel
theorem dX10_isClause_30 : decode cX10_isClause 30 = .ok (.iconst 1, 1) := by decide +kernel
theorem dX10_isClause_31 : decode cX10_isClause 31 = .ok (.goto 4, 3) := by decide +kernel
theorem dX10_isClause_34 : decode cX10_isClause 34 = .ok (.iconst 0, 1) := by decide +kernel
theorem dX10_isClause_35 : decode cX10_isClause 35 = .ok (.ireturn, 1) := by decide +kernel
theorem dX10_readsClause_0 : decode cX10_readsClause 0 = .ok (.aload_n 0, 1) := by decide +kernel
theorem dX10_readsClause_1 : decode cX10_readsClause 1 = .ok (.invokevirtual 199, 3) := by decide +kernel
theorem dX10_readsClause_4 : decode cX10_readsClause 4 = .ok (.istore_n 1, 1) := by decide +kernel
theorem dX10_readsClause_5 : decode cX10_readsClause 5 = .ok (.iload_n 1, 1) := by decide +kernel
theorem dX10_readsClause_6 : decode cX10_readsClause 6 = .ok (.invokestatic 297, 3) := by decide +kernel
theorem dX10_readsClause_9 : decode cX10_readsClause 9 = .ok (.ifCond .ne 13, 3) := by decide +kernel
theorem dX10_readsClause_12 : decode cX10_readsClause 12 = .ok (.aload_n 0, 1) := by decide +kernel
theorem dX10_readsClause_13 : decode cX10_readsClause 13 = .ok (.iconst 1, 1) := by decide +kernel
theorem dX10_readsClause_14 : decode cX10_readsClause 14 = .ok (.aload_n 0, 1) := by decide +kernel
theorem dX10_readsClause_15 : decode cX10_readsClause 15 = .ok (.getfield 203, 3) := by decide +kernel
theorem dX10_readsClause_18 : decode cX10_readsClause 18 = .ok (.invokevirtual 206, 3) := by decide +kernel
theorem dX10_readsClause_21 : decode cX10_readsClause 21 = .ok (.ireturn, 1) := by decide +kernel
theorem dX10_readsClause_22 : decode cX10_readsClause 22 = .ok (.aload_n 0, 1) := by decide +kernel
theorem dX10_readsClause_23 : decode cX10_readsClause 23 = .ok (.getfield 300, 3) := by decide +kernel
theorem dX10_readsClause_26 : decode cX10_readsClause 26 = .ok (.bipush 14, 2) := by decide +kernel
theorem dX10_readsClause_28 : decode cX10_readsClause 28 = .ok (.if_icmp .ne 13, 3) := by decide +kernel
theorem dX10_readsClause_31 : decode cX10_readsClause 31 = .ok (.aload_n 0, 1) := by decide +kernel
theorem dX10_readsClause_32 : decode cX10_readsClause 32 = .ok (.iconst 4, 1) := by decide +kernel
theorem dX10_readsClause_33 : decode cX10_readsClause 33 = .ok (.aload_n 0, 1) := by decide +kernel
theorem dX10_readsClause_34 : decode cX10_readsClause 34 = .ok (.getfield 203, 3) := by decide +kernel
theorem dX10_readsClause_37 : decode cX10_readsClause 37 = .ok (.invokevirtual 206, 3) := by decide +kernel
theorem dX10_readsClause_40 : decode cX10_readsClause 40 = .ok (.ireturn, 1) := by decide +kernel
theorem dX10_readsClause_41 : decode cX10_readsClause 41 = .ok (.aload_n 0, 1) := by decide +kernel
theorem dX10_readsClause_42 : decode cX10_readsClause 42 = .ok (.getfield 69, 3) := by decide +kernel
theorem dX10_readsClause_45 : decode cX10_readsClause 45 = .ok (.aload_n 0, 1) := by decide +kernel
theorem dX10_readsClause_46 : decode cX10_readsClause 46 = .ok (.getfield 300, 3) := by decide +kernel
theorem dX10_readsClause_49 : decode cX10_readsClause 49 = .ok (.iload_n 1, 1) := by decide +kernel
theorem dX10_readsClause_50 : decode cX10_readsClause 50 = .ok (.iastore, 1) := by decide +kernel
theorem dX10_readsClause_51 : decode cX10_readsClause 51 = .ok (.aload_n 0, 1) := by decide +kernel
theorem dX10_readsClause_52 : decode cX10_readsClause 52 = .ok (.aload_n 0, 1) := by decide +kernel
theorem dX10_readsClause_53 : decode cX10_readsClause 53 = .ok (.getfield 203, 3) := by decide +kernel
theorem dX10_readsClause_56 : decode cX10_readsClause 56 = .ok (.iconst 1, 1) := by decide +kernel
theorem dX10_readsClause_57 : decode cX10_readsClause 57 = .ok (.iadd, 1) := by decide +kernel
theorem dX10_readsClause_58 : decode cX10_readsClause 58 = .ok (.putfield 203, 3) := by decide +kernel
theorem dX10_readsClause_61 : decode cX10_readsClause 61 = .ok (.aload_n 0, 1) := by decide +kernel
theorem dX10_readsClause_62 : decode cX10_readsClause 62 = .ok (.getfield 72, 3) := by decide +kernel
theorem dX10_readsClause_65 : decode cX10_readsClause 65 = .ok (.aload_n 0, 1) := by decide +kernel
theorem dX10_readsClause_66 : decode cX10_readsClause 66 = .ok (.getfield 300, 3) := by decide +kernel
theorem dX10_readsClause_69 : decode cX10_readsClause 69 = .ok (.aload_n 0, 1) := by decide +kernel
theorem dX10_readsClause_70 : decode cX10_readsClause 70 = .ok (.getfield 242, 3) := by decide +kernel
theorem dX10_readsClause_73 : decode cX10_readsClause 73 = .ok (.iastore, 1) := by decide +kernel
theorem dX10_readsClause_74 : decode cX10_readsClause 74 = .ok (.aload_n 0, 1) := by decide +kernel
theorem dX10_readsClause_75 : decode cX10_readsClause 75 = .ok (.iconst 0, 1) := by decide +kernel
theorem dX10_readsClause_76 : decode cX10_readsClause 76 = .ok (.putfield 246, 3) := by decide +kernel
theorem dX10_readsClause_79 : decode cX10_readsClause 79 = .ok (.aload_n 0, 1) := by decide +kernel
theorem dX10_readsClause_80 : decode cX10_readsClause 80 = .ok (.iconst 0, 1) := by decide +kernel
theorem dX10_readsClause_81 : decode cX10_readsClause 81 = .ok (.putfield 249, 3) := by decide +kernel
theorem dX10_readsClause_84 : decode cX10_readsClause 84 = .ok (.iload_n 1, 1) := by decide +kernel
theorem dX10_readsClause_85 : decode cX10_readsClause 85 = .ok (.bipush 107, 2) := by decide +kernel
theorem dX10_readsClause_87 : decode cX10_readsClause 87 = .ok (.if_icmp .eq 12, 3) := by decide +kernel
theorem dX10_readsClause_90 : decode cX10_readsClause 90 = .ok (.aload_n 0, 1) := by decide +kernel
theorem dX10_readsClause_91 : decode cX10_readsClause 91 = .ok (.invokevirtual 282, 3) := by decide +kernel
theorem dX10_readsClause_94 : decode cX10_readsClause 94 = .ok (.ifCond .ne 5, 3) := by decide +kernel
theorem dX10_readsClause_97 : decode cX10_readsClause 97 = .ok (.iconst 0, 1) := by decide +kernel
theorem dX10_readsClause_98 : decode cX10_readsClause 98 = .ok (.ireturn, 1) := by decide +kernel
theorem dX10_readsClause_99 : decode cX10_readsClause 99 = .ok (.aload_n 0, 1) := by decide +kernel
theorem dX10_readsClause_100 : decode cX10_readsClause 100 = .ok (.getfield 75, 3) := by decide +kernel
theorem dX10_readsClause_103 : decode cX10_readsClause 103 = .ok (.aload_n 0, 1) := by decide +kernel
theorem dX10_readsClause_104 : decode cX10_readsClause 104 = .ok (.getfield 300, 3) := by decide +kernel
theorem dX10_readsClause_107 : decode cX10_readsClause 107 = .ok (.aload_n 0, 1) := by decide +kernel
theorem dX10_readsClause_108 : decode cX10_readsClause 108 = .ok (.getfield 242, 3) := by decide +kernel
theorem dX10_readsClause_111 : decode cX10_readsClause 111 = .ok (.iastore, 1) := by decide +kernel
theorem dX10_readsClause_112 : decode cX10_readsClause 112 = .ok (.aload_n 0, 1) := by decide +kernel
theorem dX10_readsClause_113 : decode cX10_readsClause 113 = .ok (.invokevirtual 303, 3) := by decide +kernel
theorem dX10_readsClause_116 : decode cX10_readsClause 116 = .ok (.ifCond .ne 5, 3) := by decide +kernel
theorem dX10_readsClause_119 : decode cX10_readsClause 119 = .ok (.iconst 0, 1) := by decide +kernel
theorem dX10_readsClause_120 : decode cX10_readsClause 120 = .ok (.ireturn, 1) := by decide +kernel
theorem dX10_readsClause_121 : decode cX10_readsClause 121 = .ok (.aload_n 0, 1) := by decide +kernel
theorem dX10_readsClause_122 : decode cX10_readsClause 122 = .ok (.getfield 78, 3) := by decide +kernel
theorem dX10_readsClause_125 : decode cX10_readsClause 125 = .ok (.aload_n 0, 1) := by decide +kernel
theorem dX10_readsClause_126 : decode cX10_readsClause 126 = .ok (.getfield 300, 3) := by decide +kernel
theorem dX10_readsClause_129 : decode cX10_readsClause 129 = .ok (.aload_n 0, 1) := by decide +kernel
theorem dX10_readsClause_130 : decode cX10_readsClause 130 = .ok (.getfield 242, 3) := by decide +kernel
theorem dX10_readsClause_133 : decode cX10_readsClause 133 = .ok (.iastore, 1) := by decide +kernel
theorem dX10_readsClause_134 : decode cX10_readsClause 134 = .ok (.aload_n 0, 1) := by decide +kernel
theorem dX10_readsClause_135 : decode cX10_readsClause 135 = .ok (.aload_n 0, 1) := by decide +kernel
theorem dX10_readsClause_136 : decode cX10_readsClause 136 = .ok (.getfield 300, 3) := by decide +kernel
theorem dX10_readsClause_139 : decode cX10_readsClause 139 = .ok (.iconst 1, 1) := by decide +kernel
theorem dX10_readsClause_140 : decode cX10_readsClause 140 = .ok (.iadd, 1) := by decide +kernel
theorem dX10_readsClause_141 : decode cX10_readsClause 141 = .ok (.putfield 300, 3) := by decide +kernel
theorem dX10_readsClause_144 : decode cX10_readsClause 144 = .ok (.iconst 1, 1) := by decide +kernel
theorem dX10_readsClause_145 : decode cX10_readsClause 145 = .ok (.ireturn, 1) := by decide +kernel
theorem dX10_law_0 : decode cX10_law 0 = .ok (.iload_n 1, 1) := by decide +kernel
theorem dX10_law_1 : decode cX10_law 1 = .ok (.iconst 1, 1) := by decide +kernel
theorem dX10_law_2 : decode cX10_law 2 = .ok (.sipush 200, 3) := by decide +kernel
theorem dX10_law_5 : decode cX10_law 5 = .ok (.invokestatic 175, 3) := by decide +kernel
theorem dX10_law_8 : decode cX10_law 8 = .ok (.ifCond .eq 11, 3) := by decide +kernel
theorem dX10_law_11 : decode cX10_law 11 = .ok (.iload_n 1, 1) := by decide +kernel
theorem dX10_law_12 : decode cX10_law 12 = .ok (.aload_n 0, 1) := by decide +kernel
theorem dX10_law_13 : decode cX10_law 13 = .ok (.getfield 188, 3) := by decide +kernel
theorem dX10_law_16 : decode cX10_law 16 = .ok (.if_icmp .le 5, 3) := by decide +kernel
theorem dX10_law_19 : decode cX10_law 19 = .ok (.iconst (-1), 1) := by decide +kernel
