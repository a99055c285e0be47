set_option maxRecDepth 100000 in
theorem iw_81 : Cond.initialized RX2 ∈ gTs := g_word (i := 81) (by decide +kernel) rfl
set_option maxRecDepth 100000 in
theorem iw_82 : Cond.initialized RX6 ∈ gTs := g_word (i := 82) (by decide +kernel) rfl
set_option maxRecDepth 100000 in
theorem iw_83 : Cond.initialized RX7 ∈ gTs := g_word (i := 83) (by decide +kernel) rfl
set_option maxRecDepth 100000 in
theorem iw_84 : Cond.initialized RX3 ∈ gTs := g_word (i := 84) (by decide +kernel) rfl
set_option maxRecDepth 100000 in
theorem iw_85 : Cond.initialized RX4 ∈ gTs := g_word (i := 85) (by decide +kernel) rfl
set_option maxRecDepth 100000 in
theorem iw_86 : Cond.initialized RX1 ∈ gTs := g_word (i := 86) (by decide +kernel) rfl
set_option maxRecDepth 100000 in
theorem iw_87 : Cond.initialized RX8 ∈ gTs := g_word (i := 87) (by decide +kernel) rfl
set_option maxRecDepth 100000 in
theorem iw_88 : Cond.initialized RX0 ∈ gTs := g_word (i := 88) (by decide +kernel) rfl
set_option maxRecDepth 100000 in
theorem iw_89 : Cond.initialized RX5 ∈ gTs := g_word (i := 89) (by decide +kernel) rfl
set_option maxRecDepth 100000 in
theorem iw_105 : Cond.methodLink RX9 3 objectInit ∈ gTs := g_word (i := 105) (by decide +kernel) rfl
set_option maxRecDepth 100000 in
theorem iw_106 : Cond.instanceMethod objectInit ∈ gTs := g_word (i := 106) (by decide +kernel) rfl
set_option maxRecDepth 100000 in
theorem iw_107 : Cond.code objectInit ⟨#[0xb1]⟩ 1 none ∈ gTs := g_word (i := 107) (by rfl) rfl
set_option maxRecDepth 100000 in
theorem iw_108 : Cond.classLink RX9 9 RX2 ∈ gTs := g_word (i := 108) (by decide +kernel) rfl
set_option maxRecDepth 100000 in
theorem iw_109 : Cond.instantiable RX2 14 ∈ gTs := g_word (i := 109) (by decide +kernel) rfl
set_option maxRecDepth 100000 in
theorem iw_111 : Cond.instanceMethod yX2_init ∈ gTs := g_word (i := 111) (by decide +kernel) rfl
set_option maxRecDepth 100000 in
theorem iw_112 : Cond.code yX2_init cX2_init 1 none ∈ gTs := g_word (i := 112) (by rfl) rfl
set_option maxRecDepth 100000 in
theorem iw_113 : Cond.methodLink RX2 3 objectInit ∈ gTs := g_word (i := 113) (by decide +kernel) rfl
set_option maxRecDepth 100000 in
theorem iw_114 : Cond.fieldLink RX2 9 RX2 (TX2 0).2.1 (TX2 0).2.2.1 ∈ gTs := g_word (i := 114) (by decide +kernel) rfl
set_option maxRecDepth 100000 in
theorem iw_117 : Cond.fieldLink RX2 15 RX2 (TX2 1).2.1 (TX2 1).2.2.1 ∈ gTs := g_word (i := 117) (by decide +kernel) rfl
set_option maxRecDepth 100000 in
theorem iw_120 : Cond.fieldLink RX2 18 RX2 (TX2 2).2.1 (TX2 2).2.2.1 ∈ gTs := g_word (i := 120) (by decide +kernel) rfl
set_option maxRecDepth 100000 in
theorem iw_122 : Cond.fieldLink RX2 21 RX2 (TX2 3).2.1 (TX2 3).2.2.1 ∈ gTs := g_word (i := 122) (by decide +kernel) rfl
set_option maxRecDepth 100000 in
theorem iw_125 : Cond.fieldLink RX2 24 RX2 (TX2 4).2.1 (TX2 4).2.2.1 ∈ gTs := g_word (i := 125) (by decide +kernel) rfl
set_option maxRecDepth 100000 in
theorem iw_128 : Cond.fieldLink RX2 27 RX2 (TX2 5).2.1 (TX2 5).2.2.1 ∈ gTs := g_word (i := 128) (by decide +kernel) rfl
set_option maxRecDepth 100000 in
theorem iw_131 : Cond.fieldLink RX2 30 RX2 (TX2 6).2.1 (TX2 6).2.2.1 ∈ gTs := g_word (i := 131) (by decide +kernel) rfl
set_option maxRecDepth 100000 in
theorem iw_135 : Cond.fieldLink RX2 33 RX2 (TX2 7).2.1 (TX2 7).2.2.1 ∈ gTs := g_word (i := 135) (by decide +kernel) rfl
set_option maxRecDepth 100000 in
theorem iw_144 : Cond.fieldLink RX2 36 RX2 (TX2 11).2.1 (TX2 11).2.2.1 ∈ gTs := g_word (i := 144) (by decide +kernel) rfl
set_option maxRecDepth 100000 in
theorem iw_149 : Cond.fieldLink RX2 40 RX2 (TX2 13).2.1 (TX2 13).2.2.1 ∈ gTs := g_word (i := 149) (by decide +kernel) rfl
set_option maxRecDepth 100000 in
theorem iw_181 : Cond.arrayClass .int ∈ gTs := g_word (i := 181) (by decide +kernel) rfl
set_option maxRecDepth 100000 in
theorem iw_182 : Cond.classLink RX9 19 RX6 ∈ gTs := g_word (i := 182) (by decide +kernel) rfl
set_option maxRecDepth 100000 in
theorem iw_183 : Cond.instantiable RX6 5 ∈ gTs := g_word (i := 183) (by decide +kernel) rfl
set_option maxRecDepth 100000 in
theorem iw_185 : Cond.instanceMethod yX6_init ∈ gTs := g_word (i := 185) (by decide +kernel) rfl
set_option maxRecDepth 100000 in
theorem iw_186 : Cond.code yX6_init cX6_init 1 none ∈ gTs := g_word (i := 186) (by rfl) rfl
set_option maxRecDepth 100000 in
theorem iw_187 : Cond.methodLink RX6 1 objectInit ∈ gTs := g_word (i := 187) (by decide +kernel) rfl
set_option maxRecDepth 100000 in
theorem iw_188 : Cond.fieldLink RX6 9 RX6 (TX6 0).2.1 (TX6 0).2.2.1 ∈ gTs := g_word (i := 188) (by decide +kernel) rfl
set_option maxRecDepth 100000 in
theorem iw_210 : Cond.classLink RX9 26 RX7 ∈ gTs := g_word (i := 210) (by decide +kernel) rfl
set_option maxRecDepth 100000 in
theorem iw_211 : Cond.instantiable RX7 6 ∈ gTs := g_word (i := 211) (by decide +kernel) rfl
set_option maxRecDepth 100000 in
theorem iw_213 : Cond.instanceMethod yX7_init ∈ gTs := g_word (i := 213) (by decide +kernel) rfl
set_option maxRecDepth 100000 in
theorem iw_214 : Cond.code yX7_init cX7_init 1 none ∈ gTs := g_word (i := 214) (by rfl) rfl
set_option maxRecDepth 100000 in
theorem iw_215 : Cond.methodLink RX7 3 objectInit ∈ gTs := g_word (i := 215) (by decide +kernel) rfl
set_option maxRecDepth 100000 in
theorem iw_216 : Cond.fieldLink RX7 11 RX7 (TX7 0).2.1 (TX7 0).2.2.1 ∈ gTs := g_word (i := 216) (by decide +kernel) rfl
set_option maxRecDepth 100000 in
theorem iw_219 : Cond.fieldLink RX7 15 RX7 (TX7 1).2.1 (TX7 1).2.2.1 ∈ gTs := g_word (i := 219) (by decide +kernel) rfl
set_option maxRecDepth 100000 in
theorem iw_222 : Cond.fieldLink RX7 18 RX7 (TX7 2).2.1 (TX7 2).2.2.1 ∈ gTs := g_word (i := 222) (by decide +kernel) rfl
set_option maxRecDepth 100000 in
theorem iw_225 : Cond.fieldLink RX7 21 RX7 (TX7 3).2.1 (TX7 3).2.2.1 ∈ gTs := g_word (i := 225) (by decide +kernel) rfl
set_option maxRecDepth 100000 in
theorem iw_228 : Cond.fieldLink RX7 24 RX7 (TX7 4).2.1 (TX7 4).2.2.1 ∈ gTs := g_word (i := 228) (by decide +kernel) rfl
set_option maxRecDepth 100000 in
theorem iw_245 : Cond.classLink RX9 36 RX3 ∈ gTs := g_word (i := 245) (by decide +kernel) rfl
set_option maxRecDepth 100000 in
theorem iw_246 : Cond.instantiable RX3 8 ∈ gTs := g_word (i := 246) (by decide +kernel) rfl
set_option maxRecDepth 100000 in
theorem iw_248 : Cond.instanceMethod yX3_init ∈ gTs := g_word (i := 248) (by decide +kernel) rfl
set_option maxRecDepth 100000 in
theorem iw_249 : Cond.code yX3_init cX3_init 1 none ∈ gTs := g_word (i := 249) (by rfl) rfl
set_option maxRecDepth 100000 in
theorem iw_250 : Cond.methodLink RX3 1 objectInit ∈ gTs := g_word (i := 250) (by decide +kernel) rfl
set_option maxRecDepth 100000 in
theorem iw_251 : Cond.fieldLink RX3 9 RX3 (TX3 0).2.1 (TX3 0).2.2.1 ∈ gTs := g_word (i := 251) (by decide +kernel) rfl
set_option maxRecDepth 100000 in
theorem iw_252 : Cond.fieldLink RX3 13 RX3 (TX3 1).2.1 (TX3 1).2.2.1 ∈ gTs := g_word (i := 252) (by decide +kernel) rfl
set_option maxRecDepth 100000 in
theorem iw_253 : Cond.fieldLink RX3 16 RX3 (TX3 2).2.1 (TX3 2).2.2.1 ∈ gTs := g_word (i := 253) (by decide +kernel) rfl
set_option maxRecDepth 100000 in
theorem iw_257 : Cond.fieldLink RX3 19 RX3 (TX3 4).2.1 (TX3 4).2.2.1 ∈ gTs := g_word (i := 257) (by decide +kernel) rfl
set_option maxRecDepth 100000 in
theorem iw_258 : Cond.fieldLink RX3 22 RX3 (TX3 5).2.1 (TX3 5).2.2.1 ∈ gTs := g_word (i := 258) (by decide +kernel) rfl
set_option maxRecDepth 100000 in
theorem iw_261 : Cond.fieldLink RX3 25 RX3 (TX3 7).2.1 (TX3 7).2.2.1 ∈ gTs := g_word (i := 261) (by decide +kernel) rfl
set_option maxRecDepth 100000 in
theorem iw_279 : Cond.classLink RX9 46 RX4 ∈ gTs := g_word (i := 279) (by decide +kernel) rfl
set_option maxRecDepth 100000 in
theorem iw_280 : Cond.instantiable RX4 2 ∈ gTs := g_word (i := 280) (by decide +kernel) rfl
set_option maxRecDepth 100000 in
theorem iw_281 : Cond.methodLink RX9 48 yX4_init ∈ gTs := g_word (i := 281) (by decide +kernel) rfl
set_option maxRecDepth 100000 in
theorem iw_282 : Cond.instanceMethod yX4_init ∈ gTs := g_word (i := 282) (by decide +kernel) rfl
set_option maxRecDepth 100000 in
theorem iw_283 : Cond.code yX4_init cX4_init 3 none ∈ gTs := g_word (i := 283) (by rfl) rfl
set_option maxRecDepth 100000 in
theorem iw_284 : Cond.methodLink RX4 3 objectInit ∈ gTs := g_word (i := 284) (by decide +kernel) rfl
set_option maxRecDepth 100000 in
theorem iw_285 : Cond.fieldLink RX4 9 RX4 (TX4 0).2.1 (TX4 0).2.2.1 ∈ gTs := g_word (i := 285) (by decide +kernel) rfl
set_option maxRecDepth 100000 in
theorem iw_286 : Cond.fieldLink RX4 15 RX4 (TX4 1).2.1 (TX4 1).2.2.1 ∈ gTs := g_word (i := 286) (by decide +kernel) rfl
set_option maxRecDepth 100000 in
theorem iw_292 : Cond.classLink RX9 55 RX1 ∈ gTs := g_word (i := 292) (by decide +kernel) rfl
set_option maxRecDepth 100000 in
theorem iw_293 : Cond.instantiable RX1 3 ∈ gTs := g_word (i := 293) (by decide +kernel) rfl
set_option maxRecDepth 100000 in
theorem iw_294 : Cond.methodLink RX9 57 yX1_init ∈ gTs := g_word (i := 294) (by decide +kernel) rfl
set_option maxRecDepth 100000 in
theorem iw_295 : Cond.instanceMethod yX1_init ∈ gTs := g_word (i := 295) (by decide +kernel) rfl
set_option maxRecDepth 100000 in
theorem iw_296 : Cond.code yX1_init cX1_init 3 none ∈ gTs := g_word (i := 296) (by rfl) rfl
set_option maxRecDepth 100000 in
theorem iw_297 : Cond.methodLink RX1 3 objectInit ∈ gTs := g_word (i := 297) (by decide +kernel) rfl
set_option maxRecDepth 100000 in
theorem iw_298 : Cond.fieldLink RX1 17 RX1 (TX1 0).2.1 (TX1 0).2.2.1 ∈ gTs := g_word (i := 298) (by decide +kernel) rfl
set_option maxRecDepth 100000 in
theorem iw_299 : Cond.fieldLink RX1 21 RX1 (TX1 1).2.1 (TX1 1).2.2.1 ∈ gTs := g_word (i := 299) (by decide +kernel) rfl
set_option maxRecDepth 100000 in
theorem iw_300 : Cond.fieldLink RX1 11 RX1 (TX1 2).2.1 (TX1 2).2.2.1 ∈ gTs := g_word (i := 300) (by decide +kernel) rfl
set_option maxRecDepth 100000 in
theorem iw_308 : Cond.classLink RX9 64 RX8 ∈ gTs := g_word (i := 308) (by decide +kernel) rfl
set_option maxRecDepth 100000 in
theorem iw_309 : Cond.instantiable RX8 6 ∈ gTs := g_word (i := 309) (by decide +kernel) rfl
set_option maxRecDepth 100000 in
theorem iw_310 : Cond.methodLink RX9 66 yX8_init ∈ gTs := g_word (i := 310) (by decide +kernel) rfl
set_option maxRecDepth 100000 in
theorem iw_311 : Cond.instanceMethod yX8_init ∈ gTs := g_word (i := 311) (by decide +kernel) rfl
set_option maxRecDepth 100000 in
theorem iw_312 : Cond.code yX8_init cX8_init 4 none ∈ gTs := g_word (i := 312) (by rfl) rfl
set_option maxRecDepth 100000 in
theorem iw_313 : Cond.methodLink RX8 3 objectInit ∈ gTs := g_word (i := 313) (by decide +kernel) rfl
set_option maxRecDepth 100000 in
theorem iw_314 : Cond.fieldLink RX8 15 RX8 (TX8 0).2.1 (TX8 0).2.2.1 ∈ gTs := g_word (i := 314) (by decide +kernel) rfl
set_option maxRecDepth 100000 in
theorem iw_315 : Cond.fieldLink RX8 19 RX8 (TX8 1).2.1 (TX8 1).2.2.1 ∈ gTs := g_word (i := 315) (by decide +kernel) rfl
set_option maxRecDepth 100000 in
theorem iw_316 : Cond.fieldLink RX8 23 RX8 (TX8 2).2.1 (TX8 2).2.2.1 ∈ gTs := g_word (i := 316) (by decide +kernel) rfl
set_option maxRecDepth 100000 in
theorem iw_317 : Cond.fieldLink RX8 9 RX8 (TX8 3).2.1 (TX8 3).2.2.1 ∈ gTs := g_word (i := 317) (by decide +kernel) rfl
set_option maxRecDepth 100000 in
theorem iw_335 : Cond.classLink RX9 73 RX0 ∈ gTs := g_word (i := 335) (by decide +kernel) rfl
set_option maxRecDepth 100000 in
theorem iw_336 : Cond.instantiable RX0 7 ∈ gTs := g_word (i := 336) (by decide +kernel) rfl
set_option maxRecDepth 100000 in
theorem iw_337 : Cond.methodLink RX9 75 yX0_init ∈ gTs := g_word (i := 337) (by decide +kernel) rfl
set_option maxRecDepth 100000 in
theorem iw_338 : Cond.instanceMethod yX0_init ∈ gTs := g_word (i := 338) (by decide +kernel) rfl
set_option maxRecDepth 100000 in
theorem iw_339 : Cond.code yX0_init cX0_init 3 none ∈ gTs := g_word (i := 339) (by rfl) rfl
set_option maxRecDepth 100000 in
theorem iw_340 : Cond.methodLink RX0 3 objectInit ∈ gTs := g_word (i := 340) (by decide +kernel) rfl
set_option maxRecDepth 100000 in
theorem iw_341 : Cond.fieldLink RX0 22 RX0 (TX0 0).2.1 (TX0 0).2.2.1 ∈ gTs := g_word (i := 341) (by decide +kernel) rfl
set_option maxRecDepth 100000 in
theorem iw_342 : Cond.fieldLink RX0 26 RX0 (TX0 1).2.1 (TX0 1).2.2.1 ∈ gTs := g_word (i := 342) (by decide +kernel) rfl
set_option maxRecDepth 100000 in
theorem iw_343 : Cond.fieldLink RX0 11 RX0 (TX0 2).2.1 (TX0 2).2.2.1 ∈ gTs := g_word (i := 343) (by decide +kernel) rfl
set_option maxRecDepth 100000 in
theorem iw_344 : Cond.fieldLink RX0 15 RX0 (TX0 3).2.1 (TX0 3).2.2.1 ∈ gTs := g_word (i := 344) (by decide +kernel) rfl
set_option maxRecDepth 100000 in
theorem iw_345 : Cond.fieldLink RX0 19 RX0 (TX0 4).2.1 (TX0 4).2.2.1 ∈ gTs := g_word (i := 345) (by decide +kernel) rfl
set_option maxRecDepth 100000 in
theorem iw_363 : Cond.arrayClass .long ∈ gTs := g_word (i := 363) (by decide +kernel) rfl
set_option maxRecDepth 100000 in
theorem iw_364 : Cond.classLink RX9 82 RX5 ∈ gTs := g_word (i := 364) (by decide +kernel) rfl
set_option maxRecDepth 100000 in
theorem iw_365 : Cond.instantiable RX5 3 ∈ gTs := g_word (i := 365) (by decide +kernel) rfl
set_option maxRecDepth 100000 in
theorem iw_367 : Cond.instanceMethod yX5_init ∈ gTs := g_word (i := 367) (by decide +kernel) rfl
set_option maxRecDepth 100000 in
theorem iw_368 : Cond.code yX5_init cX5_init 1 none ∈ gTs := g_word (i := 368) (by rfl) rfl
set_option maxRecDepth 100000 in
theorem iw_369 : Cond.methodLink RX5 3 objectInit ∈ gTs := g_word (i := 369) (by decide +kernel) rfl
set_option maxRecDepth 100000 in
theorem iw_370 : Cond.fieldLink RX5 9 RX5 (TX5 0).2.1 (TX5 0).2.2.1 ∈ gTs := g_word (i := 370) (by decide +kernel) rfl
set_option maxRecDepth 100000 in
theorem iw_372 : Cond.fieldLink RX5 15 RX5 (TX5 1).2.1 (TX5 1).2.2.1 ∈ gTs := g_word (i := 372) (by decide +kernel) rfl
set_option maxRecDepth 100000 in
theorem iw_381 : Cond.fieldLink RX9 12 RX9 (TX9 0).2.1 (TX9 0).2.2.1 ∈ gTs := g_word (i := 381) (by decide +kernel) rfl
set_option maxRecDepth 100000 in
theorem iw_382 : Cond.fieldLink RX9 16 RX9 (TX9 1).2.1 (TX9 1).2.2.1 ∈ gTs := g_word (i := 382) (by decide +kernel) rfl
set_option maxRecDepth 100000 in
theorem iw_384 : Cond.fieldLink RX9 22 RX9 (TX9 3).2.1 (TX9 3).2.2.1 ∈ gTs := g_word (i := 384) (by decide +kernel) rfl
set_option maxRecDepth 100000 in
theorem iw_385 : Cond.fieldLink RX9 29 RX9 (TX9 4).2.1 (TX9 4).2.2.1 ∈ gTs := g_word (i := 385) (by decide +kernel) rfl
set_option maxRecDepth 100000 in
theorem iw_386 : Cond.fieldLink RX9 33 RX9 (TX9 5).2.1 (TX9 5).2.2.1 ∈ gTs := g_word (i := 386) (by decide +kernel) rfl
set_option maxRecDepth 100000 in
theorem iw_387 : Cond.fieldLink RX9 39 RX9 (TX9 6).2.1 (TX9 6).2.2.1 ∈ gTs := g_word (i := 387) (by decide +kernel) rfl
set_option maxRecDepth 100000 in
theorem iw_388 : Cond.fieldLink RX9 43 RX9 (TX9 7).2.1 (TX9 7).2.2.1 ∈ gTs := g_word (i := 388) (by decide +kernel) rfl
set_option maxRecDepth 100000 in
theorem iw_389 : Cond.fieldLink RX9 51 RX9 (TX9 8).2.1 (TX9 8).2.2.1 ∈ gTs := g_word (i := 389) (by decide +kernel) rfl
set_option maxRecDepth 100000 in
theorem iw_390 : Cond.fieldLink RX9 60 RX9 (TX9 9).2.1 (TX9 9).2.2.1 ∈ gTs := g_word (i := 390) (by decide +kernel) rfl
set_option maxRecDepth 100000 in
theorem iw_391 : Cond.fieldLink RX9 69 RX9 (TX9 10).2.1 (TX9 10).2.2.1 ∈ gTs := g_word (i := 391) (by decide +kernel) rfl
set_option maxRecDepth 100000 in
theorem iw_392 : Cond.fieldLink RX9 78 RX9 (TX9 11).2.1 (TX9 11).2.2.1 ∈ gTs := g_word (i := 392) (by decide +kernel) rfl
set_option maxRecDepth 100000 in
theorem iw_393 : Cond.fieldLink RX9 85 RX9 (TX9 12).2.1 (TX9 12).2.2.1 ∈ gTs := g_word (i := 393) (by decide +kernel) rfl
set_option maxRecDepth 100000 in
theorem iw_394 : Cond.fieldLink RX9 89 RX9 (TX9 13).2.1 (TX9 13).2.2.1 ∈ gTs := g_word (i := 394) (by decide +kernel) rfl
set_option maxRecDepth 100000 in
theorem iw_713 : Cond.arrayClass .byte ∈ gTs := g_word (i := 713) (by decide +kernel) rfl
set_option maxRecDepth 100000 in
theorem iw_1035 : Cond.methodLink RX10 1 objectInit ∈ gTs := g_word (i := 1035) (by decide +kernel) rfl
set_option maxRecDepth 100000 in
theorem iw_1036 : Cond.constant RX10 120 (36864) ∈ gTs := g_word (i := 1036) (by decide +kernel) rfl
set_option maxRecDepth 100000 in
theorem iw_1037 : Cond.fieldLink RX10 154 RX10 (TX10 0).2.1 (TX10 0).2.2.1 ∈ gTs := g_word (i := 1037) (by decide +kernel) rfl
set_option maxRecDepth 100000 in
theorem iw_1038 : Cond.fieldLink RX10 158 RX10 (TX10 1).2.1 (TX10 1).2.2.1 ∈ gTs := g_word (i := 1038) (by decide +kernel) rfl
set_option maxRecDepth 100000 in
theorem iw_1042 : Cond.fieldLink RX10 7 RX10 (TX10 5).2.1 (TX10 5).2.2.1 ∈ gTs := g_word (i := 1042) (by decide +kernel) rfl
set_option maxRecDepth 100000 in
theorem iw_1043 : Cond.fieldLink RX10 13 RX10 (TX10 6).2.1 (TX10 6).2.2.1 ∈ gTs := g_word (i := 1043) (by decide +kernel) rfl
set_option maxRecDepth 100000 in
theorem iw_1044 : Cond.fieldLink RX10 16 RX10 (TX10 7).2.1 (TX10 7).2.2.1 ∈ gTs := g_word (i := 1044) (by decide +kernel) rfl
set_option maxRecDepth 100000 in
theorem iw_1045 : Cond.fieldLink RX10 19 RX10 (TX10 8).2.1 (TX10 8).2.2.1 ∈ gTs := g_word (i := 1045) (by decide +kernel) rfl
set_option maxRecDepth 100000 in
theorem iw_1046 : Cond.fieldLink RX10 22 RX10 (TX10 9).2.1 (TX10 9).2.2.1 ∈ gTs := g_word (i := 1046) (by decide +kernel) rfl
set_option maxRecDepth 100000 in
theorem iw_1047 : Cond.fieldLink RX10 25 RX10 (TX10 10).2.1 (TX10 10).2.2.1 ∈ gTs := g_word (i := 1047) (by decide +kernel) rfl
set_option maxRecDepth 100000 in
theorem iw_1048 : Cond.fieldLink RX10 28 RX10 (TX10 11).2.1 (TX10 11).2.2.1 ∈ gTs := g_word (i := 1048) (by decide +kernel) rfl
set_option maxRecDepth 100000 in
theorem iw_1049 : Cond.fieldLink RX10 31 RX10 (TX10 12).2.1 (TX10 12).2.2.1 ∈ gTs := g_word (i := 1049) (by decide +kernel) rfl
set_option maxRecDepth 100000 in
theorem iw_1050 : Cond.fieldLink RX10 34 RX10 (TX10 13).2.1 (TX10 13).2.2.1 ∈ gTs := g_word (i := 1050) (by decide +kernel) rfl
set_option maxRecDepth 100000 in
theorem iw_1058 : Cond.fieldLink RX10 38 RX10 (TX10 21).2.1 (TX10 21).2.2.1 ∈ gTs := g_word (i := 1058) (by decide +kernel) rfl
set_option maxRecDepth 100000 in
theorem iw_1059 : Cond.fieldLink RX10 41 RX10 (TX10 22).2.1 (TX10 22).2.2.1 ∈ gTs := g_word (i := 1059) (by decide +kernel) rfl
set_option maxRecDepth 100000 in
theorem iw_1060 : Cond.fieldLink RX10 44 RX10 (TX10 23).2.1 (TX10 23).2.2.1 ∈ gTs := g_word (i := 1060) (by decide +kernel) rfl
set_option maxRecDepth 100000 in
theorem iw_1061 : Cond.fieldLink RX10 47 RX10 (TX10 24).2.1 (TX10 24).2.2.1 ∈ gTs := g_word (i := 1061) (by decide +kernel) rfl
set_option maxRecDepth 100000 in
theorem iw_1062 : Cond.fieldLink RX10 50 RX10 (TX10 25).2.1 (TX10 25).2.2.1 ∈ gTs := g_word (i := 1062) (by decide +kernel) rfl
set_option maxRecDepth 100000 in
theorem iw_1063 : Cond.fieldLink RX10 53 RX10 (TX10 26).2.1 (TX10 26).2.2.1 ∈ gTs := g_word (i := 1063) (by decide +kernel) rfl
set_option maxRecDepth 100000 in
theorem iw_1064 : Cond.fieldLink RX10 56 RX10 (TX10 27).2.1 (TX10 27).2.2.1 ∈ gTs := g_word (i := 1064) (by decide +kernel) rfl
set_option maxRecDepth 100000 in
theorem iw_1065 : Cond.fieldLink RX10 60 RX10 (TX10 28).2.1 (TX10 28).2.2.1 ∈ gTs := g_word (i := 1065) (by decide +kernel) rfl
set_option maxRecDepth 100000 in
theorem iw_1071 : Cond.fieldLink RX10 63 RX10 (TX10 34).2.1 (TX10 34).2.2.1 ∈ gTs := g_word (i := 1071) (by decide +kernel) rfl
set_option maxRecDepth 100000 in
theorem iw_1072 : Cond.fieldLink RX10 66 RX10 (TX10 35).2.1 (TX10 35).2.2.1 ∈ gTs := g_word (i := 1072) (by decide +kernel) rfl
set_option maxRecDepth 100000 in
theorem iw_1073 : Cond.fieldLink RX10 69 RX10 (TX10 36).2.1 (TX10 36).2.2.1 ∈ gTs := g_word (i := 1073) (by decide +kernel) rfl
set_option maxRecDepth 100000 in
theorem iw_1074 : Cond.fieldLink RX10 72 RX10 (TX10 37).2.1 (TX10 37).2.2.1 ∈ gTs := g_word (i := 1074) (by decide +kernel) rfl
set_option maxRecDepth 100000 in
theorem iw_1075 : Cond.fieldLink RX10 75 RX10 (TX10 38).2.1 (TX10 38).2.2.1 ∈ gTs := g_word (i := 1075) (by decide +kernel) rfl
set_option maxRecDepth 100000 in
theorem iw_1076 : Cond.fieldLink RX10 78 RX10 (TX10 39).2.1 (TX10 39).2.2.1 ∈ gTs := g_word (i := 1076) (by decide +kernel) rfl
set_option maxRecDepth 100000 in
theorem iw_1077 : Cond.fieldLink RX10 81 RX10 (TX10 40).2.1 (TX10 40).2.2.1 ∈ gTs := g_word (i := 1077) (by decide +kernel) rfl
set_option maxRecDepth 100000 in
theorem iw_1078 : Cond.fieldLink RX10 84 RX10 (TX10 41).2.1 (TX10 41).2.2.1 ∈ gTs := g_word (i := 1078) (by decide +kernel) rfl
set_option maxRecDepth 100000 in
theorem iw_1079 : Cond.fieldLink RX10 87 RX10 (TX10 42).2.1 (TX10 42).2.2.1 ∈ gTs := g_word (i := 1079) (by decide +kernel) rfl
set_option maxRecDepth 100000 in
theorem iw_1080 : Cond.fieldLink RX10 90 RX10 (TX10 43).2.1 (TX10 43).2.2.1 ∈ gTs := g_word (i := 1080) (by decide +kernel) rfl
set_option maxRecDepth 100000 in
theorem iw_1081 : Cond.fieldLink RX10 93 RX10 (TX10 44).2.1 (TX10 44).2.2.1 ∈ gTs := g_word (i := 1081) (by decide +kernel) rfl
set_option maxRecDepth 100000 in
theorem iw_1082 : Cond.fieldLink RX10 96 RX10 (TX10 45).2.1 (TX10 45).2.2.1 ∈ gTs := g_word (i := 1082) (by decide +kernel) rfl
set_option maxRecDepth 100000 in
theorem iw_1083 : Cond.fieldLink RX10 99 RX10 (TX10 46).2.1 (TX10 46).2.2.1 ∈ gTs := g_word (i := 1083) (by decide +kernel) rfl
set_option maxRecDepth 100000 in
theorem iw_1084 : Cond.fieldLink RX10 102 RX10 (TX10 47).2.1 (TX10 47).2.2.1 ∈ gTs := g_word (i := 1084) (by decide +kernel) rfl
set_option maxRecDepth 100000 in
theorem iw_1085 : Cond.fieldLink RX10 105 RX10 (TX10 48).2.1 (TX10 48).2.2.1 ∈ gTs := g_word (i := 1085) (by decide +kernel) rfl
set_option maxRecDepth 100000 in
theorem iw_1086 : Cond.fieldLink RX10 108 RX10 (TX10 49).2.1 (TX10 49).2.2.1 ∈ gTs := g_word (i := 1086) (by decide +kernel) rfl
set_option maxRecDepth 100000 in
theorem iw_1087 : Cond.fieldLink RX10 111 RX10 (TX10 50).2.1 (TX10 50).2.2.1 ∈ gTs := g_word (i := 1087) (by decide +kernel) rfl
set_option maxRecDepth 100000 in
theorem iw_1088 : Cond.fieldLink RX10 114 RX10 (TX10 51).2.1 (TX10 51).2.2.1 ∈ gTs := g_word (i := 1088) (by decide +kernel) rfl
set_option maxRecDepth 100000 in
theorem iw_1089 : Cond.fieldLink RX10 117 RX10 (TX10 52).2.1 (TX10 52).2.2.1 ∈ gTs := g_word (i := 1089) (by decide +kernel) rfl
set_option maxRecDepth 100000 in
theorem iw_1090 : Cond.fieldLink RX10 121 RX10 (TX10 53).2.1 (TX10 53).2.2.1 ∈ gTs := g_word (i := 1090) (by decide +kernel) rfl
set_option maxRecDepth 100000 in
theorem iw_1091 : Cond.fieldLink RX10 124 RX10 (TX10 54).2.1 (TX10 54).2.2.1 ∈ gTs := g_word (i := 1091) (by decide +kernel) rfl
set_option maxRecDepth 100000 in
theorem iw_1092 : Cond.fieldLink RX10 127 RX10 (TX10 55).2.1 (TX10 55).2.2.1 ∈ gTs := g_word (i := 1092) (by decide +kernel) rfl
set_option maxRecDepth 100000 in
theorem iw_1099 : Cond.fieldLink RX10 130 RX10 (TX10 62).2.1 (TX10 62).2.2.1 ∈ gTs := g_word (i := 1099) (by decide +kernel) rfl
set_option maxRecDepth 100000 in
theorem iw_1100 : Cond.fieldLink RX10 133 RX10 (TX10 63).2.1 (TX10 63).2.2.1 ∈ gTs := g_word (i := 1100) (by decide +kernel) rfl
set_option maxRecDepth 100000 in
theorem iw_1101 : Cond.fieldLink RX10 136 RX10 (TX10 64).2.1 (TX10 64).2.2.1 ∈ gTs := g_word (i := 1101) (by decide +kernel) rfl
set_option maxRecDepth 100000 in
theorem iw_1102 : Cond.fieldLink RX10 139 RX10 (TX10 65).2.1 (TX10 65).2.2.1 ∈ gTs := g_word (i := 1102) (by decide +kernel) rfl
set_option maxRecDepth 100000 in
theorem iw_1103 : Cond.fieldLink RX10 142 RX10 (TX10 66).2.1 (TX10 66).2.2.1 ∈ gTs := g_word (i := 1103) (by decide +kernel) rfl
set_option maxRecDepth 100000 in
theorem iw_1104 : Cond.fieldLink RX10 145 RX10 (TX10 67).2.1 (TX10 67).2.2.1 ∈ gTs := g_word (i := 1104) (by decide +kernel) rfl
set_option maxRecDepth 100000 in
theorem iw_1105 : Cond.fieldLink RX10 148 RX10 (TX10 68).2.1 (TX10 68).2.2.1 ∈ gTs := g_word (i := 1105) (by decide +kernel) rfl
set_option maxRecDepth 100000 in
theorem iw_1106 : Cond.fieldLink RX10 151 RX10 (TX10 69).2.1 (TX10 69).2.2.1 ∈ gTs := g_word (i := 1106) (by decide +kernel) rfl
set_option maxRecDepth 100000 in
theorem iw_1248 : Cond.arrayClass .boolean ∈ gTs := g_word (i := 1248) (by decide +kernel) rfl
