theorem d_M_relate_467 : decode prog_14_method_93_code 467 = .ok (.aload_n 0, 1) := by decide +kernel
theorem d_M_relate_468 : decode prog_14_method_93_code 468 = .ok (.iload 13, 2) := by decide +kernel
theorem d_M_relate_470 : decode prog_14_method_93_code 470 = .ok (.bipush 7, 2) := by decide +kernel
theorem d_M_relate_472 : decode prog_14_method_93_code 472 = .ok (.if_icmp .ne 8, 3) := by decide +kernel
theorem d_M_relate_480 : decode prog_14_method_93_code 480 = .ok (.iconst 0, 1) := by decide +kernel
theorem d_M_relate_481 : decode prog_14_method_93_code 481 = .ok (.iload 14, 2) := by decide +kernel
theorem d_M_relate_483 : decode prog_14_method_93_code 483 = .ok (.iload 15, 2) := by decide +kernel
theorem d_M_relate_485 : decode prog_14_method_93_code 485 = .ok (.iconst 1, 1) := by decide +kernel
theorem d_M_relate_486 : decode prog_14_method_93_code 486 = .ok (.iadd, 1) := by decide +kernel
theorem d_M_relate_487 : decode prog_14_method_93_code 487 = .ok (.invokevirtual 474, 3) := by decide +kernel
theorem u_2281 : Cond.methodLink "FilterGuardModel" 474 ⟨"FilterGuardModel", "widen", "(III)V"⟩ ∈ fg_g := fg_in (List.mem_of_getElem? (i := 2281) (by decide +kernel)) rfl
theorem u_2284 : Cond.code ⟨"FilterGuardModel", "widen", "(III)V"⟩ prog_14_method_91_code 5 none ∈ fg_g := fg_in (List.mem_of_getElem? (i := 2284) (by decide +kernel)) rfl
theorem u_2283 : Cond.instanceMethod ⟨"FilterGuardModel", "widen", "(III)V"⟩ ∈ fg_g := fg_in (List.mem_of_getElem? (i := 2283) (by decide +kernel)) rfl
theorem u_142 : Cond.selects "FilterGuardModel" ⟨"FilterGuardModel", "widen", "(III)V"⟩ ⟨"FilterGuardModel", "widen", "(III)V"⟩ ∈ fg_g := fg_in (List.mem_of_getElem? (i := 142) (by decide +kernel)) rfl
theorem d_M_relate_490 : decode prog_14_method_93_code 490 = .ok (.goto 24, 3) := by decide +kernel
theorem d_M_relate_514 : decode prog_14_method_93_code 514 = .ok (.iconst 0, 1) := by decide +kernel
theorem d_M_relate_515 : decode prog_14_method_93_code 515 = .ok (.ireturn, 1) := by decide +kernel
theorem d_M_relate_475 : decode prog_14_method_93_code 475 = .ok (.iload 8, 2) := by decide +kernel
theorem d_M_relate_477 : decode prog_14_method_93_code 477 = .ok (.goto 4, 3) := by decide +kernel
theorem d_M_relate_434 : decode prog_14_method_93_code 434 = .ok (.istore 13, 2) := by decide +kernel
theorem d_M_relate_436 : decode prog_14_method_93_code 436 = .ok (.aload_n 0, 1) := by decide +kernel
theorem d_M_relate_437 : decode prog_14_method_93_code 437 = .ok (.getfield 98, 3) := by decide +kernel
theorem d_M_relate_440 : decode prog_14_method_93_code 440 = .ok (.iload 12, 2) := by decide +kernel
theorem d_M_relate_442 : decode prog_14_method_93_code 442 = .ok (.iaload, 1) := by decide +kernel
theorem d_M_relate_443 : decode prog_14_method_93_code 443 = .ok (.istore 14, 2) := by decide +kernel
theorem d_M_relate_445 : decode prog_14_method_93_code 445 = .ok (.aload_n 0, 1) := by decide +kernel
theorem d_M_relate_446 : decode prog_14_method_93_code 446 = .ok (.getfield 92, 3) := by decide +kernel
theorem d_M_relate_449 : decode prog_14_method_93_code 449 = .ok (.iload 12, 2) := by decide +kernel
theorem d_M_relate_451 : decode prog_14_method_93_code 451 = .ok (.iaload, 1) := by decide +kernel
theorem d_M_relate_452 : decode prog_14_method_93_code 452 = .ok (.istore 15, 2) := by decide +kernel
theorem d_M_relate_454 : decode prog_14_method_93_code 454 = .ok (.iload 13, 2) := by decide +kernel
theorem d_M_relate_456 : decode prog_14_method_93_code 456 = .ok (.bipush 7, 2) := by decide +kernel
theorem d_M_relate_458 : decode prog_14_method_93_code 458 = .ok (.if_icmp .eq 9, 3) := by decide +kernel
theorem d_M_relate_461 : decode prog_14_method_93_code 461 = .ok (.iload 13, 2) := by decide +kernel
theorem d_M_relate_463 : decode prog_14_method_93_code 463 = .ok (.iconst 2, 1) := by decide +kernel
theorem d_M_relate_464 : decode prog_14_method_93_code 464 = .ok (.if_icmp .ne 29, 3) := by decide +kernel
theorem d_M_relate_493 : decode prog_14_method_93_code 493 = .ok (.aload_n 0, 1) := by decide +kernel
theorem d_M_relate_494 : decode prog_14_method_93_code 494 = .ok (.iload 13, 2) := by decide +kernel
theorem d_M_relate_496 : decode prog_14_method_93_code 496 = .ok (.bipush 8, 2) := by decide +kernel
theorem d_M_relate_498 : decode prog_14_method_93_code 498 = .ok (.if_icmp .ne 8, 3) := by decide +kernel
theorem d_M_relate_506 : decode prog_14_method_93_code 506 = .ok (.iconst 0, 1) := by decide +kernel
theorem d_M_relate_507 : decode prog_14_method_93_code 507 = .ok (.iload 14, 2) := by decide +kernel
theorem d_M_relate_509 : decode prog_14_method_93_code 509 = .ok (.iload 15, 2) := by decide +kernel
theorem d_M_relate_511 : decode prog_14_method_93_code 511 = .ok (.invokevirtual 474, 3) := by decide +kernel
theorem d_M_relate_501 : decode prog_14_method_93_code 501 = .ok (.iload 8, 2) := by decide +kernel
theorem d_M_relate_503 : decode prog_14_method_93_code 503 = .ok (.goto 4, 3) := by decide +kernel
theorem d_M_relate_388 : decode prog_14_method_93_code 388 = .ok (.istore 12, 2) := by decide +kernel
theorem d_M_relate_390 : decode prog_14_method_93_code 390 = .ok (.iload 11, 2) := by decide +kernel
theorem d_M_relate_392 : decode prog_14_method_93_code 392 = .ok (.ifCond .eq 8, 3) := by decide +kernel
theorem d_M_relate_400 : decode prog_14_method_93_code 400 = .ok (.iload 7, 2) := by decide +kernel
theorem d_M_relate_402 : decode prog_14_method_93_code 402 = .ok (.iconst 1, 1) := by decide +kernel
theorem d_M_relate_403 : decode prog_14_method_93_code 403 = .ok (.if_icmp .ne 8, 3) := by decide +kernel
theorem d_M_relate_411 : decode prog_14_method_93_code 411 = .ok (.iload 7, 2) := by decide +kernel
theorem d_M_relate_413 : decode prog_14_method_93_code 413 = .ok (.iconst 2, 1) := by decide +kernel
theorem d_M_relate_414 : decode prog_14_method_93_code 414 = .ok (.if_icmp .ne 8, 3) := by decide +kernel
theorem d_M_relate_422 : decode prog_14_method_93_code 422 = .ok (.iload 7, 2) := by decide +kernel
theorem d_M_relate_424 : decode prog_14_method_93_code 424 = .ok (.bipush 7, 2) := by decide +kernel
theorem d_M_relate_426 : decode prog_14_method_93_code 426 = .ok (.if_icmp .ne 7, 3) := by decide +kernel
theorem d_M_relate_433 : decode prog_14_method_93_code 433 = .ok (.iconst 2, 1) := by decide +kernel
theorem d_M_relate_429 : decode prog_14_method_93_code 429 = .ok (.iconst 1, 1) := by decide +kernel
theorem d_M_relate_430 : decode prog_14_method_93_code 430 = .ok (.goto 4, 3) := by decide +kernel
theorem d_M_relate_417 : decode prog_14_method_93_code 417 = .ok (.bipush 8, 2) := by decide +kernel
theorem d_M_relate_419 : decode prog_14_method_93_code 419 = .ok (.goto 15, 3) := by decide +kernel
theorem d_M_relate_406 : decode prog_14_method_93_code 406 = .ok (.bipush 7, 2) := by decide +kernel
theorem d_M_relate_408 : decode prog_14_method_93_code 408 = .ok (.goto 26, 3) := by decide +kernel
theorem d_M_relate_395 : decode prog_14_method_93_code 395 = .ok (.iload 7, 2) := by decide +kernel
theorem d_M_relate_397 : decode prog_14_method_93_code 397 = .ok (.goto 37, 3) := by decide +kernel
theorem d_M_relate_357 : decode prog_14_method_93_code 357 = .ok (.aload_n 0, 1) := by decide +kernel
theorem d_M_relate_358 : decode prog_14_method_93_code 358 = .ok (.getfield 457, 3) := by decide +kernel
theorem d_M_relate_361 : decode prog_14_method_93_code 361 = .ok (.sipush 200, 3) := by decide +kernel
theorem d_M_relate_364 : decode prog_14_method_93_code 364 = .ok (.if_icmp .ne 5, 3) := by decide +kernel
theorem d_M_relate_369 : decode prog_14_method_93_code 369 = .ok (.aload_n 0, 1) := by decide +kernel
theorem d_M_relate_370 : decode prog_14_method_93_code 370 = .ok (.iconst 0, 1) := by decide +kernel
theorem d_M_relate_371 : decode prog_14_method_93_code 371 = .ok (.iload 8, 2) := by decide +kernel
theorem d_M_relate_373 : decode prog_14_method_93_code 373 = .ok (.invokevirtual 467, 3) := by decide +kernel
theorem d_M_relate_376 : decode prog_14_method_93_code 376 = .ok (.iload 11, 2) := by decide +kernel
theorem d_M_relate_378 : decode prog_14_method_93_code 378 = .ok (.ifCond .eq 8, 3) := by decide +kernel
theorem d_M_relate_386 : decode prog_14_method_93_code 386 = .ok (.iload 5, 2) := by decide +kernel
theorem d_M_relate_381 : decode prog_14_method_93_code 381 = .ok (.iload 4, 2) := by decide +kernel
theorem d_M_relate_383 : decode prog_14_method_93_code 383 = .ok (.goto 5, 3) := by decide +kernel
theorem d_M_relate_367 : decode prog_14_method_93_code 367 = .ok (.iconst 0, 1) := by decide +kernel
theorem d_M_relate_368 : decode prog_14_method_93_code 368 = .ok (.ireturn, 1) := by decide +kernel
theorem d_M_relate_320 : decode prog_14_method_93_code 320 = .ok (.istore 11, 2) := by decide +kernel
theorem d_M_relate_322 : decode prog_14_method_93_code 322 = .ok (.iload 10, 2) := by decide +kernel
theorem d_M_relate_324 : decode prog_14_method_93_code 324 = .ok (.ifCond .eq 30, 3) := by decide +kernel
theorem d_M_relate_354 : decode prog_14_method_93_code 354 = .ok (.bipush 12, 2) := by decide +kernel
theorem d_M_relate_356 : decode prog_14_method_93_code 356 = .ok (.ireturn, 1) := by decide +kernel
theorem d_M_relate_327 : decode prog_14_method_93_code 327 = .ok (.iload 11, 2) := by decide +kernel
theorem d_M_relate_329 : decode prog_14_method_93_code 329 = .ok (.ifCond .ne 28, 3) := by decide +kernel
theorem d_M_relate_332 : decode prog_14_method_93_code 332 = .ok (.aload_n 0, 1) := by decide +kernel
theorem d_M_relate_333 : decode prog_14_method_93_code 333 = .ok (.getfield 89, 3) := by decide +kernel
theorem d_M_relate_336 : decode prog_14_method_93_code 336 = .ok (.iload 4, 2) := by decide +kernel
theorem d_M_relate_338 : decode prog_14_method_93_code 338 = .ok (.baload, 1) := by decide +kernel
theorem d_M_relate_339 : decode prog_14_method_93_code 339 = .ok (.iconst 5, 1) := by decide +kernel
theorem d_M_relate_340 : decode prog_14_method_93_code 340 = .ok (.if_icmp .ne 14, 3) := by decide +kernel
theorem d_M_relate_343 : decode prog_14_method_93_code 343 = .ok (.aload_n 0, 1) := by decide +kernel
theorem d_M_relate_344 : decode prog_14_method_93_code 344 = .ok (.getfield 89, 3) := by decide +kernel
theorem d_M_relate_347 : decode prog_14_method_93_code 347 = .ok (.iload 5, 2) := by decide +kernel
theorem d_M_relate_349 : decode prog_14_method_93_code 349 = .ok (.baload, 1) := by decide +kernel
theorem d_M_relate_350 : decode prog_14_method_93_code 350 = .ok (.iconst 4, 1) := by decide +kernel
theorem d_M_relate_351 : decode prog_14_method_93_code 351 = .ok (.if_icmp .eq 6, 3) := by decide +kernel
theorem d_M_relate_319 : decode prog_14_method_93_code 319 = .ok (.iconst 0, 1) := by decide +kernel
theorem d_M_relate_291 : decode prog_14_method_93_code 291 = .ok (.istore 10, 2) := by decide +kernel
theorem d_M_relate_293 : decode prog_14_method_93_code 293 = .ok (.aload_n 0, 1) := by decide +kernel
theorem d_M_relate_294 : decode prog_14_method_93_code 294 = .ok (.getfield 89, 3) := by decide +kernel
theorem d_M_relate_297 : decode prog_14_method_93_code 297 = .ok (.iload 4, 2) := by decide +kernel
theorem d_M_relate_299 : decode prog_14_method_93_code 299 = .ok (.baload, 1) := by decide +kernel
theorem d_M_relate_300 : decode prog_14_method_93_code 300 = .ok (.iconst 4, 1) := by decide +kernel
theorem d_M_relate_301 : decode prog_14_method_93_code 301 = .ok (.if_icmp .ne 18, 3) := by decide +kernel
theorem d_M_relate_304 : decode prog_14_method_93_code 304 = .ok (.aload_n 0, 1) := by decide +kernel
theorem d_M_relate_305 : decode prog_14_method_93_code 305 = .ok (.getfield 89, 3) := by decide +kernel
theorem d_M_relate_308 : decode prog_14_method_93_code 308 = .ok (.iload 5, 2) := by decide +kernel
theorem d_M_relate_310 : decode prog_14_method_93_code 310 = .ok (.baload, 1) := by decide +kernel
theorem d_M_relate_311 : decode prog_14_method_93_code 311 = .ok (.iconst 5, 1) := by decide +kernel
theorem d_M_relate_312 : decode prog_14_method_93_code 312 = .ok (.if_icmp .ne 7, 3) := by decide +kernel
theorem d_M_relate_315 : decode prog_14_method_93_code 315 = .ok (.iconst 1, 1) := by decide +kernel
theorem d_M_relate_316 : decode prog_14_method_93_code 316 = .ok (.goto 4, 3) := by decide +kernel
theorem d_M_relate_286 : decode prog_14_method_93_code 286 = .ok (.iconst 1, 1) := by decide +kernel
theorem d_M_relate_287 : decode prog_14_method_93_code 287 = .ok (.goto 4, 3) := by decide +kernel
theorem d_M_relate_260 : decode prog_14_method_93_code 260 = .ok (.iload 7, 2) := by decide +kernel
theorem d_M_relate_262 : decode prog_14_method_93_code 262 = .ok (.iconst 1, 1) := by decide +kernel
theorem d_M_relate_263 : decode prog_14_method_93_code 263 = .ok (.if_icmp .eq 23, 3) := by decide +kernel
theorem d_M_relate_266 : decode prog_14_method_93_code 266 = .ok (.iload 7, 2) := by decide +kernel
theorem d_M_relate_268 : decode prog_14_method_93_code 268 = .ok (.iconst 2, 1) := by decide +kernel
theorem d_M_relate_269 : decode prog_14_method_93_code 269 = .ok (.if_icmp .eq 17, 3) := by decide +kernel
theorem d_M_relate_272 : decode prog_14_method_93_code 272 = .ok (.iload 7, 2) := by decide +kernel
theorem d_M_relate_274 : decode prog_14_method_93_code 274 = .ok (.bipush 7, 2) := by decide +kernel
theorem d_M_relate_276 : decode prog_14_method_93_code 276 = .ok (.if_icmp .eq 10, 3) := by decide +kernel
theorem d_M_relate_279 : decode prog_14_method_93_code 279 = .ok (.iload 7, 2) := by decide +kernel
theorem d_M_relate_281 : decode prog_14_method_93_code 281 = .ok (.bipush 8, 2) := by decide +kernel
theorem d_M_relate_283 : decode prog_14_method_93_code 283 = .ok (.if_icmp .ne 7, 3) := by decide +kernel
theorem d_M_relate_290 : decode prog_14_method_93_code 290 = .ok (.iconst 0, 1) := by decide +kernel
theorem d_M_relate_234 : decode prog_14_method_93_code 234 = .ok (.iload 10, 2) := by decide +kernel
theorem d_M_relate_236 : decode prog_14_method_93_code 236 = .ok (.iconst 1, 1) := by decide +kernel
theorem d_M_relate_237 : decode prog_14_method_93_code 237 = .ok (.invokevirtual 470, 3) := by decide +kernel
theorem u_2277 : Cond.methodLink "FilterGuardModel" 470 ⟨"FilterGuardModel", "decide", "(IIZ)V"⟩ ∈ fg_g := fg_in (List.mem_of_getElem? (i := 2277) (by decide +kernel)) rfl
theorem u_2280 : Cond.code ⟨"FilterGuardModel", "decide", "(IIZ)V"⟩ prog_14_method_90_code 6 none ∈ fg_g := fg_in (List.mem_of_getElem? (i := 2280) (by decide +kernel)) rfl
theorem u_2279 : Cond.instanceMethod ⟨"FilterGuardModel", "decide", "(IIZ)V"⟩ ∈ fg_g := fg_in (List.mem_of_getElem? (i := 2279) (by decide +kernel)) rfl
theorem u_141 : Cond.selects "FilterGuardModel" ⟨"FilterGuardModel", "decide", "(IIZ)V"⟩ ⟨"FilterGuardModel", "decide", "(IIZ)V"⟩ ∈ fg_g := fg_in (List.mem_of_getElem? (i := 141) (by decide +kernel)) rfl
theorem d_M_relate_240 : decode prog_14_method_93_code 240 = .ok (.aload_n 0, 1) := by decide +kernel
theorem d_M_relate_241 : decode prog_14_method_93_code 241 = .ok (.iload 7, 2) := by decide +kernel
theorem d_M_relate_243 : decode prog_14_method_93_code 243 = .ok (.ifCond .ne 7, 3) := by decide +kernel
theorem d_M_relate_250 : decode prog_14_method_93_code 250 = .ok (.iload 8, 2) := by decide +kernel
theorem d_M_relate_252 : decode prog_14_method_93_code 252 = .ok (.iload 10, 2) := by decide +kernel
theorem d_M_relate_254 : decode prog_14_method_93_code 254 = .ok (.iconst 0, 1) := by decide +kernel
theorem d_M_relate_255 : decode prog_14_method_93_code 255 = .ok (.invokevirtual 470, 3) := by decide +kernel
theorem d_M_relate_258 : decode prog_14_method_93_code 258 = .ok (.iconst 0, 1) := by decide +kernel
theorem d_M_relate_259 : decode prog_14_method_93_code 259 = .ok (.ireturn, 1) := by decide +kernel
theorem d_M_relate_246 : decode prog_14_method_93_code 246 = .ok (.iconst 0, 1) := by decide +kernel
theorem d_M_relate_247 : decode prog_14_method_93_code 247 = .ok (.goto 5, 3) := by decide +kernel
theorem d_M_relate_200 : decode prog_14_method_93_code 200 = .ok (.iaload, 1) := by decide +kernel
theorem d_M_relate_201 : decode prog_14_method_93_code 201 = .ok (.istore 10, 2) := by decide +kernel
theorem d_M_relate_203 : decode prog_14_method_93_code 203 = .ok (.aload_n 0, 1) := by decide +kernel
theorem d_M_relate_204 : decode prog_14_method_93_code 204 = .ok (.getfield 457, 3) := by decide +kernel
theorem d_M_relate_207 : decode prog_14_method_93_code 207 = .ok (.sipush 200, 3) := by decide +kernel
theorem d_M_relate_210 : decode prog_14_method_93_code 210 = .ok (.if_icmp .ne 5, 3) := by decide +kernel
theorem d_M_relate_215 : decode prog_14_method_93_code 215 = .ok (.aload_n 0, 1) := by decide +kernel
theorem d_M_relate_216 : decode prog_14_method_93_code 216 = .ok (.iconst 0, 1) := by decide +kernel
theorem d_M_relate_217 : decode prog_14_method_93_code 217 = .ok (.iload 8, 2) := by decide +kernel
theorem d_M_relate_219 : decode prog_14_method_93_code 219 = .ok (.invokevirtual 467, 3) := by decide +kernel
theorem d_M_relate_222 : decode prog_14_method_93_code 222 = .ok (.aload_n 0, 1) := by decide +kernel
theorem d_M_relate_223 : decode prog_14_method_93_code 223 = .ok (.iload 7, 2) := by decide +kernel
theorem d_M_relate_225 : decode prog_14_method_93_code 225 = .ok (.ifCond .ne 8, 3) := by decide +kernel
theorem d_M_relate_233 : decode prog_14_method_93_code 233 = .ok (.iconst 0, 1) := by decide +kernel
theorem d_M_relate_228 : decode prog_14_method_93_code 228 = .ok (.iload 8, 2) := by decide +kernel
theorem d_M_relate_230 : decode prog_14_method_93_code 230 = .ok (.goto 4, 3) := by decide +kernel
theorem d_M_relate_213 : decode prog_14_method_93_code 213 = .ok (.iconst 0, 1) := by decide +kernel
theorem d_M_relate_214 : decode prog_14_method_93_code 214 = .ok (.ireturn, 1) := by decide +kernel
theorem d_M_relate_177 : decode prog_14_method_93_code 177 = .ok (.aload_n 0, 1) := by decide +kernel
theorem d_M_relate_178 : decode prog_14_method_93_code 178 = .ok (.getfield 98, 3) := by decide +kernel
theorem d_M_relate_181 : decode prog_14_method_93_code 181 = .ok (.aload_n 0, 1) := by decide +kernel
theorem d_M_relate_182 : decode prog_14_method_93_code 182 = .ok (.getfield 89, 3) := by decide +kernel
theorem d_M_relate_185 : decode prog_14_method_93_code 185 = .ok (.iload 4, 2) := by decide +kernel
theorem d_M_relate_187 : decode prog_14_method_93_code 187 = .ok (.baload, 1) := by decide +kernel
theorem d_M_relate_188 : decode prog_14_method_93_code 188 = .ok (.bipush 8, 2) := by decide +kernel
theorem d_M_relate_190 : decode prog_14_method_93_code 190 = .ok (.if_icmp .ne 8, 3) := by decide +kernel
theorem d_M_relate_198 : decode prog_14_method_93_code 198 = .ok (.iload 5, 2) := by decide +kernel
theorem d_M_relate_193 : decode prog_14_method_93_code 193 = .ok (.iload 4, 2) := by decide +kernel
theorem d_M_relate_195 : decode prog_14_method_93_code 195 = .ok (.goto 5, 3) := by decide +kernel
theorem d_M_relate_156 : decode prog_14_method_93_code 156 = .ok (.aload_n 0, 1) := by decide +kernel
theorem d_M_relate_157 : decode prog_14_method_93_code 157 = .ok (.getfield 89, 3) := by decide +kernel
theorem d_M_relate_160 : decode prog_14_method_93_code 160 = .ok (.iload 5, 2) := by decide +kernel
theorem d_M_relate_162 : decode prog_14_method_93_code 162 = .ok (.baload, 1) := by decide +kernel
theorem d_M_relate_163 : decode prog_14_method_93_code 163 = .ok (.bipush 8, 2) := by decide +kernel
theorem d_M_relate_165 : decode prog_14_method_93_code 165 = .ok (.if_icmp .ne 95, 3) := by decide +kernel
theorem d_M_relate_168 : decode prog_14_method_93_code 168 = .ok (.aload_n 0, 1) := by decide +kernel
theorem d_M_relate_169 : decode prog_14_method_93_code 169 = .ok (.iload 4, 2) := by decide +kernel
theorem d_M_relate_171 : decode prog_14_method_93_code 171 = .ok (.invokevirtual 464, 3) := by decide +kernel
theorem u_2273 : Cond.methodLink "FilterGuardModel" 464 ⟨"FilterGuardModel", "isZero", "(I)Z"⟩ ∈ fg_g := fg_in (List.mem_of_getElem? (i := 2273) (by decide +kernel)) rfl
theorem u_2276 : Cond.code ⟨"FilterGuardModel", "isZero", "(I)Z"⟩ prog_14_method_92_code 2 (some .boolean) ∈ fg_g := fg_in (List.mem_of_getElem? (i := 2276) (by decide +kernel)) rfl
theorem u_2275 : Cond.instanceMethod ⟨"FilterGuardModel", "isZero", "(I)Z"⟩ ∈ fg_g := fg_in (List.mem_of_getElem? (i := 2275) (by decide +kernel)) rfl
theorem u_140 : Cond.selects "FilterGuardModel" ⟨"FilterGuardModel", "isZero", "(I)Z"⟩ ⟨"FilterGuardModel", "isZero", "(I)Z"⟩ ∈ fg_g := fg_in (List.mem_of_getElem? (i := 140) (by decide +kernel)) rfl
theorem d_M_relate_174 : decode prog_14_method_93_code 174 = .ok (.ifCond .eq 86, 3) := by decide +kernel
theorem d_M_relate_128 : decode prog_14_method_93_code 128 = .ok (.istore 9, 2) := by decide +kernel
theorem d_M_relate_130 : decode prog_14_method_93_code 130 = .ok (.iload 9, 2) := by decide +kernel
theorem d_M_relate_132 : decode prog_14_method_93_code 132 = .ok (.ifCond .eq 128, 3) := by decide +kernel
theorem d_M_relate_135 : decode prog_14_method_93_code 135 = .ok (.aload_n 0, 1) := by decide +kernel
theorem d_M_relate_136 : decode prog_14_method_93_code 136 = .ok (.getfield 89, 3) := by decide +kernel
theorem d_M_relate_139 : decode prog_14_method_93_code 139 = .ok (.iload 4, 2) := by decide +kernel
theorem d_M_relate_141 : decode prog_14_method_93_code 141 = .ok (.baload, 1) := by decide +kernel
theorem d_M_relate_142 : decode prog_14_method_93_code 142 = .ok (.bipush 8, 2) := by decide +kernel
theorem d_M_relate_144 : decode prog_14_method_93_code 144 = .ok (.if_icmp .ne 12, 3) := by decide +kernel
theorem d_M_relate_147 : decode prog_14_method_93_code 147 = .ok (.aload_n 0, 1) := by decide +kernel
theorem d_M_relate_148 : decode prog_14_method_93_code 148 = .ok (.iload 5, 2) := by decide +kernel
theorem d_M_relate_150 : decode prog_14_method_93_code 150 = .ok (.invokevirtual 464, 3) := by decide +kernel
theorem d_M_relate_153 : decode prog_14_method_93_code 153 = .ok (.ifCond .ne 24, 3) := by decide +kernel
theorem d_M_relate_123 : decode prog_14_method_93_code 123 = .ok (.iconst 1, 1) := by decide +kernel
theorem d_M_relate_124 : decode prog_14_method_93_code 124 = .ok (.goto 4, 3) := by decide +kernel
theorem d_M_relate_104 : decode prog_14_method_93_code 104 = .ok (.iload 6, 2) := by decide +kernel
theorem d_M_relate_106 : decode prog_14_method_93_code 106 = .ok (.ifCond .eq 6, 3) := by decide +kernel
theorem d_M_relate_112 : decode prog_14_method_93_code 112 = .ok (.iload 7, 2) := by decide +kernel
theorem d_M_relate_114 : decode prog_14_method_93_code 114 = .ok (.ifCond .eq 9, 3) := by decide +kernel
theorem d_M_relate_117 : decode prog_14_method_93_code 117 = .ok (.iload 7, 2) := by decide +kernel
theorem d_M_relate_119 : decode prog_14_method_93_code 119 = .ok (.iconst 4, 1) := by decide +kernel
theorem d_M_relate_120 : decode prog_14_method_93_code 120 = .ok (.if_icmp .ne 7, 3) := by decide +kernel
theorem d_M_relate_127 : decode prog_14_method_93_code 127 = .ok (.iconst 0, 1) := by decide +kernel
theorem d_M_relate_109 : decode prog_14_method_93_code 109 = .ok (.bipush 12, 2) := by decide +kernel
theorem d_M_relate_111 : decode prog_14_method_93_code 111 = .ok (.ireturn, 1) := by decide +kernel
theorem d_M_relate_0 : decode prog_14_method_93_code 0 = .ok (.lload_n 1, 1) := by decide +kernel
theorem d_M_relate_1 : decode prog_14_method_93_code 1 = .ok (.invokestatic 308, 3) := by decide +kernel
theorem d_M_relate_4 : decode prog_14_method_93_code 4 = .ok (.istore_n 3, 1) := by decide +kernel
theorem d_M_relate_5 : decode prog_14_method_93_code 5 = .ok (.lload_n 1, 1) := by decide +kernel
theorem d_M_relate_6 : decode prog_14_method_93_code 6 = .ok (.invokestatic 315, 3) := by decide +kernel
theorem d_M_relate_9 : decode prog_14_method_93_code 9 = .ok (.istore 4, 2) := by decide +kernel
theorem d_M_relate_11 : decode prog_14_method_93_code 11 = .ok (.aload_n 0, 1) := by decide +kernel
theorem d_M_relate_12 : decode prog_14_method_93_code 12 = .ok (.lload_n 1, 1) := by decide +kernel
theorem d_M_relate_13 : decode prog_14_method_93_code 13 = .ok (.invokevirtual 385, 3) := by decide +kernel
theorem d_M_relate_16 : decode prog_14_method_93_code 16 = .ok (.istore 5, 2) := by decide +kernel
theorem d_M_relate_18 : decode prog_14_method_93_code 18 = .ok (.iload_n 3, 1) := by decide +kernel
theorem d_M_relate_19 : decode prog_14_method_93_code 19 = .ok (.invokestatic 339, 3) := by decide +kernel
theorem d_M_relate_22 : decode prog_14_method_93_code 22 = .ok (.istore 6, 2) := by decide +kernel
theorem d_M_relate_24 : decode prog_14_method_93_code 24 = .ok (.iload_n 3, 1) := by decide +kernel
theorem d_M_relate_25 : decode prog_14_method_93_code 25 = .ok (.iconst 4, 1) := by decide +kernel
theorem d_M_relate_26 : decode prog_14_method_93_code 26 = .ok (.ishr, 1) := by decide +kernel
theorem d_M_relate_27 : decode prog_14_method_93_code 27 = .ok (.invokestatic 451, 3) := by decide +kernel
theorem u_2219 : Cond.methodLink "FilterGuardModel" 451 ⟨"FilterGuardModel", "relationOf", "(I)I"⟩ ∈ fg_g := fg_in (List.mem_of_getElem? (i := 2219) (by decide +kernel)) rfl
theorem u_2221 : Cond.code ⟨"FilterGuardModel", "relationOf", "(I)I"⟩ prog_14_method_88_code 1 (some .int) ∈ fg_g := fg_in (List.mem_of_getElem? (i := 2221) (by decide +kernel)) rfl
theorem u_2220 : Cond.static ⟨"FilterGuardModel", "relationOf", "(I)I"⟩ ∈ fg_g := fg_in (List.mem_of_getElem? (i := 2220) (by decide +kernel)) rfl
theorem d_M_relate_30 : decode prog_14_method_93_code 30 = .ok (.istore 7, 2) := by decide +kernel
theorem d_M_relate_32 : decode prog_14_method_93_code 32 = .ok (.aload_n 0, 1) := by decide +kernel
theorem d_M_relate_33 : decode prog_14_method_93_code 33 = .ok (.getfield 89, 3) := by decide +kernel
theorem d_M_relate_36 : decode prog_14_method_93_code 36 = .ok (.iload 4, 2) := by decide +kernel
theorem d_M_relate_38 : decode prog_14_method_93_code 38 = .ok (.baload, 1) := by decide +kernel
theorem d_M_relate_39 : decode prog_14_method_93_code 39 = .ok (.ifCond .eq 13, 3) := by decide +kernel
theorem d_M_relate_52 : decode prog_14_method_93_code 52 = .ok (.bipush 10, 2) := by decide +kernel
theorem d_M_relate_54 : decode prog_14_method_93_code 54 = .ok (.ireturn, 1) := by decide +kernel
theorem d_M_relate_42 : decode prog_14_method_93_code 42 = .ok (.aload_n 0, 1) := by decide +kernel
theorem d_M_relate_43 : decode prog_14_method_93_code 43 = .ok (.getfield 89, 3) := by decide +kernel
theorem d_M_relate_46 : decode prog_14_method_93_code 46 = .ok (.iload 5, 2) := by decide +kernel
theorem d_M_relate_48 : decode prog_14_method_93_code 48 = .ok (.baload, 1) := by decide +kernel
theorem d_M_relate_49 : decode prog_14_method_93_code 49 = .ok (.ifCond .ne 6, 3) := by decide +kernel
theorem d_M_relate_55 : decode prog_14_method_93_code 55 = .ok (.aload_n 0, 1) := by decide +kernel
theorem d_M_relate_56 : decode prog_14_method_93_code 56 = .ok (.iconst 3, 1) := by decide +kernel
theorem d_M_relate_57 : decode prog_14_method_93_code 57 = .ok (.putfield 454, 3) := by decide +kernel
theorem d_M_relate_60 : decode prog_14_method_93_code 60 = .ok (.sipush 201, 3) := by decide +kernel
theorem d_M_relate_63 : decode prog_14_method_93_code 63 = .ok (.aload_n 0, 1) := by decide +kernel
theorem d_M_relate_64 : decode prog_14_method_93_code 64 = .ok (.getfield 457, 3) := by decide +kernel
theorem d_M_relate_67 : decode prog_14_method_93_code 67 = .ok (.iadd, 1) := by decide +kernel
theorem d_M_relate_68 : decode prog_14_method_93_code 68 = .ok (.istore 8, 2) := by decide +kernel
theorem d_M_relate_70 : decode prog_14_method_93_code 70 = .ok (.aload_n 0, 1) := by decide +kernel
theorem d_M_relate_71 : decode prog_14_method_93_code 71 = .ok (.iload 4, 2) := by decide +kernel
theorem d_M_relate_73 : decode prog_14_method_93_code 73 = .ok (.invokevirtual 378, 3) := by decide +kernel
theorem d_M_relate_76 : decode prog_14_method_93_code 76 = .ok (.ifCond .eq 28, 3) := by decide +kernel
theorem d_M_relate_79 : decode prog_14_method_93_code 79 = .ok (.aload_n 0, 1) := by decide +kernel
theorem d_M_relate_80 : decode prog_14_method_93_code 80 = .ok (.iload 5, 2) := by decide +kernel
theorem d_M_relate_82 : decode prog_14_method_93_code 82 = .ok (.invokevirtual 378, 3) := by decide +kernel
theorem d_M_relate_85 : decode prog_14_method_93_code 85 = .ok (.ifCond .eq 19, 3) := by decide +kernel
theorem d_M_relate_88 : decode prog_14_method_93_code 88 = .ok (.aload_n 0, 1) := by decide +kernel
theorem d_M_relate_89 : decode prog_14_method_93_code 89 = .ok (.iload 7, 2) := by decide +kernel
theorem d_M_relate_91 : decode prog_14_method_93_code 91 = .ok (.iload 4, 2) := by decide +kernel
theorem d_M_relate_93 : decode prog_14_method_93_code 93 = .ok (.iload 5, 2) := by decide +kernel
theorem d_M_relate_95 : decode prog_14_method_93_code 95 = .ok (.iload 6, 2) := by decide +kernel
theorem d_M_relate_97 : decode prog_14_method_93_code 97 = .ok (.iload 8, 2) := by decide +kernel
theorem d_M_relate_99 : decode prog_14_method_93_code 99 = .ok (.invokevirtual 460, 3) := by decide +kernel
theorem u_2222 : Cond.methodLink "FilterGuardModel" 460 ⟨"FilterGuardModel", "numbers", "(IIIZI)V"⟩ ∈ fg_g := fg_in (List.mem_of_getElem? (i := 2222) (by decide +kernel)) rfl
theorem u_2225 : Cond.code ⟨"FilterGuardModel", "numbers", "(IIIZI)V"⟩ prog_14_method_94_code 10 none ∈ fg_g := fg_in (List.mem_of_getElem? (i := 2225) (by decide +kernel)) rfl
theorem u_2224 : Cond.instanceMethod ⟨"FilterGuardModel", "numbers", "(IIIZI)V"⟩ ∈ fg_g := fg_in (List.mem_of_getElem? (i := 2224) (by decide +kernel)) rfl
theorem u_129 : Cond.selects "FilterGuardModel" ⟨"FilterGuardModel", "numbers", "(IIIZI)V"⟩ ⟨"FilterGuardModel", "numbers", "(IIIZI)V"⟩ ∈ fg_g := fg_in (List.mem_of_getElem? (i := 129) (by decide +kernel)) rfl
theorem d_M_relate_102 : decode prog_14_method_93_code 102 = .ok (.iconst 0, 1) := by decide +kernel
theorem d_M_relate_103 : decode prog_14_method_93_code 103 = .ok (.ireturn, 1) := by decide +kernel
abbrev y_M_relate : MethodName := ⟨"FilterGuardModel", "relate", "(J)I"⟩
def rm_M_relate : Room := { frames := 8, cells := 0, slots := 0, locals := 198 }
abbrev q_M_relate (D : va_G) (ad : Nat → Nat → Nat) (ca : Nat → ClassId) (N : Nat → Nat) (M0 MZ : me_M) (RZ : Int32) (A : Nat → Prop) : Array Value → Jvm.State → Outcome → Jvm.State → Prop := va_Qi (fun r (_ : Unit) => r = RZ ∧ me_wf N MZ ∧ me_kp M0 MZ) (fg_B D A (fun _ => me_W ad ca MZ) (fun _ => [])) A
set_option maxHeartbeats 4000000 in
set_option maxRecDepth 100000 in
theorem c_M_relate (l : Launch) (D : va_G) (ad : Nat → Nat → Nat) (ca : Nat → ClassId) (N : Nat → Nat) (M0 MZ : me_M) (RZ : Int32) (j0 : Nat) (x1 : Int64) (h : f_M_relate M0 j0 x1 = (some (MZ, RZ))) (hwf : me_wf N M0) (hj0 : j0 < N 1) (sz : Nat) : Met l y_M_relate (fg_w y_M_relate prog_14_method_93_code 16 (some .int)) rm_M_relate (va_Pc [.ref (ad 1 j0), .long x1] (fz_P D (me_T ca) (me_W ad ca M0) sz)) (q_M_relate D ad ca N M0 MZ RZ (va_A (me_W ad ca M0) sz)) rm_M_relate.cells rm_M_relate.slots (va_A (me_W ad ca M0) sz) := by
  refine fz_enter (fun A => q_M_relate D ad ca N M0 MZ RZ A) (by decide +kernel) (Nat.le_of_ble_eq_true rfl) ?_
  intro p e s m below meth c ls A hx hb hml hown hts hr hlocks hin hP hK hD hS hA hX hl hz
  have hl : lv_has ls 16 [(0, .ref (ad 1 j0)), (1, .long x1)] := hl
  unfold f_M_relate at h
  have hkp : me_kp M0 M0 := me_kp.rf
  have hkb := hkp
  have b_467 : ∀ (M : me_M) (y8 : Int32) (y13 : Int32) (y14 : Int32) (y15 : Int32) (H : Heap) (locs : List Loc) (ls : Array Slot), f_M_relate_b467 j0 M y8 y13 y14 y15 = (some (MZ, RZ)) → me_wf N M → me_kp M0 M → va_P D classes (me_W ad ca M) H → va_D A (me_W ad ca M) → va_S A s.heap H locs → lv_has ls 16 [(0, .ref (ad 1 j0)), (8, .int y8), (13, .int y13), (14, .int y14), (15, .int y15)] → W p l e rm_M_relate s m [.ref (ad 1 j0), .long x1].toArray below meth c H locs 0 0 (MQ below (q_M_relate D ad ca N M0 MZ RZ A) [.ref (ad 1 j0), .long x1].toArray s rm_M_relate.cells rm_M_relate.slots A) (F0 m 467 ls []) := by
    intro M y8 y13 y14 y15 H locs ls h hwf hkp hP hD hS hl
    unfold f_M_relate_b467 at h
    have hkb := hkp
    refine lv_aload_n hx hb d_M_relate_467 rfl (lv_at hl 0 rfl) ?_
    refine lv_iload hx hb d_M_relate_468 (lv_at hl 2 rfl) ?_
    refine lv_bipush (v := 7) hx hb d_M_relate_470 (by decide) ?_
    refine lv_icmp_ne (tgt := 480) hx hb d_M_relate_472 (by decide) (fun c1 => ?_) (fun c1 => ?_)
    · have h := if_f c1 h
      refine lv_iconst (v := 0) hx hb d_M_relate_480 (by decide) ?_
      refine lv_iload hx hb d_M_relate_481 (lv_at hl 3 rfl) ?_
      refine lv_iload hx hb d_M_relate_483 (lv_at hl 4 rfl) ?_
      refine lv_iconst (v := 1) hx hb d_M_relate_485 (by decide) ?_
      refine lv_iadd hx hb d_M_relate_486 ?_
      obtain ⟨M2, eM2, h⟩ := bd_ob h
      refine me_thenv0 (M1 := M2) (me_runV (C := "FilterGuardModel") (As := [.int 0, .int y14, .int (y15 + 1)]) (rest := []) ⟨hx, hb, hml, hown, hts⟩ (c_M_widen l D ad ca N M M2 j0 (0 : Int32) y14 (y15 + 1) eM2 hwf hj0 _) rfl (by show fg_nm y_M_widen 3; decide +kernel) u_2281 u_2283 u_142 u_192 u_2284 ⟨Nat.le_of_ble_eq_true rfl, Nat.le_of_ble_eq_true rfl⟩ hX hz hK hP hD hwf hS hA hj0 (by decide) rfl rfl rfl hl.1 (Nat.le_of_ble_eq_true rfl) d_M_relate_487 ⟨Nat.le_of_ble_eq_true rfl, Nat.le_of_ble_eq_true rfl⟩) hP hD hK hS hA rfl rfl (fun H locs hw hP hD hS => ?_)
      obtain ⟨hwf, hk9⟩ := hw
      have hkp := hkp.tr hk9
      refine lv_goto (tgt := 514) hx hb d_M_relate_490 (by decide) ?_
      refine lv_iconst (v := 0) hx hb d_M_relate_514 (by decide) ?_
      exact me_reti (me_kp M0) h hx hb hr hlocks hwf hkp hP hK hD hS d_M_relate_515
    have h := if_t c1 h
    refine lv_iload hx hb d_M_relate_475 (lv_at hl 1 rfl) ?_
    refine lv_goto (tgt := 481) hx hb d_M_relate_477 (by decide) ?_
    refine lv_iload hx hb d_M_relate_481 (lv_at hl 3 rfl) ?_
    refine lv_iload hx hb d_M_relate_483 (lv_at hl 4 rfl) ?_
    refine lv_iconst (v := 1) hx hb d_M_relate_485 (by decide) ?_
    refine lv_iadd hx hb d_M_relate_486 ?_
    obtain ⟨M3, eM3, h⟩ := bd_ob h
    refine me_thenv0 (M1 := M3) (me_runV (C := "FilterGuardModel") (As := [.int y8, .int y14, .int (y15 + 1)]) (rest := []) ⟨hx, hb, hml, hown, hts⟩ (c_M_widen l D ad ca N M M3 j0 y8 y14 (y15 + 1) eM3 hwf hj0 _) rfl (by show fg_nm y_M_widen 3; decide +kernel) u_2281 u_2283 u_142 u_192 u_2284 ⟨Nat.le_of_ble_eq_true rfl, Nat.le_of_ble_eq_true rfl⟩ hX hz hK hP hD hwf hS hA hj0 (by decide) rfl rfl rfl hl.1 (Nat.le_of_ble_eq_true rfl) d_M_relate_487 ⟨Nat.le_of_ble_eq_true rfl, Nat.le_of_ble_eq_true rfl⟩) hP hD hK hS hA rfl rfl (fun H locs hw hP hD hS => ?_)
    obtain ⟨hwf, hk9⟩ := hw
    have hkp := hkp.tr hk9
    refine lv_goto (tgt := 514) hx hb d_M_relate_490 (by decide) ?_
    refine lv_iconst (v := 0) hx hb d_M_relate_514 (by decide) ?_
    exact me_reti (me_kp M0) h hx hb hr hlocks hwf hkp hP hK hD hS d_M_relate_515
  have b_434 : ∀ (M : me_M) (y8 : Int32) (y12 : Int32) (s0 : Int32) (H : Heap) (locs : List Loc) (ls : Array Slot), f_M_relate_b434 j0 M y8 y12 s0 = (some (MZ, RZ)) → me_wf N M → me_kp M0 M → va_P D classes (me_W ad ca M) H → va_D A (me_W ad ca M) → va_S A s.heap H locs → lv_has ls 16 [(0, .ref (ad 1 j0)), (8, .int y8), (12, .int y12)] → W p l e rm_M_relate s m [.ref (ad 1 j0), .long x1].toArray below meth c H locs 0 0 (MQ below (q_M_relate D ad ca N M0 MZ RZ A) [.ref (ad 1 j0), .long x1].toArray s rm_M_relate.cells rm_M_relate.slots A) (F0 m 434 ls [.int s0]) := by
    intro M y8 y12 s0 H locs ls h hwf hkp hP hD hS hl
    unfold f_M_relate_b434 at h
    have hkb := hkp
    refine lv_istore (lv' := [(13, .int s0), (0, .ref (ad 1 j0)), (8, .int y8), (12, .int y12)]) hx hb d_M_relate_434 hl (by decide) rfl (fun ls hl => ?_)
    refine lv_aload_n hx hb d_M_relate_436 rfl (lv_at hl 1 rfl) ?_
    refine g_M_50 hx hb hts hown hK hP hwf hj0 (hts _ u_1791) d_M_relate_437 ?_
    obtain ⟨j4, e5, h⟩ := bd_ob h
    have hj4 : j4 < N 13 := (hwf.2.1 1 j0 50 _ e5 (by decide) hj0)
    refine me_opt (j := j4) e5 ?_
    refine lv_iload hx hb d_M_relate_440 (lv_at hl 3 rfl) ?_
    obtain ⟨g6, h⟩ := gd_ob h
    refine me_iald hx hb hK hP hwf hj4 g6 d_M_relate_442 ?_
    obtain ⟨v7, ev7, h⟩ := st_ob h
    refine fg_topi (y := v7) ev7.symm ?_
    refine lv_istore (lv' := [(14, .int v7), (13, .int s0), (0, .ref (ad 1 j0)), (8, .int y8), (12, .int y12)]) hx hb d_M_relate_443 hl (by decide) rfl (fun ls hl => ?_)
    refine lv_aload_n hx hb d_M_relate_445 rfl (lv_at hl 2 rfl) ?_
    refine g_M_48 hx hb hts hown hK hP hwf hj0 (hts _ u_1789) d_M_relate_446 ?_
    obtain ⟨j8, e9, h⟩ := bd_ob h
    have hj8 : j8 < N 13 := (hwf.2.1 1 j0 48 _ e9 (by decide) hj0)
    refine me_opt (j := j8) e9 ?_
    refine lv_iload hx hb d_M_relate_449 (lv_at hl 4 rfl) ?_
    obtain ⟨g10, h⟩ := gd_ob h
    refine me_iald hx hb hK hP hwf hj8 g10 d_M_relate_451 ?_
    obtain ⟨v11, ev11, h⟩ := st_ob h
    refine fg_topi (y := v11) ev11.symm ?_
    refine lv_istore (lv' := [(15, .int v11), (14, .int v7), (13, .int s0), (0, .ref (ad 1 j0)), (8, .int y8), (12, .int y12)]) hx hb d_M_relate_452 hl (by decide) rfl (fun ls hl => ?_)
    refine lv_iload hx hb d_M_relate_454 (lv_at hl 2 rfl) ?_
    refine lv_bipush (v := 7) hx hb d_M_relate_456 (by decide) ?_
    refine lv_icmp_eq (tgt := 467) hx hb d_M_relate_458 (by decide) (fun c12 => ?_) (fun c12 => ?_)
    · have h := if_t c12 h
      exact b_467 M y8 s0 v7 v11 _ _ _ h hwf hkp hP hD hS (lv_sub hl [3, 4, 2, 1, 0] rfl)
    have h := if_f c12 h
    refine lv_iload hx hb d_M_relate_461 (lv_at hl 2 rfl) ?_
    refine lv_iconst (v := 2) hx hb d_M_relate_463 (by decide) ?_
    refine lv_icmp_ne (tgt := 493) hx hb d_M_relate_464 (by decide) (fun c13 => ?_) (fun c13 => ?_)
    · have h := if_f c13 h
      refine lv_aload_n hx hb d_M_relate_493 rfl (lv_at hl 3 rfl) ?_
      refine lv_iload hx hb d_M_relate_494 (lv_at hl 2 rfl) ?_
      refine lv_bipush (v := 8) hx hb d_M_relate_496 (by decide) ?_
      refine lv_icmp_ne (tgt := 506) hx hb d_M_relate_498 (by decide) (fun c14 => ?_) (fun c14 => ?_)
      · have h := if_f c14 h
        refine lv_iconst (v := 0) hx hb d_M_relate_506 (by decide) ?_
        refine lv_iload hx hb d_M_relate_507 (lv_at hl 1 rfl) ?_
        refine lv_iload hx hb d_M_relate_509 (lv_at hl 0 rfl) ?_
        obtain ⟨M15, eM15, h⟩ := bd_ob h
        refine me_thenv0 (M1 := M15) (me_runV (C := "FilterGuardModel") (As := [.int 0, .int v7, .int v11]) (rest := []) ⟨hx, hb, hml, hown, hts⟩ (c_M_widen l D ad ca N M M15 j0 (0 : Int32) v7 v11 eM15 hwf hj0 _) rfl (by show fg_nm y_M_widen 3; decide +kernel) u_2281 u_2283 u_142 u_192 u_2284 ⟨Nat.le_of_ble_eq_true rfl, Nat.le_of_ble_eq_true rfl⟩ hX hz hK hP hD hwf hS hA hj0 (by decide) rfl rfl rfl hl.1 (Nat.le_of_ble_eq_true rfl) d_M_relate_511 ⟨Nat.le_of_ble_eq_true rfl, Nat.le_of_ble_eq_true rfl⟩) hP hD hK hS hA rfl rfl (fun H locs hw hP hD hS => ?_)
        obtain ⟨hwf, hk9⟩ := hw
        have hkp := hkp.tr hk9
        refine lv_iconst (v := 0) hx hb d_M_relate_514 (by decide) ?_
        exact me_reti (me_kp M0) h hx hb hr hlocks hwf hkp hP hK hD hS d_M_relate_515
      have h := if_t c14 h
      refine lv_iload hx hb d_M_relate_501 (lv_at hl 4 rfl) ?_
      refine lv_goto (tgt := 507) hx hb d_M_relate_503 (by decide) ?_
      refine lv_iload hx hb d_M_relate_507 (lv_at hl 1 rfl) ?_
      refine lv_iload hx hb d_M_relate_509 (lv_at hl 0 rfl) ?_
      obtain ⟨M16, eM16, h⟩ := bd_ob h
      refine me_thenv0 (M1 := M16) (me_runV (C := "FilterGuardModel") (As := [.int y8, .int v7, .int v11]) (rest := []) ⟨hx, hb, hml, hown, hts⟩ (c_M_widen l D ad ca N M M16 j0 y8 v7 v11 eM16 hwf hj0 _) rfl (by show fg_nm y_M_widen 3; decide +kernel) u_2281 u_2283 u_142 u_192 u_2284 ⟨Nat.le_of_ble_eq_true rfl, Nat.le_of_ble_eq_true rfl⟩ hX hz hK hP hD hwf hS hA hj0 (by decide) rfl rfl rfl hl.1 (Nat.le_of_ble_eq_true rfl) d_M_relate_511 ⟨Nat.le_of_ble_eq_true rfl, Nat.le_of_ble_eq_true rfl⟩) hP hD hK hS hA rfl rfl (fun H locs hw hP hD hS => ?_)
      obtain ⟨hwf, hk9⟩ := hw
      have hkp := hkp.tr hk9
      refine lv_iconst (v := 0) hx hb d_M_relate_514 (by decide) ?_
      exact me_reti (me_kp M0) h hx hb hr hlocks hwf hkp hP hK hD hS d_M_relate_515
    have h := if_t c13 h
    exact b_467 M y8 s0 v7 v11 _ _ _ h hwf hkp hP hD hS (lv_sub hl [3, 4, 2, 1, 0] rfl)
  have b_388 : ∀ (M : me_M) (y7 : Int32) (y8 : Int32) (y11 : Int32) (s0 : Int32) (H : Heap) (locs : List Loc) (ls : Array Slot), f_M_relate_b388 j0 M y7 y8 y11 s0 = (some (MZ, RZ)) → (y11 = 1 ∨ y11 = 0) → me_wf N M → me_kp M0 M → va_P D classes (me_W ad ca M) H → va_D A (me_W ad ca M) → va_S A s.heap H locs → lv_has ls 16 [(0, .ref (ad 1 j0)), (7, .int y7), (8, .int y8), (11, .int y11)] → W p l e rm_M_relate s m [.ref (ad 1 j0), .long x1].toArray below meth c H locs 0 0 (MQ below (q_M_relate D ad ca N M0 MZ RZ A) [.ref (ad 1 j0), .long x1].toArray s rm_M_relate.cells rm_M_relate.slots A) (F0 m 388 ls [.int s0]) := by
    intro M y7 y8 y11 s0 H locs ls h zy11 hwf hkp hP hD hS hl
    unfold f_M_relate_b388 at h
    have hkb := hkp
    refine lv_istore (lv' := [(12, .int s0), (0, .ref (ad 1 j0)), (7, .int y7), (8, .int y8), (11, .int y11)]) hx hb d_M_relate_388 hl (by decide) rfl (fun ls hl => ?_)
    refine lv_iload hx hb d_M_relate_390 (lv_at hl 4 rfl) ?_
    refine lv_if_eq (tgt := 400) hx hb d_M_relate_392 (by decide) (fun c17 => ?_) (fun c17 => ?_)
    · have h := if_t c17 h
      refine lv_iload hx hb d_M_relate_400 (lv_at hl 2 rfl) ?_
      refine lv_iconst (v := 1) hx hb d_M_relate_402 (by decide) ?_
      refine lv_icmp_ne (tgt := 411) hx hb d_M_relate_403 (by decide) (fun c18 => ?_) (fun c18 => ?_)
      · have h := if_f c18 h
        refine lv_iload hx hb d_M_relate_411 (lv_at hl 2 rfl) ?_
        refine lv_iconst (v := 2) hx hb d_M_relate_413 (by decide) ?_
        refine lv_icmp_ne (tgt := 422) hx hb d_M_relate_414 (by decide) (fun c19 => ?_) (fun c19 => ?_)
        · have h := if_f c19 h
          refine lv_iload hx hb d_M_relate_422 (lv_at hl 2 rfl) ?_
          refine lv_bipush (v := 7) hx hb d_M_relate_424 (by decide) ?_
          refine lv_icmp_ne (tgt := 433) hx hb d_M_relate_426 (by decide) (fun c20 => ?_) (fun c20 => ?_)
          · have h := if_f c20 h
            refine lv_iconst (v := 2) hx hb d_M_relate_433 (by decide) ?_
            exact b_434 M y8 s0 (2 : Int32) _ _ _ h hwf hkp hP hD hS (lv_sub hl [1, 3, 0] rfl)
          have h := if_t c20 h
          refine lv_iconst (v := 1) hx hb d_M_relate_429 (by decide) ?_
          refine lv_goto (tgt := 434) hx hb d_M_relate_430 (by decide) ?_
          exact b_434 M y8 s0 (1 : Int32) _ _ _ h hwf hkp hP hD hS (lv_sub hl [1, 3, 0] rfl)
        have h := if_t c19 h
        refine lv_bipush (v := 8) hx hb d_M_relate_417 (by decide) ?_
        refine lv_goto (tgt := 434) hx hb d_M_relate_419 (by decide) ?_
        exact b_434 M y8 s0 (8 : Int32) _ _ _ h hwf hkp hP hD hS (lv_sub hl [1, 3, 0] rfl)
      have h := if_t c18 h
      refine lv_bipush (v := 7) hx hb d_M_relate_406 (by decide) ?_
      refine lv_goto (tgt := 434) hx hb d_M_relate_408 (by decide) ?_
      exact b_434 M y8 s0 (7 : Int32) _ _ _ h hwf hkp hP hD hS (lv_sub hl [1, 3, 0] rfl)
    have h := if_f c17 h
    refine lv_iload hx hb d_M_relate_395 (lv_at hl 2 rfl) ?_
    refine lv_goto (tgt := 434) hx hb d_M_relate_397 (by decide) ?_
    exact b_434 M y8 s0 y7 _ _ _ h hwf hkp hP hD hS (lv_sub hl [1, 3, 0] rfl)
  have b_357 : ∀ (M : me_M) (y4 : Int32) (y5 : Int32) (y7 : Int32) (y8 : Int32) (y11 : Int32) (H : Heap) (locs : List Loc) (ls : Array Slot), f_M_relate_b357 j0 M y4 y5 y7 y8 y11 = (some (MZ, RZ)) → (y11 = 1 ∨ y11 = 0) → me_wf N M → me_kp M0 M → va_P D classes (me_W ad ca M) H → va_D A (me_W ad ca M) → va_S A s.heap H locs → lv_has ls 16 [(0, .ref (ad 1 j0)), (4, .int y4), (5, .int y5), (7, .int y7), (8, .int y8), (11, .int y11)] → W p l e rm_M_relate s m [.ref (ad 1 j0), .long x1].toArray below meth c H locs 0 0 (MQ below (q_M_relate D ad ca N M0 MZ RZ A) [.ref (ad 1 j0), .long x1].toArray s rm_M_relate.cells rm_M_relate.slots A) (F0 m 357 ls []) := by
    intro M y4 y5 y7 y8 y11 H locs ls h zy11 hwf hkp hP hD hS hl
    unfold f_M_relate_b357 at h
    have hkb := hkp
    refine lv_aload_n hx hb d_M_relate_357 rfl (lv_at hl 0 rfl) ?_
    refine g_M_62 hx hb hts hown hK hP hwf hj0 (hts _ u_1803) d_M_relate_358 ?_
    refine lv_sipush (v := 200) hx hb d_M_relate_361 (by decide) ?_
    refine lv_icmp_ne (tgt := 369) hx hb d_M_relate_364 (by decide) (fun c21 => ?_) (fun c21 => ?_)
    · have h := if_f c21 h
      refine lv_aload_n hx hb d_M_relate_369 rfl (lv_at hl 0 rfl) ?_
      refine lv_iconst (v := 0) hx hb d_M_relate_370 (by decide) ?_
      refine lv_iload hx hb d_M_relate_371 (lv_at hl 4 rfl) ?_
      obtain ⟨M22, eM22, h⟩ := bd_ob h
      refine me_thenv0 (M1 := M22) (me_runV (C := "FilterGuardModel") (As := [.int 0, .int y8]) (rest := []) ⟨hx, hb, hml, hown, hts⟩ (c_M_copyState l D ad ca N M M22 j0 (0 : Int32) y8 eM22 hwf hj0 _) rfl (by show fg_nm y_M_copyState 2; decide +kernel) u_2088 u_2090 u_101 u_192 u_2091 ⟨Nat.le_of_ble_eq_true rfl, Nat.le_of_ble_eq_true rfl⟩ hX hz hK hP hD hwf hS hA hj0 (by decide) rfl rfl rfl hl.1 (Nat.le_of_ble_eq_true rfl) d_M_relate_373 ⟨Nat.le_of_ble_eq_true rfl, Nat.le_of_ble_eq_true rfl⟩) hP hD hK hS hA rfl rfl (fun H locs hw hP hD hS => ?_)
      obtain ⟨hwf, hk9⟩ := hw
      have hkp := hkp.tr hk9
      refine lv_iload hx hb d_M_relate_376 (lv_at hl 5 rfl) ?_
      refine lv_if_eq (tgt := 386) hx hb d_M_relate_378 (by decide) (fun c23 => ?_) (fun c23 => ?_)
      · have h := if_t c23 h
        refine lv_iload hx hb d_M_relate_386 (lv_at hl 2 rfl) ?_
        exact b_388 M22 y7 y8 y11 y5 _ _ _ h zy11 hwf hkp hP hD hS (lv_sub hl [0, 3, 4, 5] rfl)
      have h := if_f c23 h
      refine lv_iload hx hb d_M_relate_381 (lv_at hl 1 rfl) ?_
      refine lv_goto (tgt := 388) hx hb d_M_relate_383 (by decide) ?_
      exact b_388 M22 y7 y8 y11 y4 _ _ _ h zy11 hwf hkp hP hD hS (lv_sub hl [0, 3, 4, 5] rfl)
    have h := if_t c21 h
    refine lv_iconst (v := 0) hx hb d_M_relate_367 (by decide) ?_
    exact me_reti (me_kp M0) h hx hb hr hlocks hwf hkp hP hK hD hS d_M_relate_368
  have b_320 : ∀ (M : me_M) (y4 : Int32) (y5 : Int32) (y7 : Int32) (y8 : Int32) (y10 : Int32) (s0 : Int32) (H : Heap) (locs : List Loc) (ls : Array Slot), f_M_relate_b320 j0 M y4 y5 y7 y8 y10 s0 = (some (MZ, RZ)) → (y10 = 1 ∨ y10 = 0) → (s0 = 1 ∨ s0 = 0) → me_wf N M → me_kp M0 M → va_P D classes (me_W ad ca M) H → va_D A (me_W ad ca M) → va_S A s.heap H locs → lv_has ls 16 [(0, .ref (ad 1 j0)), (4, .int y4), (5, .int y5), (7, .int y7), (8, .int y8), (10, .int y10)] → W p l e rm_M_relate s m [.ref (ad 1 j0), .long x1].toArray below meth c H locs 0 0 (MQ below (q_M_relate D ad ca N M0 MZ RZ A) [.ref (ad 1 j0), .long x1].toArray s rm_M_relate.cells rm_M_relate.slots A) (F0 m 320 ls [.int s0]) := by
    intro M y4 y5 y7 y8 y10 s0 H locs ls h zy10 zs0 hwf hkp hP hD hS hl
    unfold f_M_relate_b320 at h
    have hkb := hkp
    refine lv_istore (lv' := [(11, .int s0), (0, .ref (ad 1 j0)), (4, .int y4), (5, .int y5), (7, .int y7), (8, .int y8), (10, .int y10)]) hx hb d_M_relate_320 hl (by decide) rfl (fun ls hl => ?_)
    refine lv_iload hx hb d_M_relate_322 (lv_at hl 6 rfl) ?_
    refine lv_if_eq (tgt := 354) hx hb d_M_relate_324 (by decide) (fun c24 => ?_) (fun c24 => ?_)
    · have h := if_t c24 h
      refine lv_bipush (v := 12) hx hb d_M_relate_354 (by decide) ?_
      exact me_reti (me_kp M0) h hx hb hr hlocks hwf hkp hP hK hD hS d_M_relate_356
    have h := if_f c24 h
    refine lv_iload hx hb d_M_relate_327 (lv_at hl 0 rfl) ?_
    refine lv_if_ne (tgt := 357) hx hb d_M_relate_329 (by decide) (fun c25 => ?_) (fun c25 => ?_)
    · have h := if_f c25 h
      exact b_357 M y4 y5 y7 y8 s0 _ _ _ h zs0 hwf hkp hP hD hS (lv_sub hl [1, 2, 3, 4, 5, 0] rfl)
    have h := if_t c25 h
    refine lv_aload_n hx hb d_M_relate_332 rfl (lv_at hl 1 rfl) ?_
    refine g_M_47 hx hb hts hown hK hP hwf hj0 (hts _ u_1788) d_M_relate_333 ?_
    obtain ⟨j26, e27, h⟩ := bd_ob h
    have hj26 : j26 < N 14 := (hwf.2.1 1 j0 47 _ e27 (by decide) hj0)
    refine me_opt (j := j26) e27 ?_
    refine lv_iload hx hb d_M_relate_336 (lv_at hl 2 rfl) ?_
    obtain ⟨g28, h⟩ := gd_ob h
    refine me_bald hx hb hK hP hwf hj26 g28 d_M_relate_338 ?_
    refine lv_iconst (v := 5) hx hb d_M_relate_339 (by decide) ?_
    refine lv_icmp_ne (tgt := 354) hx hb d_M_relate_340 (by decide) (fun c29 => ?_) (fun c29 => ?_)
    · have h := if_f c29 h
      refine lv_bipush (v := 12) hx hb d_M_relate_354 (by decide) ?_
      exact me_reti (me_kp M0) h hx hb hr hlocks hwf hkp hP hK hD hS d_M_relate_356
    have h := if_t c29 h
    refine lv_aload_n hx hb d_M_relate_343 rfl (lv_at hl 1 rfl) ?_
    refine g_M_47 hx hb hts hown hK hP hwf hj0 (hts _ u_1788) d_M_relate_344 ?_
    refine me_opt (j := j26) e27 ?_
    refine lv_iload hx hb d_M_relate_347 (lv_at hl 3 rfl) ?_
    obtain ⟨g30, h⟩ := gd_ob h
    refine me_bald hx hb hK hP hwf hj26 g30 d_M_relate_349 ?_
    refine lv_iconst (v := 4) hx hb d_M_relate_350 (by decide) ?_
    refine lv_icmp_eq (tgt := 357) hx hb d_M_relate_351 (by decide) (fun c31 => ?_) (fun c31 => ?_)
    · have h := if_t c31 h
      exact b_357 M y4 y5 y7 y8 s0 _ _ _ h zs0 hwf hkp hP hD hS (lv_sub hl [1, 2, 3, 4, 5, 0] rfl)
    have h := if_f c31 h
    refine lv_bipush (v := 12) hx hb d_M_relate_354 (by decide) ?_
    exact me_reti (me_kp M0) h hx hb hr hlocks hwf hkp hP hK hD hS d_M_relate_356
  have b_319 : ∀ (M : me_M) (y4 : Int32) (y5 : Int32) (y7 : Int32) (y8 : Int32) (y10 : Int32) (H : Heap) (locs : List Loc) (ls : Array Slot), f_M_relate_b319 j0 M y4 y5 y7 y8 y10 = (some (MZ, RZ)) → (y10 = 1 ∨ y10 = 0) → me_wf N M → me_kp M0 M → va_P D classes (me_W ad ca M) H → va_D A (me_W ad ca M) → va_S A s.heap H locs → lv_has ls 16 [(0, .ref (ad 1 j0)), (4, .int y4), (5, .int y5), (7, .int y7), (8, .int y8), (10, .int y10)] → W p l e rm_M_relate s m [.ref (ad 1 j0), .long x1].toArray below meth c H locs 0 0 (MQ below (q_M_relate D ad ca N M0 MZ RZ A) [.ref (ad 1 j0), .long x1].toArray s rm_M_relate.cells rm_M_relate.slots A) (F0 m 319 ls []) := by
    intro M y4 y5 y7 y8 y10 H locs ls h zy10 hwf hkp hP hD hS hl
    unfold f_M_relate_b319 at h
    have hkb := hkp
    refine lv_iconst (v := 0) hx hb d_M_relate_319 (by decide) ?_
    exact b_320 M y4 y5 y7 y8 y10 (0 : Int32) _ _ _ h zy10 (by decide) hwf hkp hP hD hS (lv_sub hl [0, 1, 2, 3, 4, 5] rfl)
  have b_291 : ∀ (M : me_M) (y4 : Int32) (y5 : Int32) (y7 : Int32) (y8 : Int32) (s0 : Int32) (H : Heap) (locs : List Loc) (ls : Array Slot), f_M_relate_b291 j0 M y4 y5 y7 y8 s0 = (some (MZ, RZ)) → (s0 = 1 ∨ s0 = 0) → me_wf N M → me_kp M0 M → va_P D classes (me_W ad ca M) H → va_D A (me_W ad ca M) → va_S A s.heap H locs → lv_has ls 16 [(0, .ref (ad 1 j0)), (4, .int y4), (5, .int y5), (7, .int y7), (8, .int y8)] → W p l e rm_M_relate s m [.ref (ad 1 j0), .long x1].toArray below meth c H locs 0 0 (MQ below (q_M_relate D ad ca N M0 MZ RZ A) [.ref (ad 1 j0), .long x1].toArray s rm_M_relate.cells rm_M_relate.slots A) (F0 m 291 ls [.int s0]) := by
    intro M y4 y5 y7 y8 s0 H locs ls h zs0 hwf hkp hP hD hS hl
    unfold f_M_relate_b291 at h
    have hkb := hkp
    refine lv_istore (lv' := [(10, .int s0), (0, .ref (ad 1 j0)), (4, .int y4), (5, .int y5), (7, .int y7), (8, .int y8)]) hx hb d_M_relate_291 hl (by decide) rfl (fun ls hl => ?_)
    refine lv_aload_n hx hb d_M_relate_293 rfl (lv_at hl 1 rfl) ?_
    refine g_M_47 hx hb hts hown hK hP hwf hj0 (hts _ u_1788) d_M_relate_294 ?_
    obtain ⟨j32, e33, h⟩ := bd_ob h
    have hj32 : j32 < N 14 := (hwf.2.1 1 j0 47 _ e33 (by decide) hj0)
    refine me_opt (j := j32) e33 ?_
    refine lv_iload hx hb d_M_relate_297 (lv_at hl 2 rfl) ?_
    obtain ⟨g34, h⟩ := gd_ob h
    refine me_bald hx hb hK hP hwf hj32 g34 d_M_relate_299 ?_
    refine lv_iconst (v := 4) hx hb d_M_relate_300 (by decide) ?_
    refine lv_icmp_ne (tgt := 319) hx hb d_M_relate_301 (by decide) (fun c35 => ?_) (fun c35 => ?_)
    · have h := if_f c35 h
      exact b_319 M y4 y5 y7 y8 s0 _ _ _ h zs0 hwf hkp hP hD hS (lv_sub hl [1, 2, 3, 4, 5, 0] rfl)
    have h := if_t c35 h
    refine lv_aload_n hx hb d_M_relate_304 rfl (lv_at hl 1 rfl) ?_
    refine g_M_47 hx hb hts hown hK hP hwf hj0 (hts _ u_1788) d_M_relate_305 ?_
    refine me_opt (j := j32) e33 ?_
    refine lv_iload hx hb d_M_relate_308 (lv_at hl 3 rfl) ?_
    obtain ⟨g36, h⟩ := gd_ob h
    refine me_bald hx hb hK hP hwf hj32 g36 d_M_relate_310 ?_
    refine lv_iconst (v := 5) hx hb d_M_relate_311 (by decide) ?_
    refine lv_icmp_ne (tgt := 319) hx hb d_M_relate_312 (by decide) (fun c37 => ?_) (fun c37 => ?_)
    · have h := if_f c37 h
      exact b_319 M y4 y5 y7 y8 s0 _ _ _ h zs0 hwf hkp hP hD hS (lv_sub hl [1, 2, 3, 4, 5, 0] rfl)
    have h := if_t c37 h
    refine lv_iconst (v := 1) hx hb d_M_relate_315 (by decide) ?_
    refine lv_goto (tgt := 320) hx hb d_M_relate_316 (by decide) ?_
    exact b_320 M y4 y5 y7 y8 s0 (1 : Int32) _ _ _ h zs0 (by decide) hwf hkp hP hD hS (lv_sub hl [1, 2, 3, 4, 5, 0] rfl)
  have b_286 : ∀ (M : me_M) (y4 : Int32) (y5 : Int32) (y7 : Int32) (y8 : Int32) (H : Heap) (locs : List Loc) (ls : Array Slot), f_M_relate_b286 j0 M y4 y5 y7 y8 = (some (MZ, RZ)) → me_wf N M → me_kp M0 M → va_P D classes (me_W ad ca M) H → va_D A (me_W ad ca M) → va_S A s.heap H locs → lv_has ls 16 [(0, .ref (ad 1 j0)), (4, .int y4), (5, .int y5), (7, .int y7), (8, .int y8)] → W p l e rm_M_relate s m [.ref (ad 1 j0), .long x1].toArray below meth c H locs 0 0 (MQ below (q_M_relate D ad ca N M0 MZ RZ A) [.ref (ad 1 j0), .long x1].toArray s rm_M_relate.cells rm_M_relate.slots A) (F0 m 286 ls []) := by
    intro M y4 y5 y7 y8 H locs ls h hwf hkp hP hD hS hl
    unfold f_M_relate_b286 at h
    have hkb := hkp
    refine lv_iconst (v := 1) hx hb d_M_relate_286 (by decide) ?_
    refine lv_goto (tgt := 291) hx hb d_M_relate_287 (by decide) ?_
    exact b_291 M y4 y5 y7 y8 (1 : Int32) _ _ _ h (by decide) hwf hkp hP hD hS (lv_sub hl [0, 1, 2, 3, 4] rfl)
  have b_260 : ∀ (M : me_M) (y4 : Int32) (y5 : Int32) (y7 : Int32) (y8 : Int32) (H : Heap) (locs : List Loc) (ls : Array Slot), f_M_relate_b260 j0 M y4 y5 y7 y8 = (some (MZ, RZ)) → me_wf N M → me_kp M0 M → va_P D classes (me_W ad ca M) H → va_D A (me_W ad ca M) → va_S A s.heap H locs → lv_has ls 16 [(0, .ref (ad 1 j0)), (4, .int y4), (5, .int y5), (7, .int y7), (8, .int y8)] → W p l e rm_M_relate s m [.ref (ad 1 j0), .long x1].toArray below meth c H locs 0 0 (MQ below (q_M_relate D ad ca N M0 MZ RZ A) [.ref (ad 1 j0), .long x1].toArray s rm_M_relate.cells rm_M_relate.slots A) (F0 m 260 ls []) := by
    intro M y4 y5 y7 y8 H locs ls h hwf hkp hP hD hS hl
    unfold f_M_relate_b260 at h
    have hkb := hkp
    refine lv_iload hx hb d_M_relate_260 (lv_at hl 3 rfl) ?_
    refine lv_iconst (v := 1) hx hb d_M_relate_262 (by decide) ?_
    refine lv_icmp_eq (tgt := 286) hx hb d_M_relate_263 (by decide) (fun c38 => ?_) (fun c38 => ?_)
    · have h := if_t c38 h
      exact b_286 M y4 y5 y7 y8 _ _ _ h hwf hkp hP hD hS (lv_sub hl [0, 1, 2, 3, 4] rfl)
    have h := if_f c38 h
    refine lv_iload hx hb d_M_relate_266 (lv_at hl 3 rfl) ?_
    refine lv_iconst (v := 2) hx hb d_M_relate_268 (by decide) ?_
    refine lv_icmp_eq (tgt := 286) hx hb d_M_relate_269 (by decide) (fun c39 => ?_) (fun c39 => ?_)
    · have h := if_t c39 h
      exact b_286 M y4 y5 y7 y8 _ _ _ h hwf hkp hP hD hS (lv_sub hl [0, 1, 2, 3, 4] rfl)
    have h := if_f c39 h
    refine lv_iload hx hb d_M_relate_272 (lv_at hl 3 rfl) ?_
    refine lv_bipush (v := 7) hx hb d_M_relate_274 (by decide) ?_
    refine lv_icmp_eq (tgt := 286) hx hb d_M_relate_276 (by decide) (fun c40 => ?_) (fun c40 => ?_)
    · have h := if_t c40 h
      exact b_286 M y4 y5 y7 y8 _ _ _ h hwf hkp hP hD hS (lv_sub hl [0, 1, 2, 3, 4] rfl)
    have h := if_f c40 h
    refine lv_iload hx hb d_M_relate_279 (lv_at hl 3 rfl) ?_
    refine lv_bipush (v := 8) hx hb d_M_relate_281 (by decide) ?_
    refine lv_icmp_ne (tgt := 290) hx hb d_M_relate_283 (by decide) (fun c41 => ?_) (fun c41 => ?_)
    · have h := if_f c41 h
      refine lv_iconst (v := 0) hx hb d_M_relate_290 (by decide) ?_
      exact b_291 M y4 y5 y7 y8 (0 : Int32) _ _ _ h (by decide) hwf hkp hP hD hS (lv_sub hl [0, 1, 2, 3, 4] rfl)
    have h := if_t c41 h
    exact b_286 M y4 y5 y7 y8 _ _ _ h hwf hkp hP hD hS (lv_sub hl [0, 1, 2, 3, 4] rfl)
  have b_234 : ∀ (M : me_M) (y7 : Int32) (y8 : Int32) (y10 : Int32) (s0 : Int32) (s1 : Nat) (H : Heap) (locs : List Loc) (ls : Array Slot), f_M_relate_b234 j0 M y7 y8 y10 s0 s1 = (some (MZ, RZ)) → (s1 < N 1) → me_wf N M → me_kp M0 M → va_P D classes (me_W ad ca M) H → va_D A (me_W ad ca M) → va_S A s.heap H locs → lv_has ls 16 [(0, .ref (ad 1 j0)), (7, .int y7), (8, .int y8), (10, .int y10)] → W p l e rm_M_relate s m [.ref (ad 1 j0), .long x1].toArray below meth c H locs 0 0 (MQ below (q_M_relate D ad ca N M0 MZ RZ A) [.ref (ad 1 j0), .long x1].toArray s rm_M_relate.cells rm_M_relate.slots A) (F0 m 234 ls [.int s0, .ref (ad 1 s1)]) := by
    intro M y7 y8 y10 s0 s1 H locs ls h hs1 hwf hkp hP hD hS hl
    unfold f_M_relate_b234 at h
    have hkb := hkp
    refine lv_iload hx hb d_M_relate_234 (lv_at hl 3 rfl) ?_
    refine lv_iconst (v := 1) hx hb d_M_relate_236 (by decide) ?_
    obtain ⟨M42, eM42, h⟩ := bd_ob h
    refine me_thenv0 (M1 := M42) (me_runV (C := "FilterGuardModel") (As := [.int s0, .int y10, .int 1]) (rest := []) ⟨hx, hb, hml, hown, hts⟩ (c_M_decide l D ad ca N M M42 s1 s0 y10 (1 : Int32) eM42 hwf hs1 (by decide) _) rfl (by show fg_nm y_M_decide 3; decide +kernel) u_2277 u_2279 u_141 u_192 u_2280 ⟨Nat.le_of_ble_eq_true rfl, Nat.le_of_ble_eq_true rfl⟩ hX hz hK hP hD hwf hS hA hs1 (by decide) rfl rfl rfl hl.1 (Nat.le_of_ble_eq_true rfl) d_M_relate_237 ⟨Nat.le_of_ble_eq_true rfl, Nat.le_of_ble_eq_true rfl⟩) hP hD hK hS hA rfl rfl (fun H locs hw hP hD hS => ?_)
    obtain ⟨hwf, hk9⟩ := hw
    have hkp := hkp.tr hk9
    refine lv_aload_n hx hb d_M_relate_240 rfl (lv_at hl 0 rfl) ?_
    refine lv_iload hx hb d_M_relate_241 (lv_at hl 1 rfl) ?_
    refine lv_if_ne (tgt := 250) hx hb d_M_relate_243 (by decide) (fun c43 => ?_) (fun c43 => ?_)
    · have h := if_f c43 h
      refine lv_iload hx hb d_M_relate_250 (lv_at hl 2 rfl) ?_
      refine lv_iload hx hb d_M_relate_252 (lv_at hl 3 rfl) ?_
      refine lv_iconst (v := 0) hx hb d_M_relate_254 (by decide) ?_
      obtain ⟨M44, eM44, h⟩ := bd_ob h
      refine me_thenv0 (M1 := M44) (me_runV (C := "FilterGuardModel") (As := [.int y8, .int y10, .int 0]) (rest := []) ⟨hx, hb, hml, hown, hts⟩ (c_M_decide l D ad ca N M42 M44 j0 y8 y10 (0 : Int32) eM44 hwf hj0 (by decide) _) rfl (by show fg_nm y_M_decide 3; decide +kernel) u_2277 u_2279 u_141 u_192 u_2280 ⟨Nat.le_of_ble_eq_true rfl, Nat.le_of_ble_eq_true rfl⟩ hX hz hK hP hD hwf hS hA hj0 (by decide) rfl rfl rfl hl.1 (Nat.le_of_ble_eq_true rfl) d_M_relate_255 ⟨Nat.le_of_ble_eq_true rfl, Nat.le_of_ble_eq_true rfl⟩) hP hD hK hS hA rfl rfl (fun H locs hw hP hD hS => ?_)
      obtain ⟨hwf, hk9⟩ := hw
      have hkp := hkp.tr hk9
      refine lv_iconst (v := 0) hx hb d_M_relate_258 (by decide) ?_
      exact me_reti (me_kp M0) h hx hb hr hlocks hwf hkp hP hK hD hS d_M_relate_259
    have h := if_t c43 h
    refine lv_iconst (v := 0) hx hb d_M_relate_246 (by decide) ?_
    refine lv_goto (tgt := 252) hx hb d_M_relate_247 (by decide) ?_
    refine lv_iload hx hb d_M_relate_252 (lv_at hl 3 rfl) ?_
    refine lv_iconst (v := 0) hx hb d_M_relate_254 (by decide) ?_
    obtain ⟨M45, eM45, h⟩ := bd_ob h
    refine me_thenv0 (M1 := M45) (me_runV (C := "FilterGuardModel") (As := [.int 0, .int y10, .int 0]) (rest := []) ⟨hx, hb, hml, hown, hts⟩ (c_M_decide l D ad ca N M42 M45 j0 (0 : Int32) y10 (0 : Int32) eM45 hwf hj0 (by decide) _) rfl (by show fg_nm y_M_decide 3; decide +kernel) u_2277 u_2279 u_141 u_192 u_2280 ⟨Nat.le_of_ble_eq_true rfl, Nat.le_of_ble_eq_true rfl⟩ hX hz hK hP hD hwf hS hA hj0 (by decide) rfl rfl rfl hl.1 (Nat.le_of_ble_eq_true rfl) d_M_relate_255 ⟨Nat.le_of_ble_eq_true rfl, Nat.le_of_ble_eq_true rfl⟩) hP hD hK hS hA rfl rfl (fun H locs hw hP hD hS => ?_)
    obtain ⟨hwf, hk9⟩ := hw
    have hkp := hkp.tr hk9
    refine lv_iconst (v := 0) hx hb d_M_relate_258 (by decide) ?_
    exact me_reti (me_kp M0) h hx hb hr hlocks hwf hkp hP hK hD hS d_M_relate_259
  have b_200 : ∀ (M : me_M) (y7 : Int32) (y8 : Int32) (s0 : Int32) (s1 : Nat) (H : Heap) (locs : List Loc) (ls : Array Slot), f_M_relate_b200 j0 M y7 y8 s0 s1 = (some (MZ, RZ)) → (s1 < N 13) → me_wf N M → me_kp M0 M → va_P D classes (me_W ad ca M) H → va_D A (me_W ad ca M) → va_S A s.heap H locs → lv_has ls 16 [(0, .ref (ad 1 j0)), (7, .int y7), (8, .int y8)] → W p l e rm_M_relate s m [.ref (ad 1 j0), .long x1].toArray below meth c H locs 0 0 (MQ below (q_M_relate D ad ca N M0 MZ RZ A) [.ref (ad 1 j0), .long x1].toArray s rm_M_relate.cells rm_M_relate.slots A) (F0 m 200 ls [.int s0, .ref (ad 13 s1)]) := by
    intro M y7 y8 s0 s1 H locs ls h hs1 hwf hkp hP hD hS hl
    unfold f_M_relate_b200 at h
    have hkb := hkp
    obtain ⟨g46, h⟩ := gd_ob h
    refine me_iald hx hb hK hP hwf hs1 g46 d_M_relate_200 ?_
    obtain ⟨v47, ev47, h⟩ := st_ob h
    refine fg_topi (y := v47) ev47.symm ?_
    refine lv_istore (lv' := [(10, .int v47), (0, .ref (ad 1 j0)), (7, .int y7), (8, .int y8)]) hx hb d_M_relate_201 hl (by decide) rfl (fun ls hl => ?_)
    refine lv_aload_n hx hb d_M_relate_203 rfl (lv_at hl 1 rfl) ?_
    refine g_M_62 hx hb hts hown hK hP hwf hj0 (hts _ u_1803) d_M_relate_204 ?_
    refine lv_sipush (v := 200) hx hb d_M_relate_207 (by decide) ?_
    refine lv_icmp_ne (tgt := 215) hx hb d_M_relate_210 (by decide) (fun c48 => ?_) (fun c48 => ?_)
    · have h := if_f c48 h
      refine lv_aload_n hx hb d_M_relate_215 rfl (lv_at hl 1 rfl) ?_
      refine lv_iconst (v := 0) hx hb d_M_relate_216 (by decide) ?_
      refine lv_iload hx hb d_M_relate_217 (lv_at hl 3 rfl) ?_
      obtain ⟨M49, eM49, h⟩ := bd_ob h
      refine me_thenv0 (M1 := M49) (me_runV (C := "FilterGuardModel") (As := [.int 0, .int y8]) (rest := []) ⟨hx, hb, hml, hown, hts⟩ (c_M_copyState l D ad ca N M M49 j0 (0 : Int32) y8 eM49 hwf hj0 _) rfl (by show fg_nm y_M_copyState 2; decide +kernel) u_2088 u_2090 u_101 u_192 u_2091 ⟨Nat.le_of_ble_eq_true rfl, Nat.le_of_ble_eq_true rfl⟩ hX hz hK hP hD hwf hS hA hj0 (by decide) rfl rfl rfl hl.1 (Nat.le_of_ble_eq_true rfl) d_M_relate_219 ⟨Nat.le_of_ble_eq_true rfl, Nat.le_of_ble_eq_true rfl⟩) hP hD hK hS hA rfl rfl (fun H locs hw hP hD hS => ?_)
      obtain ⟨hwf, hk9⟩ := hw
      have hkp := hkp.tr hk9
      refine lv_aload_n hx hb d_M_relate_222 rfl (lv_at hl 1 rfl) ?_
      refine lv_iload hx hb d_M_relate_223 (lv_at hl 2 rfl) ?_
      refine lv_if_ne (tgt := 233) hx hb d_M_relate_225 (by decide) (fun c50 => ?_) (fun c50 => ?_)
      · have h := if_f c50 h
        refine lv_iconst (v := 0) hx hb d_M_relate_233 (by decide) ?_
        exact b_234 M49 y7 y8 v47 (0 : Int32) j0 _ _ _ h hj0 hwf hkp hP hD hS (lv_sub hl [1, 2, 3, 0] rfl)
      have h := if_t c50 h
      refine lv_iload hx hb d_M_relate_228 (lv_at hl 3 rfl) ?_
      refine lv_goto (tgt := 234) hx hb d_M_relate_230 (by decide) ?_
      exact b_234 M49 y7 y8 v47 y8 j0 _ _ _ h hj0 hwf hkp hP hD hS (lv_sub hl [1, 2, 3, 0] rfl)
    have h := if_t c48 h
    refine lv_iconst (v := 0) hx hb d_M_relate_213 (by decide) ?_
    exact me_reti (me_kp M0) h hx hb hr hlocks hwf hkp hP hK hD hS d_M_relate_214
  have b_177 : ∀ (M : me_M) (y4 : Int32) (y5 : Int32) (y7 : Int32) (y8 : Int32) (H : Heap) (locs : List Loc) (ls : Array Slot), f_M_relate_b177 j0 M y4 y5 y7 y8 = (some (MZ, RZ)) → me_wf N M → me_kp M0 M → va_P D classes (me_W ad ca M) H → va_D A (me_W ad ca M) → va_S A s.heap H locs → lv_has ls 16 [(0, .ref (ad 1 j0)), (4, .int y4), (5, .int y5), (7, .int y7), (8, .int y8)] → W p l e rm_M_relate s m [.ref (ad 1 j0), .long x1].toArray below meth c H locs 0 0 (MQ below (q_M_relate D ad ca N M0 MZ RZ A) [.ref (ad 1 j0), .long x1].toArray s rm_M_relate.cells rm_M_relate.slots A) (F0 m 177 ls []) := by
    intro M y4 y5 y7 y8 H locs ls h hwf hkp hP hD hS hl
    unfold f_M_relate_b177 at h
    have hkb := hkp
    refine lv_aload_n hx hb d_M_relate_177 rfl (lv_at hl 0 rfl) ?_
    refine g_M_50 hx hb hts hown hK hP hwf hj0 (hts _ u_1791) d_M_relate_178 ?_
    obtain ⟨j51, e52, h⟩ := bd_ob h
    have hj51 : j51 < N 13 := (hwf.2.1 1 j0 50 _ e52 (by decide) hj0)
    refine me_opt (j := j51) e52 ?_
    refine lv_aload_n hx hb d_M_relate_181 rfl (lv_at hl 0 rfl) ?_
    refine g_M_47 hx hb hts hown hK hP hwf hj0 (hts _ u_1788) d_M_relate_182 ?_
    obtain ⟨j53, e54, h⟩ := bd_ob h
    have hj53 : j53 < N 14 := (hwf.2.1 1 j0 47 _ e54 (by decide) hj0)
    refine me_opt (j := j53) e54 ?_
    refine lv_iload hx hb d_M_relate_185 (lv_at hl 1 rfl) ?_
    obtain ⟨g55, h⟩ := gd_ob h
    refine me_bald hx hb hK hP hwf hj53 g55 d_M_relate_187 ?_
    refine lv_bipush (v := 8) hx hb d_M_relate_188 (by decide) ?_
    refine lv_icmp_ne (tgt := 198) hx hb d_M_relate_190 (by decide) (fun c56 => ?_) (fun c56 => ?_)
    · have h := if_f c56 h
      refine lv_iload hx hb d_M_relate_198 (lv_at hl 2 rfl) ?_
      exact b_200 M y7 y8 y5 j51 _ _ _ h hj51 hwf hkp hP hD hS (lv_sub hl [0, 3, 4] rfl)
    have h := if_t c56 h
    refine lv_iload hx hb d_M_relate_193 (lv_at hl 1 rfl) ?_
    refine lv_goto (tgt := 200) hx hb d_M_relate_195 (by decide) ?_
    exact b_200 M y7 y8 y4 j51 _ _ _ h hj51 hwf hkp hP hD hS (lv_sub hl [0, 3, 4] rfl)
  have b_156 : ∀ (M : me_M) (y4 : Int32) (y5 : Int32) (y7 : Int32) (y8 : Int32) (H : Heap) (locs : List Loc) (ls : Array Slot), f_M_relate_b156 j0 M y4 y5 y7 y8 = (some (MZ, RZ)) → me_wf N M → me_kp M0 M → va_P D classes (me_W ad ca M) H → va_D A (me_W ad ca M) → va_S A s.heap H locs → lv_has ls 16 [(0, .ref (ad 1 j0)), (4, .int y4), (5, .int y5), (7, .int y7), (8, .int y8)] → W p l e rm_M_relate s m [.ref (ad 1 j0), .long x1].toArray below meth c H locs 0 0 (MQ below (q_M_relate D ad ca N M0 MZ RZ A) [.ref (ad 1 j0), .long x1].toArray s rm_M_relate.cells rm_M_relate.slots A) (F0 m 156 ls []) := by
    intro M y4 y5 y7 y8 H locs ls h hwf hkp hP hD hS hl
    unfold f_M_relate_b156 at h
    have hkb := hkp
    refine lv_aload_n hx hb d_M_relate_156 rfl (lv_at hl 0 rfl) ?_
    refine g_M_47 hx hb hts hown hK hP hwf hj0 (hts _ u_1788) d_M_relate_157 ?_
    obtain ⟨j57, e58, h⟩ := bd_ob h
    have hj57 : j57 < N 14 := (hwf.2.1 1 j0 47 _ e58 (by decide) hj0)
    refine me_opt (j := j57) e58 ?_
    refine lv_iload hx hb d_M_relate_160 (lv_at hl 2 rfl) ?_
    obtain ⟨g59, h⟩ := gd_ob h
    refine me_bald hx hb hK hP hwf hj57 g59 d_M_relate_162 ?_
    refine lv_bipush (v := 8) hx hb d_M_relate_163 (by decide) ?_
    refine lv_icmp_ne (tgt := 260) hx hb d_M_relate_165 (by decide) (fun c60 => ?_) (fun c60 => ?_)
    · have h := if_f c60 h
      exact b_260 M y4 y5 y7 y8 _ _ _ h hwf hkp hP hD hS (lv_sub hl [0, 1, 2, 3, 4] rfl)
    have h := if_t c60 h
    refine lv_aload_n hx hb d_M_relate_168 rfl (lv_at hl 0 rfl) ?_
    refine lv_iload hx hb d_M_relate_169 (lv_at hl 1 rfl) ?_
    obtain ⟨M61, r62, eM61, h⟩ := b2_ob h
    refine me_theni0 (M1 := M61) (me_runV (C := "FilterGuardModel") (As := [.int y4]) (rest := []) ⟨hx, hb, hml, hown, hts⟩ (c_M_isZero l D ad ca N M M61 r62 j0 y4 eM61 hwf hj0 _) rfl (by show fg_nm y_M_isZero 1; decide +kernel) u_2273 u_2275 u_140 u_192 u_2276 ⟨Nat.le_of_ble_eq_true rfl, Nat.le_of_ble_eq_true rfl⟩ hX hz hK hP hD hwf hS hA hj0 (by decide) rfl rfl rfl hl.1 (Nat.le_of_ble_eq_true rfl) d_M_relate_171 ⟨Nat.le_of_ble_eq_true rfl, Nat.le_of_ble_eq_true rfl⟩) hP hD hK hS hA rfl rfl (fun H locs hw hP hD hS => ?_)
    obtain ⟨hwf, hk9, zr62⟩ := hw
    have hkp := hkp.tr hk9
    refine lv_if_eq (tgt := 260) hx hb d_M_relate_174 (by decide) (fun c63 => ?_) (fun c63 => ?_)
    · have h := if_t c63 h
      exact b_260 M61 y4 y5 y7 y8 _ _ _ h hwf hkp hP hD hS (lv_sub hl [0, 1, 2, 3, 4] rfl)
    have h := if_f c63 h
    exact b_177 M61 y4 y5 y7 y8 _ _ _ h hwf hkp hP hD hS (lv_sub hl [0, 1, 2, 3, 4] rfl)
  have b_128 : ∀ (M : me_M) (y4 : Int32) (y5 : Int32) (y7 : Int32) (y8 : Int32) (s0 : Int32) (H : Heap) (locs : List Loc) (ls : Array Slot), f_M_relate_b128 j0 M y4 y5 y7 y8 s0 = (some (MZ, RZ)) → (s0 = 1 ∨ s0 = 0) → me_wf N M → me_kp M0 M → va_P D classes (me_W ad ca M) H → va_D A (me_W ad ca M) → va_S A s.heap H locs → lv_has ls 16 [(0, .ref (ad 1 j0)), (4, .int y4), (5, .int y5), (7, .int y7), (8, .int y8)] → W p l e rm_M_relate s m [.ref (ad 1 j0), .long x1].toArray below meth c H locs 0 0 (MQ below (q_M_relate D ad ca N M0 MZ RZ A) [.ref (ad 1 j0), .long x1].toArray s rm_M_relate.cells rm_M_relate.slots A) (F0 m 128 ls [.int s0]) := by
    intro M y4 y5 y7 y8 s0 H locs ls h zs0 hwf hkp hP hD hS hl
    unfold f_M_relate_b128 at h
    have hkb := hkp
    refine lv_istore (lv' := [(9, .int s0), (0, .ref (ad 1 j0)), (4, .int y4), (5, .int y5), (7, .int y7), (8, .int y8)]) hx hb d_M_relate_128 hl (by decide) rfl (fun ls hl => ?_)
    refine lv_iload hx hb d_M_relate_130 (lv_at hl 0 rfl) ?_
    refine lv_if_eq (tgt := 260) hx hb d_M_relate_132 (by decide) (fun c64 => ?_) (fun c64 => ?_)
    · have h := if_t c64 h
      exact b_260 M y4 y5 y7 y8 _ _ _ h hwf hkp hP hD hS (lv_sub hl [1, 2, 3, 4, 5] rfl)
    have h := if_f c64 h
    refine lv_aload_n hx hb d_M_relate_135 rfl (lv_at hl 1 rfl) ?_
    refine g_M_47 hx hb hts hown hK hP hwf hj0 (hts _ u_1788) d_M_relate_136 ?_
    obtain ⟨j65, e66, h⟩ := bd_ob h
    have hj65 : j65 < N 14 := (hwf.2.1 1 j0 47 _ e66 (by decide) hj0)
    refine me_opt (j := j65) e66 ?_
    refine lv_iload hx hb d_M_relate_139 (lv_at hl 2 rfl) ?_
    obtain ⟨g67, h⟩ := gd_ob h
    refine me_bald hx hb hK hP hwf hj65 g67 d_M_relate_141 ?_
    refine lv_bipush (v := 8) hx hb d_M_relate_142 (by decide) ?_
    refine lv_icmp_ne (tgt := 156) hx hb d_M_relate_144 (by decide) (fun c68 => ?_) (fun c68 => ?_)
    · have h := if_f c68 h
      exact b_156 M y4 y5 y7 y8 _ _ _ h hwf hkp hP hD hS (lv_sub hl [1, 2, 3, 4, 5] rfl)
    have h := if_t c68 h
    refine lv_aload_n hx hb d_M_relate_147 rfl (lv_at hl 1 rfl) ?_
    refine lv_iload hx hb d_M_relate_148 (lv_at hl 3 rfl) ?_
    obtain ⟨M69, r70, eM69, h⟩ := b2_ob h
    refine me_theni0 (M1 := M69) (me_runV (C := "FilterGuardModel") (As := [.int y5]) (rest := []) ⟨hx, hb, hml, hown, hts⟩ (c_M_isZero l D ad ca N M M69 r70 j0 y5 eM69 hwf hj0 _) rfl (by show fg_nm y_M_isZero 1; decide +kernel) u_2273 u_2275 u_140 u_192 u_2276 ⟨Nat.le_of_ble_eq_true rfl, Nat.le_of_ble_eq_true rfl⟩ hX hz hK hP hD hwf hS hA hj0 (by decide) rfl rfl rfl hl.1 (Nat.le_of_ble_eq_true rfl) d_M_relate_150 ⟨Nat.le_of_ble_eq_true rfl, Nat.le_of_ble_eq_true rfl⟩) hP hD hK hS hA rfl rfl (fun H locs hw hP hD hS => ?_)
    obtain ⟨hwf, hk9, zr70⟩ := hw
    have hkp := hkp.tr hk9
    refine lv_if_ne (tgt := 177) hx hb d_M_relate_153 (by decide) (fun c71 => ?_) (fun c71 => ?_)
    · have h := if_f c71 h
      exact b_177 M69 y4 y5 y7 y8 _ _ _ h hwf hkp hP hD hS (lv_sub hl [1, 2, 3, 4, 5] rfl)
    have h := if_t c71 h
    exact b_156 M69 y4 y5 y7 y8 _ _ _ h hwf hkp hP hD hS (lv_sub hl [1, 2, 3, 4, 5] rfl)
  have b_123 : ∀ (M : me_M) (y4 : Int32) (y5 : Int32) (y7 : Int32) (y8 : Int32) (H : Heap) (locs : List Loc) (ls : Array Slot), f_M_relate_b123 j0 M y4 y5 y7 y8 = (some (MZ, RZ)) → me_wf N M → me_kp M0 M → va_P D classes (me_W ad ca M) H → va_D A (me_W ad ca M) → va_S A s.heap H locs → lv_has ls 16 [(0, .ref (ad 1 j0)), (4, .int y4), (5, .int y5), (7, .int y7), (8, .int y8)] → W p l e rm_M_relate s m [.ref (ad 1 j0), .long x1].toArray below meth c H locs 0 0 (MQ below (q_M_relate D ad ca N M0 MZ RZ A) [.ref (ad 1 j0), .long x1].toArray s rm_M_relate.cells rm_M_relate.slots A) (F0 m 123 ls []) := by
    intro M y4 y5 y7 y8 H locs ls h hwf hkp hP hD hS hl
    unfold f_M_relate_b123 at h
    have hkb := hkp
    refine lv_iconst (v := 1) hx hb d_M_relate_123 (by decide) ?_
    refine lv_goto (tgt := 128) hx hb d_M_relate_124 (by decide) ?_
    exact b_128 M y4 y5 y7 y8 (1 : Int32) _ _ _ h (by decide) hwf hkp hP hD hS (lv_sub hl [0, 1, 2, 3, 4] rfl)
  have b_104 : ∀ (M : me_M) (y4 : Int32) (y5 : Int32) (y6 : Int32) (y7 : Int32) (y8 : Int32) (H : Heap) (locs : List Loc) (ls : Array Slot), f_M_relate_b104 j0 M y4 y5 y6 y7 y8 = (some (MZ, RZ)) → (y6 = 1 ∨ y6 = 0) → me_wf N M → me_kp M0 M → va_P D classes (me_W ad ca M) H → va_D A (me_W ad ca M) → va_S A s.heap H locs → lv_has ls 16 [(0, .ref (ad 1 j0)), (4, .int y4), (5, .int y5), (6, .int y6), (7, .int y7), (8, .int y8)] → W p l e rm_M_relate s m [.ref (ad 1 j0), .long x1].toArray below meth c H locs 0 0 (MQ below (q_M_relate D ad ca N M0 MZ RZ A) [.ref (ad 1 j0), .long x1].toArray s rm_M_relate.cells rm_M_relate.slots A) (F0 m 104 ls []) := by
    intro M y4 y5 y6 y7 y8 H locs ls h zy6 hwf hkp hP hD hS hl
    unfold f_M_relate_b104 at h
    have hkb := hkp
    refine lv_iload hx hb d_M_relate_104 (lv_at hl 3 rfl) ?_
    refine lv_if_eq (tgt := 112) hx hb d_M_relate_106 (by decide) (fun c72 => ?_) (fun c72 => ?_)
    · have h := if_t c72 h
      refine lv_iload hx hb d_M_relate_112 (lv_at hl 4 rfl) ?_
      refine lv_if_eq (tgt := 123) hx hb d_M_relate_114 (by decide) (fun c73 => ?_) (fun c73 => ?_)
      · have h := if_t c73 h
        exact b_123 M y4 y5 y7 y8 _ _ _ h hwf hkp hP hD hS (lv_sub hl [0, 1, 2, 4, 5] rfl)
      have h := if_f c73 h
      refine lv_iload hx hb d_M_relate_117 (lv_at hl 4 rfl) ?_
      refine lv_iconst (v := 4) hx hb d_M_relate_119 (by decide) ?_
      refine lv_icmp_ne (tgt := 127) hx hb d_M_relate_120 (by decide) (fun c74 => ?_) (fun c74 => ?_)
      · have h := if_f c74 h
        refine lv_iconst (v := 0) hx hb d_M_relate_127 (by decide) ?_
        exact b_128 M y4 y5 y7 y8 (0 : Int32) _ _ _ h (by decide) hwf hkp hP hD hS (lv_sub hl [0, 1, 2, 4, 5] rfl)
      have h := if_t c74 h
      exact b_123 M y4 y5 y7 y8 _ _ _ h hwf hkp hP hD hS (lv_sub hl [0, 1, 2, 4, 5] rfl)
    have h := if_f c72 h
    refine lv_bipush (v := 12) hx hb d_M_relate_109 (by decide) ?_
    exact me_reti (me_kp M0) h hx hb hr hlocks hwf hkp hP hK hD hS d_M_relate_111
  refine lv_lload_n hx hb d_M_relate_0 rfl (lv_at hl 1 rfl) ?_
  obtain ⟨r75, er75, h⟩ := bd_ob h
  refine me_pani' (r0 := r75) (fg_runS (wc := []) (tc := []) (A2 := A) (As := [.long x1]) (rest := []) ⟨hx, hb, hml, hown, hts⟩ (c_M_opOf l D r75 x1 er75 _) (by show fg_nm y_M_opOf 1; decide +kernel) u_1997 u_1998 u_192 u_1999 ⟨Nat.le_of_ble_eq_true rfl, Nat.le_of_ble_eq_true rfl⟩ hX me_P0 (hK.sub (tys' := []) [] rfl) me_D0 rfl hl.1 (Nat.le_of_ble_eq_true rfl) d_M_relate_1 ⟨Nat.le_of_ble_eq_true rfl, Nat.le_of_ble_eq_true rfl⟩) hP hD hK hS hA rfl rfl (fun H locs hw hP hD hS => ?_)
  refine lv_istore_n (lv' := [(3, .int r75), (0, .ref (ad 1 j0)), (1, .long x1)]) hx hb d_M_relate_4 rfl hl (by decide) rfl (fun ls hl => ?_)
  refine lv_lload_n hx hb d_M_relate_5 rfl (lv_at hl 2 rfl) ?_
  obtain ⟨r76, er76, h⟩ := bd_ob h
  refine me_pani' (r0 := r76) (fg_runS (wc := []) (tc := []) (A2 := A) (As := [.long x1]) (rest := []) ⟨hx, hb, hml, hown, hts⟩ (c_M_toOf l D r76 x1 er76 _) (by show fg_nm y_M_toOf 1; decide +kernel) u_2006 u_2007 u_192 u_2008 ⟨Nat.le_of_ble_eq_true rfl, Nat.le_of_ble_eq_true rfl⟩ hX me_P0 (hK.sub (tys' := []) [] rfl) me_D0 rfl hl.1 (Nat.le_of_ble_eq_true rfl) d_M_relate_6 ⟨Nat.le_of_ble_eq_true rfl, Nat.le_of_ble_eq_true rfl⟩) hP hD hK hS hA rfl rfl (fun H locs hw hP hD hS => ?_)
  refine lv_istore (lv' := [(4, .int r76), (3, .int r75), (0, .ref (ad 1 j0)), (1, .long x1)]) hx hb d_M_relate_9 hl (by decide) rfl (fun ls hl => ?_)
  refine lv_aload_n hx hb d_M_relate_11 rfl (lv_at hl 2 rfl) ?_
  refine lv_lload_n hx hb d_M_relate_12 rfl (lv_at hl 3 rfl) ?_
  obtain ⟨M77, r78, eM77, h⟩ := b2_ob h
  refine me_theni0 (M1 := M77) (me_runV (C := "FilterGuardModel") (As := [.long x1]) (rest := []) ⟨hx, hb, hml, hown, hts⟩ (c_M_sourceOf l D ad ca N M0 M77 r78 j0 x1 eM77 hwf hj0 _) rfl (by show fg_nm y_M_sourceOf 1; decide +kernel) u_2215 u_2217 u_128 u_192 u_2218 ⟨Nat.le_of_ble_eq_true rfl, Nat.le_of_ble_eq_true rfl⟩ hX hz hK hP hD hwf hS hA hj0 (by decide) rfl rfl rfl hl.1 (Nat.le_of_ble_eq_true rfl) d_M_relate_13 ⟨Nat.le_of_ble_eq_true rfl, Nat.le_of_ble_eq_true rfl⟩) hP hD hK hS hA rfl rfl (fun H locs hw hP hD hS => ?_)
  obtain ⟨hwf, hk9⟩ := hw
  have hkp := hkp.tr hk9
  refine lv_istore (lv' := [(5, .int r78), (4, .int r76), (3, .int r75), (0, .ref (ad 1 j0)), (1, .long x1)]) hx hb d_M_relate_16 hl (by decide) rfl (fun ls hl => ?_)
  refine lv_iload_n hx hb d_M_relate_18 rfl (lv_at hl 2 rfl) ?_
  obtain ⟨r79, er79, h⟩ := bd_ob h
  refine me_pani' (r0 := r79) (fg_runS (wc := []) (tc := []) (A2 := A) (As := [.int r75]) (rest := []) ⟨hx, hb, hml, hown, hts⟩ (c_M_isNarrow l D r79 r75 er79 _) (by show fg_nm y_M_isNarrow 1; decide +kernel) u_2026 u_2027 u_192 u_2028 ⟨Nat.le_of_ble_eq_true rfl, Nat.le_of_ble_eq_true rfl⟩ hX me_P0 (hK.sub (tys' := []) [] rfl) me_D0 rfl hl.1 (Nat.le_of_ble_eq_true rfl) d_M_relate_19 ⟨Nat.le_of_ble_eq_true rfl, Nat.le_of_ble_eq_true rfl⟩) hP hD hK hS hA rfl rfl (fun H locs hw hP hD hS => ?_)
  have zr79 := hw
  refine lv_istore (lv' := [(6, .int r79), (5, .int r78), (4, .int r76), (3, .int r75), (0, .ref (ad 1 j0)), (1, .long x1)]) hx hb d_M_relate_22 hl (by decide) rfl (fun ls hl => ?_)
  refine lv_iload_n hx hb d_M_relate_24 rfl (lv_at hl 3 rfl) ?_
  refine lv_iconst (v := 4) hx hb d_M_relate_25 (by decide) ?_
  refine lv_ishr hx hb d_M_relate_26 ?_
  refine fg_topi (y := jishr r75 4) rfl ?_
  obtain ⟨r80, er80, h⟩ := bd_ob h
  refine me_pani' (r0 := r80) (fg_runS (wc := []) (tc := []) (A2 := A) (As := [.int (jishr r75 4)]) (rest := []) ⟨hx, hb, hml, hown, hts⟩ (c_M_relationOf l D r80 (jishr r75 4) er80 _) (by show fg_nm y_M_relationOf 1; decide +kernel) u_2219 u_2220 u_192 u_2221 ⟨Nat.le_of_ble_eq_true rfl, Nat.le_of_ble_eq_true rfl⟩ hX me_P0 (hK.sub (tys' := []) [] rfl) me_D0 rfl hl.1 (Nat.le_of_ble_eq_true rfl) d_M_relate_27 ⟨Nat.le_of_ble_eq_true rfl, Nat.le_of_ble_eq_true rfl⟩) hP hD hK hS hA rfl rfl (fun H locs hw hP hD hS => ?_)
  refine lv_istore (lv' := [(7, .int r80), (6, .int r79), (5, .int r78), (4, .int r76), (3, .int r75), (0, .ref (ad 1 j0)), (1, .long x1)]) hx hb d_M_relate_30 hl (by decide) rfl (fun ls hl => ?_)
  refine lv_aload_n hx hb d_M_relate_32 rfl (lv_at hl 5 rfl) ?_
  refine g_M_47 hx hb hts hown hK hP hwf hj0 (hts _ u_1788) d_M_relate_33 ?_
  obtain ⟨j81, e82, h⟩ := bd_ob h
  have hj81 : j81 < N 14 := (hwf.2.1 1 j0 47 _ (kp_r hkb hkp e82) (by decide) hj0)
  refine me_opt (j := j81) (kp_r hkb hkp e82) ?_
  refine lv_iload hx hb d_M_relate_36 (lv_at hl 3 rfl) ?_
  obtain ⟨g83, h⟩ := gd_ob h
  refine me_bald hx hb hK hP hwf hj81 (kp_z hkb.z hkp.z g83) d_M_relate_38 ?_
  refine lv_if_eq (tgt := 52) hx hb d_M_relate_39 (by decide) (fun c84 => ?_) (fun c84 => ?_)
  · have h := if_t c84 h
    refine lv_bipush (v := 10) hx hb d_M_relate_52 (by decide) ?_
    exact me_reti (me_kp M0) h hx hb hr hlocks hwf hkp hP hK hD hS d_M_relate_54
  have h := if_f c84 h
  refine lv_aload_n hx hb d_M_relate_42 rfl (lv_at hl 5 rfl) ?_
  refine g_M_47 hx hb hts hown hK hP hwf hj0 (hts _ u_1788) d_M_relate_43 ?_
  refine me_opt (j := j81) (kp_r hkb hkp e82) ?_
  refine lv_iload hx hb d_M_relate_46 (lv_at hl 2 rfl) ?_
  obtain ⟨g85, h⟩ := gd_ob h
  refine me_bald hx hb hK hP hwf hj81 (kp_z hkb.z hkp.z g85) d_M_relate_48 ?_
  refine lv_if_ne (tgt := 55) hx hb d_M_relate_49 (by decide) (fun c86 => ?_) (fun c86 => ?_)
  · have h := if_f c86 h
    refine lv_aload_n hx hb d_M_relate_55 rfl (lv_at hl 5 rfl) ?_
    refine lv_iconst (v := 3) hx hb d_M_relate_56 (by decide) ?_
    obtain ⟨M87, eM87, h⟩ := st_ob h
    refine p_M_68 eM87 hx hb hts hown hK hP hD hwf hS hj0 (hts _ u_1809) d_M_relate_57 (fun H locs hP hD hwf hS => ?_)
    have hkp := kp_I eM87 hkp
    refine lv_sipush (v := 201) hx hb d_M_relate_60 (by decide) ?_
    refine lv_aload_n hx hb d_M_relate_63 rfl (lv_at hl 5 rfl) ?_
    refine g_M_62 hx hb hts hown hK hP hwf hj0 (hts _ u_1803) d_M_relate_64 ?_
    refine lv_iadd hx hb d_M_relate_67 ?_
    obtain ⟨v88, ev88, h⟩ := st_ob h
    refine fg_topi (y := v88) ev88.symm ?_
    refine lv_istore (lv' := [(8, .int v88), (7, .int r80), (6, .int r79), (5, .int r78), (4, .int r76), (3, .int r75), (0, .ref (ad 1 j0)), (1, .long x1)]) hx hb d_M_relate_68 hl (by decide) rfl (fun ls hl => ?_)
    refine lv_aload_n hx hb d_M_relate_70 rfl (lv_at hl 6 rfl) ?_
    refine lv_iload hx hb d_M_relate_71 (lv_at hl 4 rfl) ?_
    obtain ⟨M89, r90, eM89, h⟩ := b2_ob h
    refine me_theni0 (M1 := M89) (me_runV (C := "FilterGuardModel") (As := [.int r76]) (rest := []) ⟨hx, hb, hml, hown, hts⟩ (c_M_isNumber l D ad ca N M87 M89 r90 j0 r76 eM89 hwf hj0 _) rfl (by show fg_nm y_M_isNumber 1; decide +kernel) u_2187 u_2189 u_121 u_192 u_2190 ⟨Nat.le_of_ble_eq_true rfl, Nat.le_of_ble_eq_true rfl⟩ hX hz hK hP hD hwf hS hA hj0 (by decide) rfl rfl rfl hl.1 (Nat.le_of_ble_eq_true rfl) d_M_relate_73 ⟨Nat.le_of_ble_eq_true rfl, Nat.le_of_ble_eq_true rfl⟩) hP hD hK hS hA rfl rfl (fun H locs hw hP hD hS => ?_)
    obtain ⟨hwf, hk9, zr90⟩ := hw
    have hkp := hkp.tr hk9
    refine lv_if_eq (tgt := 104) hx hb d_M_relate_76 (by decide) (fun c91 => ?_) (fun c91 => ?_)
    · have h := if_t c91 h
      exact b_104 M89 r76 r78 r79 r80 v88 _ _ _ h zr79 hwf hkp hP hD hS (lv_sub hl [6, 4, 3, 2, 1, 0] rfl)
    have h := if_f c91 h
    refine lv_aload_n hx hb d_M_relate_79 rfl (lv_at hl 6 rfl) ?_
    refine lv_iload hx hb d_M_relate_80 (lv_at hl 3 rfl) ?_
    obtain ⟨M92, r93, eM92, h⟩ := b2_ob h
    refine me_theni0 (M1 := M92) (me_runV (C := "FilterGuardModel") (As := [.int r78]) (rest := []) ⟨hx, hb, hml, hown, hts⟩ (c_M_isNumber l D ad ca N M89 M92 r93 j0 r78 eM92 hwf hj0 _) rfl (by show fg_nm y_M_isNumber 1; decide +kernel) u_2187 u_2189 u_121 u_192 u_2190 ⟨Nat.le_of_ble_eq_true rfl, Nat.le_of_ble_eq_true rfl⟩ hX hz hK hP hD hwf hS hA hj0 (by decide) rfl rfl rfl hl.1 (Nat.le_of_ble_eq_true rfl) d_M_relate_82 ⟨Nat.le_of_ble_eq_true rfl, Nat.le_of_ble_eq_true rfl⟩) hP hD hK hS hA rfl rfl (fun H locs hw hP hD hS => ?_)
    obtain ⟨hwf, hk9, zr93⟩ := hw
    have hkp := hkp.tr hk9
    refine lv_if_eq (tgt := 104) hx hb d_M_relate_85 (by decide) (fun c94 => ?_) (fun c94 => ?_)
    · have h := if_t c94 h
      exact b_104 M92 r76 r78 r79 r80 v88 _ _ _ h zr79 hwf hkp hP hD hS (lv_sub hl [6, 4, 3, 2, 1, 0] rfl)
    have h := if_f c94 h
    refine lv_aload_n hx hb d_M_relate_88 rfl (lv_at hl 6 rfl) ?_
    refine lv_iload hx hb d_M_relate_89 (lv_at hl 1 rfl) ?_
    refine lv_iload hx hb d_M_relate_91 (lv_at hl 4 rfl) ?_
    refine lv_iload hx hb d_M_relate_93 (lv_at hl 3 rfl) ?_
    refine lv_iload hx hb d_M_relate_95 (lv_at hl 2 rfl) ?_
    refine lv_iload hx hb d_M_relate_97 (lv_at hl 0 rfl) ?_
    obtain ⟨M95, eM95, h⟩ := bd_ob h
    refine me_thenv0 (M1 := M95) (me_runV (C := "FilterGuardModel") (As := [.int r80, .int r76, .int r78, .int r79, .int v88]) (rest := []) ⟨hx, hb, hml, hown, hts⟩ (c_M_numbers l D ad ca N M92 M95 j0 r80 r76 r78 r79 v88 eM95 hwf hj0 zr79 _) rfl (by show fg_nm y_M_numbers 5; decide +kernel) u_2222 u_2224 u_129 u_192 u_2225 ⟨Nat.le_of_ble_eq_true rfl, Nat.le_of_ble_eq_true rfl⟩ hX hz hK hP hD hwf hS hA hj0 (by decide) rfl rfl rfl hl.1 (Nat.le_of_ble_eq_true rfl) d_M_relate_99 ⟨Nat.le_of_ble_eq_true rfl, Nat.le_of_ble_eq_true rfl⟩) hP hD hK hS hA rfl rfl (fun H locs hw hP hD hS => ?_)
    obtain ⟨hwf, hk9⟩ := hw
    have hkp := hkp.tr hk9
    refine lv_iconst (v := 0) hx hb d_M_relate_102 (by decide) ?_
    exact me_reti (me_kp M0) h hx hb hr hlocks hwf hkp hP hK hD hS d_M_relate_103
  have h := if_t c86 h
  refine lv_bipush (v := 10) hx hb d_M_relate_52 (by decide) ?_
  exact me_reti (me_kp M0) h hx hb hr hlocks hwf hkp hP hK hD hS d_M_relate_54
