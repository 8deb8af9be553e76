theorem dX1_division_179 : decode cX1_division 179 = .ok (.bipush 20, 2) := by decide +kernel
theorem dX1_division_181 : decode cX1_division 181 = .ok (.aload_n 0, 1) := by decide +kernel
theorem dX1_division_182 : decode cX1_division 182 = .ok (.aload_n 0, 1) := by decide +kernel
theorem dX1_division_183 : decode cX1_division 183 = .ok (.getfield 16, 3) := by decide +kernel
theorem dX1_division_186 : decode cX1_division 186 = .ok (.iload 4, 2) := by decide +kernel
theorem dX1_division_188 : decode cX1_division 188 = .ok (.imul, 1) := by decide +kernel
theorem dX1_division_189 : decode cX1_division 189 = .ok (.invokevirtual 26, 3) := by decide +kernel
theorem dX1_division_192 : decode cX1_division 192 = .ok (.imul, 1) := by decide +kernel
theorem dX1_division_193 : decode cX1_division 193 = .ok (.iadd, 1) := by decide +kernel
theorem dX1_division_194 : decode cX1_division 194 = .ok (.iconst 5, 1) := by decide +kernel
theorem dX1_division_195 : decode cX1_division 195 = .ok (.aload_n 0, 1) := by decide +kernel
theorem dX1_division_196 : decode cX1_division 196 = .ok (.iload 7, 2) := by decide +kernel
theorem dX1_division_198 : decode cX1_division 198 = .ok (.iload_n 3, 1) := by decide +kernel
theorem dX1_division_199 : decode cX1_division 199 = .ok (.imul, 1) := by decide +kernel
theorem dX1_division_200 : decode cX1_division 200 = .ok (.invokevirtual 26, 3) := by decide +kernel
theorem dX1_division_203 : decode cX1_division 203 = .ok (.imul, 1) := by decide +kernel
theorem dX1_division_204 : decode cX1_division 204 = .ok (.isub, 1) := by decide +kernel
theorem dX1_division_205 : decode cX1_division 205 = .ok (.iconst 4, 1) := by decide +kernel
theorem dX1_division_206 : decode cX1_division 206 = .ok (.aload_n 0, 1) := by decide +kernel
theorem dX1_division_207 : decode cX1_division 207 = .ok (.aload_n 0, 1) := by decide +kernel
theorem dX1_division_208 : decode cX1_division 208 = .ok (.aload_n 0, 1) := by decide +kernel
theorem dX1_division_209 : decode cX1_division 209 = .ok (.getfield 13, 3) := by decide +kernel
theorem dX1_division_212 : decode cX1_division 212 = .ok (.aload_n 0, 1) := by decide +kernel
theorem dX1_division_213 : decode cX1_division 213 = .ok (.getfield 16, 3) := by decide +kernel
theorem dX1_division_216 : decode cX1_division 216 = .ok (.imul, 1) := by decide +kernel
theorem dX1_division_217 : decode cX1_division 217 = .ok (.invokevirtual 26, 3) := by decide +kernel
theorem dX1_division_220 : decode cX1_division 220 = .ok (.iload_n 2, 1) := by decide +kernel
theorem dX1_division_221 : decode cX1_division 221 = .ok (.imul, 1) := by decide +kernel
theorem dX1_division_222 : decode cX1_division 222 = .ok (.invokevirtual 26, 3) := by decide +kernel
theorem dX1_division_225 : decode cX1_division 225 = .ok (.imul, 1) := by decide +kernel
theorem dX1_division_226 : decode cX1_division 226 = .ok (.isub, 1) := by decide +kernel
theorem dX1_division_227 : decode cX1_division 227 = .ok (.bipush 8, 2) := by decide +kernel
theorem dX1_division_229 : decode cX1_division 229 = .ok (.aload_n 0, 1) := by decide +kernel
theorem dX1_division_230 : decode cX1_division 230 = .ok (.aload_n 0, 1) := by decide +kernel
theorem dX1_division_231 : decode cX1_division 231 = .ok (.getfield 16, 3) := by decide +kernel
theorem dX1_division_234 : decode cX1_division 234 = .ok (.aload_n 0, 1) := by decide +kernel
theorem dX1_division_235 : decode cX1_division 235 = .ok (.getfield 16, 3) := by decide +kernel
theorem dX1_division_238 : decode cX1_division 238 = .ok (.imul, 1) := by decide +kernel
theorem dX1_division_239 : decode cX1_division 239 = .ok (.invokevirtual 26, 3) := by decide +kernel
theorem dX1_division_242 : decode cX1_division 242 = .ok (.imul, 1) := by decide +kernel
theorem dX1_division_243 : decode cX1_division 243 = .ok (.isub, 1) := by decide +kernel
theorem dX1_division_244 : decode cX1_division 244 = .ok (.aload_n 0, 1) := by decide +kernel
theorem dX1_division_245 : decode cX1_division 245 = .ok (.iload 7, 2) := by decide +kernel
theorem dX1_division_247 : decode cX1_division 247 = .ok (.aload_n 0, 1) := by decide +kernel
theorem dX1_division_248 : decode cX1_division 248 = .ok (.getfield 13, 3) := by decide +kernel
theorem dX1_division_251 : decode cX1_division 251 = .ok (.imul, 1) := by decide +kernel
theorem dX1_division_252 : decode cX1_division 252 = .ok (.invokevirtual 26, 3) := by decide +kernel
theorem dX1_division_255 : decode cX1_division 255 = .ok (.isub, 1) := by decide +kernel
theorem dX1_division_256 : decode cX1_division 256 = .ok (.istore 8, 2) := by decide +kernel
theorem dX1_division_258 : decode cX1_division 258 = .ok (.aload_n 0, 1) := by decide +kernel
theorem dX1_division_259 : decode cX1_division 259 = .ok (.getfield 23, 3) := by decide +kernel
theorem dX1_division_262 : decode cX1_division 262 = .ok (.iconst 4, 1) := by decide +kernel
theorem dX1_division_263 : decode cX1_division 263 = .ok (.aload_n 0, 1) := by decide +kernel
theorem dX1_division_264 : decode cX1_division 264 = .ok (.iconst 2, 1) := by decide +kernel
theorem dX1_division_265 : decode cX1_division 265 = .ok (.aload_n 0, 1) := by decide +kernel
theorem dX1_division_266 : decode cX1_division 266 = .ok (.iload 8, 2) := by decide +kernel
theorem dX1_division_268 : decode cX1_division 268 = .ok (.invokevirtual 26, 3) := by decide +kernel
theorem dX1_division_271 : decode cX1_division 271 = .ok (.imul, 1) := by decide +kernel
theorem dX1_division_272 : decode cX1_division 272 = .ok (.invokevirtual 26, 3) := by decide +kernel
theorem dX1_division_275 : decode cX1_division 275 = .ok (.iastore, 1) := by decide +kernel
theorem dX1_division_276 : decode cX1_division 276 = .ok (.iconst 5, 1) := by decide +kernel
theorem dX1_division_277 : decode cX1_division 277 = .ok (.istore 9, 2) := by decide +kernel
theorem dX1_division_279 : decode cX1_division 279 = .ok (.iload 9, 2) := by decide +kernel
theorem dX1_division_281 : decode cX1_division 281 = .ok (.iload_n 1, 1) := by decide +kernel
theorem dX1_division_282 : decode cX1_division 282 = .ok (.if_icmp .gt 207, 3) := by decide +kernel
theorem dX1_division_285 : decode cX1_division 285 = .ok (.iload 9, 2) := by decide +kernel
theorem dX1_division_287 : decode cX1_division 287 = .ok (.iconst 2, 1) := by decide +kernel
theorem dX1_division_288 : decode cX1_division 288 = .ok (.idiv, 1) := by decide +kernel
theorem dX1_division_289 : decode cX1_division 289 = .ok (.istore 10, 2) := by decide +kernel
theorem dX1_division_291 : decode cX1_division 291 = .ok (.aload_n 0, 1) := by decide +kernel
theorem dX1_division_292 : decode cX1_division 292 = .ok (.aload_n 0, 1) := by decide +kernel
theorem dX1_division_293 : decode cX1_division 293 = .ok (.getfield 23, 3) := by decide +kernel
theorem dX1_division_296 : decode cX1_division 296 = .ok (.iload 10, 2) := by decide +kernel
theorem dX1_division_298 : decode cX1_division 298 = .ok (.iconst 2, 1) := by decide +kernel
theorem dX1_division_299 : decode cX1_division 299 = .ok (.iadd, 1) := by decide +kernel
theorem dX1_division_300 : decode cX1_division 300 = .ok (.iaload, 1) := by decide +kernel
theorem dX1_division_301 : decode cX1_division 301 = .ok (.iload 9, 2) := by decide +kernel
theorem dX1_division_303 : decode cX1_division 303 = .ok (.iconst 2, 1) := by decide +kernel
theorem dX1_division_304 : decode cX1_division 304 = .ok (.irem, 1) := by decide +kernel
theorem dX1_division_305 : decode cX1_division 305 = .ok (.iconst 1, 1) := by decide +kernel
theorem dX1_division_306 : decode cX1_division 306 = .ok (.if_icmp .ne 12, 3) := by decide +kernel
theorem dX1_division_309 : decode cX1_division 309 = .ok (.aload_n 0, 1) := by decide +kernel
theorem dX1_division_310 : decode cX1_division 310 = .ok (.iload 10, 2) := by decide +kernel
theorem dX1_division_312 : decode cX1_division 312 = .ok (.invokevirtual 57, 3) := by decide +kernel
theorem dX1_division_315 : decode cX1_division 315 = .ok (.goto 11, 3) := by decide +kernel
theorem dX1_division_318 : decode cX1_division 318 = .ok (.aload_n 0, 1) := by decide +kernel
theorem dX1_division_319 : decode cX1_division 319 = .ok (.iload 10, 2) := by decide +kernel
theorem dX1_division_321 : decode cX1_division 321 = .ok (.iconst 1, 1) := by decide +kernel
theorem dX1_division_322 : decode cX1_division 322 = .ok (.isub, 1) := by decide +kernel
theorem dX1_division_323 : decode cX1_division 323 = .ok (.invokevirtual 60, 3) := by decide +kernel
theorem dX1_division_326 : decode cX1_division 326 = .ok (.imul, 1) := by decide +kernel
theorem dX1_division_327 : decode cX1_division 327 = .ok (.invokevirtual 26, 3) := by decide +kernel
theorem dX1_division_330 : decode cX1_division 330 = .ok (.istore 11, 2) := by decide +kernel
theorem dX1_division_332 : decode cX1_division 332 = .ok (.iload 9, 2) := by decide +kernel
theorem dX1_division_334 : decode cX1_division 334 = .ok (.iconst 2, 1) := by decide +kernel
theorem dX1_division_335 : decode cX1_division 335 = .ok (.irem, 1) := by decide +kernel
theorem dX1_division_336 : decode cX1_division 336 = .ok (.iconst 1, 1) := by decide +kernel
theorem dX1_division_337 : decode cX1_division 337 = .ok (.if_icmp .ne 28, 3) := by decide +kernel
theorem dX1_division_340 : decode cX1_division 340 = .ok (.aload_n 0, 1) := by decide +kernel
theorem dX1_division_341 : decode cX1_division 341 = .ok (.aload_n 0, 1) := by decide +kernel
theorem dX1_division_342 : decode cX1_division 342 = .ok (.getfield 23, 3) := by decide +kernel
theorem dX1_division_345 : decode cX1_division 345 = .ok (.iload 10, 2) := by decide +kernel
theorem dX1_division_347 : decode cX1_division 347 = .ok (.iconst 1, 1) := by decide +kernel
theorem dX1_division_348 : decode cX1_division 348 = .ok (.isub, 1) := by decide +kernel
theorem dX1_division_349 : decode cX1_division 349 = .ok (.iaload, 1) := by decide +kernel
theorem dX1_division_350 : decode cX1_division 350 = .ok (.aload_n 0, 1) := by decide +kernel
theorem dX1_division_351 : decode cX1_division 351 = .ok (.iload 10, 2) := by decide +kernel
theorem dX1_division_353 : decode cX1_division 353 = .ok (.iconst 1, 1) := by decide +kernel
theorem dX1_division_354 : decode cX1_division 354 = .ok (.iadd, 1) := by decide +kernel
theorem dX1_division_355 : decode cX1_division 355 = .ok (.invokevirtual 57, 3) := by decide +kernel
theorem dX1_division_358 : decode cX1_division 358 = .ok (.imul, 1) := by decide +kernel
theorem dX1_division_359 : decode cX1_division 359 = .ok (.invokevirtual 26, 3) := by decide +kernel
theorem dX1_division_362 : decode cX1_division 362 = .ok (.goto 25, 3) := by decide +kernel
theorem dX1_division_365 : decode cX1_division 365 = .ok (.aload_n 0, 1) := by decide +kernel
theorem dX1_division_366 : decode cX1_division 366 = .ok (.aload_n 0, 1) := by decide +kernel
theorem dX1_division_367 : decode cX1_division 367 = .ok (.getfield 23, 3) := by decide +kernel
theorem dX1_division_370 : decode cX1_division 370 = .ok (.iload 10, 2) := by decide +kernel
theorem dX1_division_372 : decode cX1_division 372 = .ok (.iconst 2, 1) := by decide +kernel
theorem dX1_division_373 : decode cX1_division 373 = .ok (.isub, 1) := by decide +kernel
theorem dX1_division_374 : decode cX1_division 374 = .ok (.iaload, 1) := by decide +kernel
theorem dX1_division_375 : decode cX1_division 375 = .ok (.aload_n 0, 1) := by decide +kernel
theorem dX1_division_376 : decode cX1_division 376 = .ok (.iload 10, 2) := by decide +kernel
theorem dX1_division_378 : decode cX1_division 378 = .ok (.iconst 1, 1) := by decide +kernel
theorem dX1_division_379 : decode cX1_division 379 = .ok (.iadd, 1) := by decide +kernel
theorem dX1_division_380 : decode cX1_division 380 = .ok (.invokevirtual 60, 3) := by decide +kernel
theorem dX1_division_383 : decode cX1_division 383 = .ok (.imul, 1) := by decide +kernel
theorem dX1_division_384 : decode cX1_division 384 = .ok (.invokevirtual 26, 3) := by decide +kernel
theorem dX1_division_387 : decode cX1_division 387 = .ok (.istore 12, 2) := by decide +kernel
theorem dX1_division_389 : decode cX1_division 389 = .ok (.iload 9, 2) := by decide +kernel
theorem dX1_division_391 : decode cX1_division 391 = .ok (.iconst 2, 1) := by decide +kernel
theorem dX1_division_392 : decode cX1_division 392 = .ok (.irem, 1) := by decide +kernel
theorem dX1_division_393 : decode cX1_division 393 = .ok (.ifCond .ne 34, 3) := by decide +kernel
theorem dX1_division_396 : decode cX1_division 396 = .ok (.aload_n 0, 1) := by decide +kernel
theorem dX1_division_397 : decode cX1_division 397 = .ok (.getfield 23, 3) := by decide +kernel
theorem dX1_division_400 : decode cX1_division 400 = .ok (.iload 9, 2) := by decide +kernel
theorem dX1_division_402 : decode cX1_division 402 = .ok (.aload_n 0, 1) := by decide +kernel
theorem dX1_division_403 : decode cX1_division 403 = .ok (.aload_n 0, 1) := by decide +kernel
theorem dX1_division_404 : decode cX1_division 404 = .ok (.getfield 23, 3) := by decide +kernel
theorem dX1_division_407 : decode cX1_division 407 = .ok (.iload 10, 2) := by decide +kernel
theorem dX1_division_409 : decode cX1_division 409 = .ok (.iaload, 1) := by decide +kernel
theorem dX1_division_410 : decode cX1_division 410 = .ok (.aload_n 0, 1) := by decide +kernel
theorem dX1_division_411 : decode cX1_division 411 = .ok (.iload 11, 2) := by decide +kernel
theorem dX1_division_413 : decode cX1_division 413 = .ok (.iload 12, 2) := by decide +kernel
theorem dX1_division_415 : decode cX1_division 415 = .ok (.isub, 1) := by decide +kernel
theorem dX1_division_416 : decode cX1_division 416 = .ok (.invokevirtual 26, 3) := by decide +kernel
theorem dX1_division_419 : decode cX1_division 419 = .ok (.imul, 1) := by decide +kernel
theorem dX1_division_420 : decode cX1_division 420 = .ok (.invokevirtual 26, 3) := by decide +kernel
theorem dX1_division_423 : decode cX1_division 423 = .ok (.iastore, 1) := by decide +kernel
theorem dX1_division_424 : decode cX1_division 424 = .ok (.goto 59, 3) := by decide +kernel
theorem dX1_division_427 : decode cX1_division 427 = .ok (.iload 10, 2) := by decide +kernel
theorem dX1_division_429 : decode cX1_division 429 = .ok (.iconst 2, 1) := by decide +kernel
theorem dX1_division_430 : decode cX1_division 430 = .ok (.irem, 1) := by decide +kernel
theorem dX1_division_431 : decode cX1_division 431 = .ok (.ifCond .ne 29, 3) := by decide +kernel
theorem dX1_division_434 : decode cX1_division 434 = .ok (.aload_n 0, 1) := by decide +kernel
theorem dX1_division_435 : decode cX1_division 435 = .ok (.getfield 23, 3) := by decide +kernel
theorem dX1_division_438 : decode cX1_division 438 = .ok (.iload 9, 2) := by decide +kernel
theorem dX1_division_440 : decode cX1_division 440 = .ok (.aload_n 0, 1) := by decide +kernel
theorem dX1_division_441 : decode cX1_division 441 = .ok (.aload_n 0, 1) := by decide +kernel
theorem dX1_division_442 : decode cX1_division 442 = .ok (.iload 6, 2) := by decide +kernel
theorem dX1_division_444 : decode cX1_division 444 = .ok (.iload 11, 2) := by decide +kernel
theorem dX1_division_446 : decode cX1_division 446 = .ok (.imul, 1) := by decide +kernel
theorem dX1_division_447 : decode cX1_division 447 = .ok (.invokevirtual 26, 3) := by decide +kernel
theorem dX1_division_450 : decode cX1_division 450 = .ok (.iload 12, 2) := by decide +kernel
theorem dX1_division_452 : decode cX1_division 452 = .ok (.isub, 1) := by decide +kernel
theorem dX1_division_453 : decode cX1_division 453 = .ok (.invokevirtual 26, 3) := by decide +kernel
theorem dX1_division_456 : decode cX1_division 456 = .ok (.iastore, 1) := by decide +kernel
theorem dX1_division_457 : decode cX1_division 457 = .ok (.goto 26, 3) := by decide +kernel
theorem dX1_division_460 : decode cX1_division 460 = .ok (.aload_n 0, 1) := by decide +kernel
theorem dX1_division_461 : decode cX1_division 461 = .ok (.getfield 23, 3) := by decide +kernel
theorem dX1_division_464 : decode cX1_division 464 = .ok (.iload 9, 2) := by decide +kernel
theorem dX1_division_466 : decode cX1_division 466 = .ok (.aload_n 0, 1) := by decide +kernel
theorem dX1_division_467 : decode cX1_division 467 = .ok (.iload 11, 2) := by decide +kernel
theorem dX1_division_469 : decode cX1_division 469 = .ok (.aload_n 0, 1) := by decide +kernel
theorem dX1_division_470 : decode cX1_division 470 = .ok (.iload 6, 2) := by decide +kernel
theorem dX1_division_472 : decode cX1_division 472 = .ok (.iload 12, 2) := by decide +kernel
theorem dX1_division_474 : decode cX1_division 474 = .ok (.imul, 1) := by decide +kernel
theorem dX1_division_475 : decode cX1_division 475 = .ok (.invokevirtual 26, 3) := by decide +kernel
theorem dX1_division_478 : decode cX1_division 478 = .ok (.isub, 1) := by decide +kernel
theorem dX1_division_479 : decode cX1_division 479 = .ok (.invokevirtual 26, 3) := by decide +kernel
theorem dX1_division_482 : decode cX1_division 482 = .ok (.iastore, 1) := by decide +kernel
theorem dX1_division_483 : decode cX1_division 483 = .ok (.iinc 9 1, 3) := by decide +kernel
theorem dX1_division_486 : decode cX1_division 486 = .ok (.goto (-207), 3) := by decide +kernel
theorem dX1_division_489 : decode cX1_division 489 = .ok (.aload_n 0, 1) := by decide +kernel
theorem dX1_division_490 : decode cX1_division 490 = .ok (.getfield 23, 3) := by decide +kernel
theorem dX1_division_493 : decode cX1_division 493 = .ok (.iload_n 1, 1) := by decide +kernel
theorem dX1_division_494 : decode cX1_division 494 = .ok (.iaload, 1) := by decide +kernel
theorem dX1_division_495 : decode cX1_division 495 = .ok (.ireturn, 1) := by decide +kernel
set_option maxRecDepth 20000 in
theorem ggX1_twist_X1_mod : GoodIn wsX1_twist wsX1_mod := goodIn_r _ [8, 1, 22, 23, 24, 25, 26] (by decide +kernel) (by decide +kernel)
set_option maxRecDepth 20000 in
theorem gX1_twist_X1_mod : GoodIn wsX1_twist (wsV RX1 26 RX1 yX1_mod wsX1_mod) := goodIn_app (goodIn_of _ (by decide +kernel)) ggX1_twist_X1_mod
set_option maxRecDepth 20000 in
theorem ggX1_twist_X1_count : GoodIn wsX1_twist wsX1_count := goodIn_r _ [12, 1, 13, 14, 15, 16, 7, 17, 4, 5, 6, 8, 18, 19, 20, 21, 2, 3, 22, 23, 24, 25, 26] (by decide +kernel) (by decide +kernel)
set_option maxRecDepth 20000 in
theorem gX1_twist_X1_count : GoodIn wsX1_twist (wsV RX1 36 RX1 yX1_count wsX1_count) := goodIn_app (goodIn_of _ (by decide +kernel)) ggX1_twist_X1_count
theorem dX1_twist_0 : decode cX1_twist 0 = .ok (.iload_n 1, 1) := by decide +kernel
theorem dX1_twist_1 : decode cX1_twist 1 = .ok (.iconst 1, 1) := by decide +kernel
theorem dX1_twist_2 : decode cX1_twist 2 = .ok (.if_icmp .lt 11, 3) := by decide +kernel
theorem dX1_twist_5 : decode cX1_twist 5 = .ok (.iload_n 1, 1) := by decide +kernel
theorem dX1_twist_6 : decode cX1_twist 6 = .ok (.aload_n 0, 1) := by decide +kernel
theorem dX1_twist_7 : decode cX1_twist 7 = .ok (.getfield 7, 3) := by decide +kernel
theorem dX1_twist_10 : decode cX1_twist 10 = .ok (.if_icmp .lt 5, 3) := by decide +kernel
theorem dX1_twist_13 : decode cX1_twist 13 = .ok (.iconst (-1), 1) := by decide +kernel
theorem dX1_twist_14 : decode cX1_twist 14 = .ok (.ireturn, 1) := by decide +kernel
theorem dX1_twist_15 : decode cX1_twist 15 = .ok (.aload_n 0, 1) := by decide +kernel
theorem dX1_twist_16 : decode cX1_twist 16 = .ok (.getfield 13, 3) := by decide +kernel
theorem dX1_twist_19 : decode cX1_twist 19 = .ok (.istore_n 2, 1) := by decide +kernel
theorem dX1_twist_20 : decode cX1_twist 20 = .ok (.aload_n 0, 1) := by decide +kernel
theorem dX1_twist_21 : decode cX1_twist 21 = .ok (.getfield 16, 3) := by decide +kernel
theorem dX1_twist_24 : decode cX1_twist 24 = .ok (.istore_n 3, 1) := by decide +kernel
theorem dX1_twist_25 : decode cX1_twist 25 = .ok (.aload_n 0, 1) := by decide +kernel
theorem dX1_twist_26 : decode cX1_twist 26 = .ok (.iload_n 1, 1) := by decide +kernel
theorem dX1_twist_27 : decode cX1_twist 27 = .ok (.iload_n 1, 1) := by decide +kernel
theorem dX1_twist_28 : decode cX1_twist 28 = .ok (.imul, 1) := by decide +kernel
theorem dX1_twist_29 : decode cX1_twist 29 = .ok (.invokevirtual 26, 3) := by decide +kernel
theorem dX1_twist_32 : decode cX1_twist 32 = .ok (.istore 4, 2) := by decide +kernel
theorem dX1_twist_34 : decode cX1_twist 34 = .ok (.aload_n 0, 1) := by decide +kernel
theorem dX1_twist_35 : decode cX1_twist 35 = .ok (.aload_n 0, 1) := by decide +kernel
theorem dX1_twist_36 : decode cX1_twist 36 = .ok (.iload_n 2, 1) := by decide +kernel
theorem dX1_twist_37 : decode cX1_twist 37 = .ok (.iload 4, 2) := by decide +kernel
theorem dX1_twist_39 : decode cX1_twist 39 = .ok (.imul, 1) := by decide +kernel
theorem dX1_twist_40 : decode cX1_twist 40 = .ok (.invokevirtual 26, 3) := by decide +kernel
theorem dX1_twist_43 : decode cX1_twist 43 = .ok (.putfield 13, 3) := by decide +kernel
theorem dX1_twist_46 : decode cX1_twist 46 = .ok (.aload_n 0, 1) := by decide +kernel
theorem dX1_twist_47 : decode cX1_twist 47 = .ok (.aload_n 0, 1) := by decide +kernel
theorem dX1_twist_48 : decode cX1_twist 48 = .ok (.aload_n 0, 1) := by decide +kernel
theorem dX1_twist_49 : decode cX1_twist 49 = .ok (.iload_n 3, 1) := by decide +kernel
theorem dX1_twist_50 : decode cX1_twist 50 = .ok (.iload 4, 2) := by decide +kernel
theorem dX1_twist_52 : decode cX1_twist 52 = .ok (.imul, 1) := by decide +kernel
theorem dX1_twist_53 : decode cX1_twist 53 = .ok (.invokevirtual 26, 3) := by decide +kernel
theorem dX1_twist_56 : decode cX1_twist 56 = .ok (.iload_n 1, 1) := by decide +kernel
theorem dX1_twist_57 : decode cX1_twist 57 = .ok (.imul, 1) := by decide +kernel
theorem dX1_twist_58 : decode cX1_twist 58 = .ok (.invokevirtual 26, 3) := by decide +kernel
theorem dX1_twist_61 : decode cX1_twist 61 = .ok (.putfield 16, 3) := by decide +kernel
theorem dX1_twist_64 : decode cX1_twist 64 = .ok (.aload_n 0, 1) := by decide +kernel
theorem dX1_twist_65 : decode cX1_twist 65 = .ok (.invokevirtual 36, 3) := by decide +kernel
theorem dX1_twist_68 : decode cX1_twist 68 = .ok (.istore 5, 2) := by decide +kernel
theorem dX1_twist_70 : decode cX1_twist 70 = .ok (.aload_n 0, 1) := by decide +kernel
theorem dX1_twist_71 : decode cX1_twist 71 = .ok (.iload_n 2, 1) := by decide +kernel
theorem dX1_twist_72 : decode cX1_twist 72 = .ok (.putfield 13, 3) := by decide +kernel
theorem dX1_twist_75 : decode cX1_twist 75 = .ok (.aload_n 0, 1) := by decide +kernel
theorem dX1_twist_76 : decode cX1_twist 76 = .ok (.iload_n 3, 1) := by decide +kernel
theorem dX1_twist_77 : decode cX1_twist 77 = .ok (.putfield 16, 3) := by decide +kernel
theorem dX1_twist_80 : decode cX1_twist 80 = .ok (.iload 5, 2) := by decide +kernel
theorem dX1_twist_82 : decode cX1_twist 82 = .ok (.ireturn, 1) := by decide +kernel
theorem dJ9_floorMod_7cf53_0 : decode cJ9_floorMod_7cf53 0 = .ok (.iload_n 0, 1) := by decide +kernel
theorem dJ9_floorMod_7cf53_1 : decode cJ9_floorMod_7cf53 1 = .ok (.iload_n 1, 1) := by decide +kernel
theorem dJ9_floorMod_7cf53_2 : decode cJ9_floorMod_7cf53 2 = .ok (.irem, 1) := by decide +kernel
theorem dJ9_floorMod_7cf53_3 : decode cJ9_floorMod_7cf53 3 = .ok (.istore_n 2, 1) := by decide +kernel
theorem dJ9_floorMod_7cf53_4 : decode cJ9_floorMod_7cf53 4 = .ok (.iload_n 0, 1) := by decide +kernel
theorem dJ9_floorMod_7cf53_5 : decode cJ9_floorMod_7cf53 5 = .ok (.iload_n 1, 1) := by decide +kernel
theorem dJ9_floorMod_7cf53_6 : decode cJ9_floorMod_7cf53 6 = .ok (.ixor, 1) := by decide +kernel
theorem dJ9_floorMod_7cf53_7 : decode cJ9_floorMod_7cf53 7 = .ok (.ifCond .ge 11, 3) := by decide +kernel
theorem dJ9_floorMod_7cf53_10 : decode cJ9_floorMod_7cf53 10 = .ok (.iload_n 2, 1) := by decide +kernel
theorem dJ9_floorMod_7cf53_11 : decode cJ9_floorMod_7cf53 11 = .ok (.ifCond .eq 7, 3) := by decide +kernel
theorem dJ9_floorMod_7cf53_14 : decode cJ9_floorMod_7cf53 14 = .ok (.iload_n 2, 1) := by decide +kernel
theorem dJ9_floorMod_7cf53_15 : decode cJ9_floorMod_7cf53 15 = .ok (.iload_n 1, 1) := by decide +kernel
theorem dJ9_floorMod_7cf53_16 : decode cJ9_floorMod_7cf53 16 = .ok (.iadd, 1) := by decide +kernel
theorem dJ9_floorMod_7cf53_17 : decode cJ9_floorMod_7cf53 17 = .ok (.ireturn, 1) := by decide +kernel
theorem dJ9_floorMod_7cf53_18 : decode cJ9_floorMod_7cf53 18 = .ok (.iload_n 2, 1) := by decide +kernel
theorem dJ9_floorMod_7cf53_19 : decode cJ9_floorMod_7cf53 19 = .ok (.ireturn, 1) := by decide +kernel
set_option maxRecDepth 20000 in
theorem ggL_law_X0_init : GoodIn wsL_law wsX0_init := goodIn_r _ [8, 9, 10, 11, 12, 13, 14, 15, 16, 17, 18, 2, 19, 20, 21, 22, 23, 24, 25, 26, 27, 28, 29, 30, 31, 32, 33, 34, 35, 36, 37, 38, 39, 40, 41, 42, 43, 44, 45, 46, 47, 267, 268, 269, 270, 271, 272, 273] (by decide +kernel) (by decide +kernel)
set_option maxRecDepth 20000 in
theorem gL_law_X0_init : GoodIn wsL_law (wsX0_init) := ggL_law_X0_init
set_option maxRecDepth 20000 in
theorem ggL_law_X1_init : GoodIn wsL_law wsX1_init := goodIn_r _ [50, 51, 10, 11, 52, 53, 54, 12, 55, 56, 274, 275, 276, 277, 278] (by decide +kernel) (by decide +kernel)
set_option maxRecDepth 20000 in
theorem gL_law_X1_init : GoodIn wsL_law (wsX1_init) := ggL_law_X1_init
set_option maxRecDepth 20000 in
theorem ggL_law_X0_curve : GoodIn wsL_law wsX0_curve := goodIn_r _ [60, 61, 62, 2, 63, 64, 65, 66, 16, 17, 18, 19, 20, 21, 22, 14, 23, 24, 25, 26, 27, 13, 28, 29, 30, 31, 32, 33, 34, 35, 36, 37, 38, 39, 40, 41, 42, 43, 44, 45, 46, 47, 267, 268, 269, 270, 271, 272, 273] (by decide +kernel) (by decide +kernel)
set_option maxRecDepth 20000 in
theorem gL_law_X0_curve : GoodIn wsL_law (wsV RL 13 RX0 yX0_curve wsX0_curve) := goodIn_app (goodIn_of _ (by decide +kernel)) ggL_law_X0_curve
set_option maxRecDepth 20000 in
theorem ggL_law_X1_curve : GoodIn wsL_law wsX1_curve := goodIn_r _ [70, 52, 53, 54, 274, 275, 276, 277, 278] (by decide +kernel) (by decide +kernel)
set_option maxRecDepth 20000 in
theorem gL_law_X1_curve : GoodIn wsL_law (wsV RL 17 RX1 yX1_curve wsX1_curve) := goodIn_app (goodIn_of _ (by decide +kernel)) ggL_law_X1_curve
set_option maxRecDepth 20000 in
theorem ggL_law_X0_coefficient : GoodIn wsL_law wsX0_coefficient := goodIn_r _ [74, 20, 21, 22, 267, 268, 269, 270, 271, 272, 273] (by decide +kernel) (by decide +kernel)
set_option maxRecDepth 20000 in
theorem gL_law_X0_coefficient : GoodIn wsL_law (wsV RL 18 RX0 yX0_coefficient wsX0_coefficient) := goodIn_app (goodIn_of _ (by decide +kernel)) ggL_law_X0_coefficient
set_option maxRecDepth 20000 in
theorem ggL_law_X1_coefficient : GoodIn wsL_law wsX1_coefficient := goodIn_r _ [78, 52, 53, 54, 274, 275, 276, 277, 278] (by decide +kernel) (by decide +kernel)
set_option maxRecDepth 20000 in
theorem gL_law_X1_coefficient : GoodIn wsL_law (wsV RL 22 RX1 yX1_coefficient wsX1_coefficient) := goodIn_app (goodIn_of _ (by decide +kernel)) ggL_law_X1_coefficient
set_option maxRecDepth 20000 in
theorem ggL_law_X0_count : GoodIn wsL_law wsX0_count := goodIn_r _ [82, 23, 267, 268, 269, 270, 271, 272, 273] (by decide +kernel) (by decide +kernel)
set_option maxRecDepth 20000 in
theorem gL_law_X0_count : GoodIn wsL_law (wsV RL 23 RX0 yX0_count wsX0_count) := goodIn_app (goodIn_of _ (by decide +kernel)) ggL_law_X0_count
set_option maxRecDepth 20000 in
theorem ggL_law_X1_count : GoodIn wsL_law wsX1_count := goodIn_r _ [86, 52, 55, 87, 88, 89, 5, 90, 91, 92, 93, 94, 95, 96, 97, 98, 53, 54, 274, 275, 276, 277, 278] (by decide +kernel) (by decide +kernel)
set_option maxRecDepth 20000 in
theorem gL_law_X1_count : GoodIn wsL_law (wsV RL 27 RX1 yX1_count wsX1_count) := goodIn_app (goodIn_of _ (by decide +kernel)) ggL_law_X1_count
set_option maxRecDepth 20000 in
theorem ggL_law_X0_trace : GoodIn wsL_law wsX0_trace := goodIn_r _ [102, 20, 23, 32, 33, 34, 35, 267, 268, 269, 270, 271, 272, 273] (by decide +kernel) (by decide +kernel)
set_option maxRecDepth 20000 in
theorem gL_law_X0_trace : GoodIn wsL_law (wsV RL 28 RX0 yX0_trace wsX0_trace) := goodIn_app (goodIn_of _ (by decide +kernel)) ggL_law_X0_trace
set_option maxRecDepth 20000 in
theorem ggL_law_X1_trace : GoodIn wsL_law wsX1_trace := goodIn_r _ [106, 52, 107, 84, 85, 5, 86, 55, 87, 88, 89, 90, 91, 92, 93, 94, 95, 96, 97, 98, 53, 54, 274, 275, 276, 277, 278] (by decide +kernel) (by decide +kernel)
set_option maxRecDepth 20000 in
theorem gL_law_X1_trace : GoodIn wsL_law (wsV RL 31 RX1 yX1_trace wsX1_trace) := goodIn_app (goodIn_of _ (by decide +kernel)) ggL_law_X1_trace
set_option maxRecDepth 20000 in
theorem ggL_law_X0_roots : GoodIn wsL_law wsX0_roots := goodIn_r _ [111, 14, 112, 113, 114, 2, 115, 20, 267, 268, 269, 270, 271, 272, 273] (by decide +kernel) (by decide +kernel)
set_option maxRecDepth 20000 in
theorem gL_law_X0_roots : GoodIn wsL_law (wsV RL 32 RX0 yX0_roots wsX0_roots) := goodIn_app (goodIn_of _ (by decide +kernel)) ggL_law_X0_roots
set_option maxRecDepth 20000 in
theorem ggL_law_X1_roots : GoodIn wsL_law wsX1_roots := goodIn_r _ [119, 52, 91, 92, 93, 5, 94, 95, 96, 97, 98, 53, 54, 274, 275, 276, 277, 278] (by decide +kernel) (by decide +kernel)
set_option maxRecDepth 20000 in
theorem gL_law_X1_roots : GoodIn wsL_law (wsV RL 35 RX1 yX1_roots wsX1_roots) := goodIn_app (goodIn_of _ (by decide +kernel)) ggL_law_X1_roots
set_option maxRecDepth 20000 in
theorem ggL_law_X0_point : GoodIn wsL_law wsX0_point := goodIn_r _ [123, 23, 13, 14, 20, 124, 125, 126, 2, 127, 40, 41, 42, 43, 21, 22, 28, 29, 30, 31, 32, 33, 34, 35, 128, 129, 130, 267, 268, 269, 270, 271, 272, 273] (by decide +kernel) (by decide +kernel)
set_option maxRecDepth 20000 in
theorem gL_law_X0_point : GoodIn wsL_law (wsV RL 36 RX0 yX0_point wsX0_point) := goodIn_app (goodIn_of _ (by decide +kernel)) ggL_law_X0_point
set_option maxRecDepth 20000 in
theorem ggL_law_X1_point : GoodIn wsL_law wsX1_point := goodIn_r _ [134, 52, 55, 87, 88, 89, 5, 90, 91, 92, 93, 94, 95, 96, 97, 98, 53, 54, 274, 275, 276, 277, 278] (by decide +kernel) (by decide +kernel)
set_option maxRecDepth 20000 in
theorem gL_law_X1_point : GoodIn wsL_law (wsV RL 39 RX1 yX1_point wsX1_point) := goodIn_app (goodIn_of _ (by decide +kernel)) ggL_law_X1_point
set_option maxRecDepth 20000 in
theorem ggL_law_X0_on : GoodIn wsL_law wsX0_on := goodIn_r _ [138, 139, 140, 141, 2, 142, 143, 144, 145, 146, 147, 148, 112, 113, 114, 115, 20, 28, 29, 30, 31, 32, 33, 34, 35, 40, 41, 42, 43, 21, 22, 267, 268, 269, 270, 271, 272, 273] (by decide +kernel) (by decide +kernel)
set_option maxRecDepth 20000 in
theorem gL_law_X0_on : GoodIn wsL_law (wsV RL 40 RX0 yX0_on wsX0_on) := goodIn_app (goodIn_of _ (by decide +kernel)) ggL_law_X0_on
set_option maxRecDepth 20000 in
theorem ggL_law_X1_on : GoodIn wsL_law wsX1_on := goodIn_r _ [152, 52, 91, 92, 93, 5, 94, 95, 96, 97, 98, 53, 54, 274, 275, 276, 277, 278] (by decide +kernel) (by decide +kernel)
set_option maxRecDepth 20000 in
theorem gL_law_X1_on : GoodIn wsL_law (wsV RL 44 RX1 yX1_on wsX1_on) := goodIn_app (goodIn_of _ (by decide +kernel)) ggL_law_X1_on
set_option maxRecDepth 20000 in
theorem ggL_law_X0_add : GoodIn wsL_law wsX0_add := goodIn_r _ [156, 139, 140, 141, 2, 142, 143, 144, 145, 146, 147, 148, 112, 113, 114, 115, 20, 28, 29, 30, 31, 32, 33, 34, 35, 40, 41, 42, 43, 21, 22, 157, 158, 159, 160, 161, 162, 163, 164, 128, 129, 130, 165, 166, 167, 168, 169, 170, 171, 172, 267, 268, 269, 270, 271, 272, 273] (by decide +kernel) (by decide +kernel)
set_option maxRecDepth 20000 in
theorem gL_law_X0_add : GoodIn wsL_law (wsV RL 45 RX0 yX0_add wsX0_add) := goodIn_app (goodIn_of _ (by decide +kernel)) ggL_law_X0_add
set_option maxRecDepth 20000 in
theorem ggL_law_X1_add : GoodIn wsL_law wsX1_add := goodIn_r _ [176, 177, 150, 151, 5, 152, 52, 91, 92, 93, 94, 95, 96, 97, 98, 53, 54, 178, 179, 180, 181, 182, 183, 184, 185, 274, 275, 276, 277, 278] (by decide +kernel) (by decide +kernel)
set_option maxRecDepth 20000 in
theorem gL_law_X1_add : GoodIn wsL_law (wsV RL 49 RX1 yX1_add wsX1_add) := goodIn_app (goodIn_of _ (by decide +kernel)) ggL_law_X1_add
set_option maxRecDepth 20000 in
theorem ggL_law_X0_negative : GoodIn wsL_law wsX0_negative := goodIn_r _ [189, 139, 140, 141, 2, 142, 143, 144, 145, 146, 147, 148, 112, 113, 114, 115, 20, 28, 29, 30, 31, 32, 33, 34, 35, 40, 41, 42, 43, 21, 22, 161, 162, 163, 164, 128, 129, 130, 267, 268, 269, 270, 271, 272, 273] (by decide +kernel) (by decide +kernel)
set_option maxRecDepth 20000 in
theorem gL_law_X0_negative : GoodIn wsL_law (wsV RL 50 RX0 yX0_negative wsX0_negative) := goodIn_app (goodIn_of _ (by decide +kernel)) ggL_law_X0_negative
set_option maxRecDepth 20000 in
theorem ggL_law_X1_negative : GoodIn wsL_law wsX1_negative := goodIn_r _ [193, 177, 150, 151, 5, 152, 52, 91, 92, 93, 94, 95, 96, 97, 98, 53, 54, 194, 195, 196, 197, 274, 275, 276, 277, 278] (by decide +kernel) (by decide +kernel)
set_option maxRecDepth 20000 in
theorem gL_law_X1_negative : GoodIn wsL_law (wsV RL 53 RX1 yX1_negative wsX1_negative) := goodIn_app (goodIn_of _ (by decide +kernel)) ggL_law_X1_negative
set_option maxRecDepth 20000 in
theorem ggL_law_X0_times : GoodIn wsL_law wsX0_times := goodIn_r _ [201, 139, 140, 141, 2, 142, 143, 144, 145, 146, 147, 148, 112, 113, 114, 115, 20, 28, 29, 30, 31, 32, 33, 34, 35, 40, 41, 42, 43, 21, 22, 161, 162, 163, 164, 128, 129, 130, 202, 203, 204, 205, 157, 158, 159, 160, 165, 166, 167, 168, 169, 170, 171, 172, 267, 268, 269, 270, 271, 272, 273] (by decide +kernel) (by decide +kernel)
set_option maxRecDepth 20000 in
theorem gL_law_X0_times : GoodIn wsL_law (wsV RL 54 RX0 yX0_times wsX0_times) := goodIn_app (goodIn_of _ (by decide +kernel)) ggL_law_X0_times
set_option maxRecDepth 20000 in
theorem ggL_law_X1_times : GoodIn wsL_law wsX1_times := goodIn_r _ [209, 177, 150, 151, 5, 152, 52, 91, 92, 93, 94, 95, 96, 97, 98, 53, 54, 210, 211, 212, 213, 178, 179, 180, 181, 182, 183, 184, 185, 194, 195, 196, 197, 274, 275, 276, 277, 278] (by decide +kernel) (by decide +kernel)
set_option maxRecDepth 20000 in
theorem gL_law_X1_times : GoodIn wsL_law (wsV RL 57 RX1 yX1_times wsX1_times) := goodIn_app (goodIn_of _ (by decide +kernel)) ggL_law_X1_times
set_option maxRecDepth 20000 in
theorem ggL_law_X0_order : GoodIn wsL_law wsX0_order := goodIn_r _ [217, 23, 139, 140, 141, 2, 142, 143, 144, 145, 146, 147, 148, 112, 113, 114, 115, 20, 28, 29, 30, 31, 32, 33, 34, 35, 40, 41, 42, 43, 21, 22, 202, 203, 204, 205, 157, 158, 159, 160, 161, 162, 163, 164, 128, 129, 130, 165, 166, 167, 168, 169, 170, 171, 172, 267, 268, 269, 270, 271, 272, 273] (by decide +kernel) (by decide +kernel)
set_option maxRecDepth 20000 in
theorem gL_law_X0_order : GoodIn wsL_law (wsV RL 58 RX0 yX0_order wsX0_order) := goodIn_app (goodIn_of _ (by decide +kernel)) ggL_law_X0_order
set_option maxRecDepth 20000 in
theorem ggL_law_X1_order : GoodIn wsL_law wsX1_order := goodIn_r _ [213, 177, 150, 151, 5, 152, 52, 91, 92, 93, 94, 95, 96, 97, 98, 53, 54, 178, 179, 180, 181, 182, 183, 184, 185, 274, 275, 276, 277, 278] (by decide +kernel) (by decide +kernel)
set_option maxRecDepth 20000 in
theorem gL_law_X1_order : GoodIn wsL_law (wsV RL 61 RX1 yX1_order wsX1_order) := goodIn_app (goodIn_of _ (by decide +kernel)) ggL_law_X1_order
set_option maxRecDepth 20000 in
theorem ggL_law_X0_division : GoodIn wsL_law wsX0_division := goodIn_r _ [222, 15, 112, 113, 114, 2, 115, 20, 223, 224, 225, 226, 227, 228, 229, 230, 21, 22, 28, 29, 30, 31, 32, 33, 34, 35, 231, 232, 233, 234, 40, 41, 42, 43, 235, 236, 237, 238, 239, 240, 241, 242, 243, 244, 245, 246, 267, 268, 269, 270, 271, 272, 273] (by decide +kernel) (by decide +kernel)
set_option maxRecDepth 20000 in
theorem gL_law_X0_division : GoodIn wsL_law (wsV RL 62 RX0 yX0_division wsX0_division) := goodIn_app (goodIn_of _ (by decide +kernel)) ggL_law_X0_division
set_option maxRecDepth 20000 in
theorem ggL_law_X1_division : GoodIn wsL_law wsX1_division := goodIn_r _ [250, 52, 53, 56, 54, 91, 92, 93, 5, 94, 95, 96, 97, 98, 251, 252, 253, 254, 255, 256, 257, 258, 274, 275, 276, 277, 278] (by decide +kernel) (by decide +kernel)
set_option maxRecDepth 20000 in
theorem gL_law_X1_division : GoodIn wsL_law (wsV RL 65 RX1 yX1_division wsX1_division) := goodIn_app (goodIn_of _ (by decide +kernel)) ggL_law_X1_division
set_option maxRecDepth 20000 in
theorem ggL_law_X0_twist : GoodIn wsL_law wsX0_twist := goodIn_r _ [262, 20, 13, 23, 267, 268, 269, 270, 271, 272, 273] (by decide +kernel) (by decide +kernel)
set_option maxRecDepth 20000 in
theorem gL_law_X0_twist : GoodIn wsL_law (wsV RL 66 RX0 yX0_twist wsX0_twist) := goodIn_app (goodIn_of _ (by decide +kernel)) ggL_law_X0_twist
set_option maxRecDepth 20000 in
theorem ggL_law_X1_twist : GoodIn wsL_law wsX1_twist := goodIn_r _ [266, 52, 53, 54, 91, 92, 93, 5, 94, 107, 84, 85, 86, 55, 87, 88, 89, 90, 95, 96, 97, 98, 274, 275, 276, 277, 278] (by decide +kernel) (by decide +kernel)
set_option maxRecDepth 20000 in
theorem gL_law_X1_twist : GoodIn wsL_law (wsV RL 69 RX1 yX1_twist wsX1_twist) := goodIn_app (goodIn_of _ (by decide +kernel)) ggL_law_X1_twist
theorem dL_law_0 : decode cL_law 0 = .ok (.new 7, 3) := by decide +kernel
theorem dL_law_3 : decode cL_law 3 = .ok (.dup, 1) := by decide +kernel
theorem dL_law_4 : decode cL_law 4 = .ok (.invokespecial 9, 3) := by decide +kernel
theorem dL_law_7 : decode cL_law 7 = .ok (.astore_n 1, 1) := by decide +kernel
theorem dL_law_8 : decode cL_law 8 = .ok (.new 10, 3) := by decide +kernel
theorem dL_law_11 : decode cL_law 11 = .ok (.dup, 1) := by decide +kernel
theorem dL_law_12 : decode cL_law 12 = .ok (.invokespecial 12, 3) := by decide +kernel
theorem dL_law_15 : decode cL_law 15 = .ok (.astore_n 2, 1) := by decide +kernel
theorem dL_law_16 : decode cL_law 16 = .ok (.iconst 0, 1) := by decide +kernel
theorem dL_law_17 : decode cL_law 17 = .ok (.istore_n 3, 1) := by decide +kernel
theorem dL_law_18 : decode cL_law 18 = .ok (.iload_n 3, 1) := by decide +kernel
theorem dL_law_19 : decode cL_law 19 = .ok (.aload_n 0, 1) := by decide +kernel
theorem dL_law_20 : decode cL_law 20 = .ok (.arraylength, 1) := by decide +kernel
theorem dL_law_21 : decode cL_law 21 = .ok (.iconst 4, 1) := by decide +kernel
theorem dL_law_22 : decode cL_law 22 = .ok (.isub, 1) := by decide +kernel
theorem dL_law_23 : decode cL_law 23 = .ok (.if_icmp .gt 422, 3) := by decide +kernel
theorem dL_law_26 : decode cL_law 26 = .ok (.aload_n 0, 1) := by decide +kernel
theorem dL_law_27 : decode cL_law 27 = .ok (.iload_n 3, 1) := by decide +kernel
theorem dL_law_28 : decode cL_law 28 = .ok (.iaload, 1) := by decide +kernel
theorem dL_law_29 : decode cL_law 29 = .ok (.bipush 15, 2) := by decide +kernel
theorem dL_law_31 : decode cL_law 31 = .ok (.iand, 1) := by decide +kernel
theorem dL_law_32 : decode cL_law 32 = .ok (.tableswitch 407 0 12 #[68, 111, 134, 147, 170, 193, 216, 239, 272, 295, 328, 351, 384], 68) := by decide +kernel
theorem dL_law_100 : decode cL_law 100 = .ok (.aload_n 1, 1) := by decide +kernel
theorem dL_law_101 : decode cL_law 101 = .ok (.aload_n 0, 1) := by decide +kernel
theorem dL_law_102 : decode cL_law 102 = .ok (.iload_n 3, 1) := by decide +kernel
theorem dL_law_103 : decode cL_law 103 = .ok (.iconst 1, 1) := by decide +kernel
theorem dL_law_104 : decode cL_law 104 = .ok (.iadd, 1) := by decide +kernel
theorem dL_law_105 : decode cL_law 105 = .ok (.iaload, 1) := by decide +kernel
theorem dL_law_106 : decode cL_law 106 = .ok (.aload_n 0, 1) := by decide +kernel
theorem dL_law_107 : decode cL_law 107 = .ok (.iload_n 3, 1) := by decide +kernel
theorem dL_law_108 : decode cL_law 108 = .ok (.iconst 2, 1) := by decide +kernel
theorem dL_law_109 : decode cL_law 109 = .ok (.iadd, 1) := by decide +kernel
theorem dL_law_110 : decode cL_law 110 = .ok (.iaload, 1) := by decide +kernel
theorem dL_law_111 : decode cL_law 111 = .ok (.aload_n 0, 1) := by decide +kernel
theorem dL_law_112 : decode cL_law 112 = .ok (.iload_n 3, 1) := by decide +kernel
theorem dL_law_113 : decode cL_law 113 = .ok (.iconst 3, 1) := by decide +kernel
theorem dL_law_114 : decode cL_law 114 = .ok (.iadd, 1) := by decide +kernel
theorem dL_law_115 : decode cL_law 115 = .ok (.iaload, 1) := by decide +kernel
theorem dL_law_116 : decode cL_law 116 = .ok (.invokevirtual 13, 3) := by decide +kernel
theorem dL_law_119 : decode cL_law 119 = .ok (.aload_n 2, 1) := by decide +kernel
theorem dL_law_120 : decode cL_law 120 = .ok (.aload_n 0, 1) := by decide +kernel
theorem dL_law_121 : decode cL_law 121 = .ok (.iload_n 3, 1) := by decide +kernel
theorem dL_law_122 : decode cL_law 122 = .ok (.iconst 1, 1) := by decide +kernel
theorem dL_law_123 : decode cL_law 123 = .ok (.iadd, 1) := by decide +kernel
theorem dL_law_124 : decode cL_law 124 = .ok (.iaload, 1) := by decide +kernel
theorem dL_law_125 : decode cL_law 125 = .ok (.aload_n 0, 1) := by decide +kernel
theorem dL_law_126 : decode cL_law 126 = .ok (.iload_n 3, 1) := by decide +kernel
theorem dL_law_127 : decode cL_law 127 = .ok (.iconst 2, 1) := by decide +kernel
theorem dL_law_128 : decode cL_law 128 = .ok (.iadd, 1) := by decide +kernel
theorem dL_law_129 : decode cL_law 129 = .ok (.iaload, 1) := by decide +kernel
theorem dL_law_130 : decode cL_law 130 = .ok (.aload_n 0, 1) := by decide +kernel
theorem dL_law_131 : decode cL_law 131 = .ok (.iload_n 3, 1) := by decide +kernel
theorem dL_law_132 : decode cL_law 132 = .ok (.iconst 3, 1) := by decide +kernel
theorem dL_law_133 : decode cL_law 133 = .ok (.iadd, 1) := by decide +kernel
theorem dL_law_134 : decode cL_law 134 = .ok (.iaload, 1) := by decide +kernel
theorem dL_law_135 : decode cL_law 135 = .ok (.invokevirtual 17, 3) := by decide +kernel
theorem dL_law_138 : decode cL_law 138 = .ok (.if_icmp .eq 301, 3) := by decide +kernel
theorem dL_law_141 : decode cL_law 141 = .ok (.iconst 0, 1) := by decide +kernel
theorem dL_law_142 : decode cL_law 142 = .ok (.ireturn, 1) := by decide +kernel
theorem dL_law_143 : decode cL_law 143 = .ok (.aload_n 1, 1) := by decide +kernel
theorem dL_law_144 : decode cL_law 144 = .ok (.aload_n 0, 1) := by decide +kernel
theorem dL_law_145 : decode cL_law 145 = .ok (.iload_n 3, 1) := by decide +kernel
theorem dL_law_146 : decode cL_law 146 = .ok (.iconst 1, 1) := by decide +kernel
theorem dL_law_147 : decode cL_law 147 = .ok (.iadd, 1) := by decide +kernel
theorem dL_law_148 : decode cL_law 148 = .ok (.iaload, 1) := by decide +kernel
theorem dL_law_149 : decode cL_law 149 = .ok (.invokevirtual 18, 3) := by decide +kernel
theorem dL_law_152 : decode cL_law 152 = .ok (.aload_n 2, 1) := by decide +kernel
theorem dL_law_153 : decode cL_law 153 = .ok (.aload_n 0, 1) := by decide +kernel
theorem dL_law_154 : decode cL_law 154 = .ok (.iload_n 3, 1) := by decide +kernel
theorem dL_law_155 : decode cL_law 155 = .ok (.iconst 1, 1) := by decide +kernel
theorem dL_law_156 : decode cL_law 156 = .ok (.iadd, 1) := by decide +kernel
theorem dL_law_157 : decode cL_law 157 = .ok (.iaload, 1) := by decide +kernel
theorem dL_law_158 : decode cL_law 158 = .ok (.invokevirtual 22, 3) := by decide +kernel
theorem dL_law_161 : decode cL_law 161 = .ok (.if_icmp .eq 278, 3) := by decide +kernel
theorem dL_law_164 : decode cL_law 164 = .ok (.iconst 0, 1) := by decide +kernel
theorem dL_law_165 : decode cL_law 165 = .ok (.ireturn, 1) := by decide +kernel
theorem dL_law_166 : decode cL_law 166 = .ok (.aload_n 1, 1) := by decide +kernel
theorem dL_law_167 : decode cL_law 167 = .ok (.invokevirtual 23, 3) := by decide +kernel
theorem dL_law_170 : decode cL_law 170 = .ok (.aload_n 2, 1) := by decide +kernel
theorem dL_law_171 : decode cL_law 171 = .ok (.invokevirtual 27, 3) := by decide +kernel
theorem dL_law_174 : decode cL_law 174 = .ok (.if_icmp .eq 265, 3) := by decide +kernel
theorem dL_law_177 : decode cL_law 177 = .ok (.iconst 0, 1) := by decide +kernel
theorem dL_law_178 : decode cL_law 178 = .ok (.ireturn, 1) := by decide +kernel
theorem dL_law_179 : decode cL_law 179 = .ok (.aload_n 1, 1) := by decide +kernel
theorem dL_law_180 : decode cL_law 180 = .ok (.aload_n 0, 1) := by decide +kernel
theorem dL_law_181 : decode cL_law 181 = .ok (.iload_n 3, 1) := by decide +kernel
theorem dL_law_182 : decode cL_law 182 = .ok (.iconst 1, 1) := by decide +kernel
theorem dL_law_183 : decode cL_law 183 = .ok (.iadd, 1) := by decide +kernel
theorem dL_law_184 : decode cL_law 184 = .ok (.iaload, 1) := by decide +kernel
theorem dL_law_185 : decode cL_law 185 = .ok (.invokevirtual 28, 3) := by decide +kernel
theorem dL_law_188 : decode cL_law 188 = .ok (.aload_n 2, 1) := by decide +kernel
theorem dL_law_189 : decode cL_law 189 = .ok (.aload_n 0, 1) := by decide +kernel
theorem dL_law_190 : decode cL_law 190 = .ok (.iload_n 3, 1) := by decide +kernel
theorem dL_law_191 : decode cL_law 191 = .ok (.iconst 1, 1) := by decide +kernel
theorem dL_law_192 : decode cL_law 192 = .ok (.iadd, 1) := by decide +kernel
theorem dL_law_193 : decode cL_law 193 = .ok (.iaload, 1) := by decide +kernel
theorem dL_law_194 : decode cL_law 194 = .ok (.invokevirtual 31, 3) := by decide +kernel
theorem dL_law_197 : decode cL_law 197 = .ok (.if_icmp .eq 242, 3) := by decide +kernel
theorem dL_law_200 : decode cL_law 200 = .ok (.iconst 0, 1) := by decide +kernel
theorem dL_law_201 : decode cL_law 201 = .ok (.ireturn, 1) := by decide +kernel
theorem dL_law_202 : decode cL_law 202 = .ok (.aload_n 1, 1) := by decide +kernel
theorem dL_law_203 : decode cL_law 203 = .ok (.aload_n 0, 1) := by decide +kernel
theorem dL_law_204 : decode cL_law 204 = .ok (.iload_n 3, 1) := by decide +kernel
theorem dL_law_205 : decode cL_law 205 = .ok (.iconst 1, 1) := by decide +kernel
theorem dL_law_206 : decode cL_law 206 = .ok (.iadd, 1) := by decide +kernel
theorem dL_law_207 : decode cL_law 207 = .ok (.iaload, 1) := by decide +kernel
theorem dL_law_208 : decode cL_law 208 = .ok (.invokevirtual 32, 3) := by decide +kernel
theorem dL_law_211 : decode cL_law 211 = .ok (.aload_n 2, 1) := by decide +kernel
theorem dL_law_212 : decode cL_law 212 = .ok (.aload_n 0, 1) := by decide +kernel
theorem dL_law_213 : decode cL_law 213 = .ok (.iload_n 3, 1) := by decide +kernel
theorem dL_law_214 : decode cL_law 214 = .ok (.iconst 1, 1) := by decide +kernel
theorem dL_law_215 : decode cL_law 215 = .ok (.iadd, 1) := by decide +kernel
theorem dL_law_216 : decode cL_law 216 = .ok (.iaload, 1) := by decide +kernel
theorem dL_law_217 : decode cL_law 217 = .ok (.invokevirtual 35, 3) := by decide +kernel
theorem dL_law_220 : decode cL_law 220 = .ok (.if_icmp .eq 219, 3) := by decide +kernel
theorem dL_law_223 : decode cL_law 223 = .ok (.iconst 0, 1) := by decide +kernel
theorem dL_law_224 : decode cL_law 224 = .ok (.ireturn, 1) := by decide +kernel
theorem dL_law_225 : decode cL_law 225 = .ok (.aload_n 1, 1) := by decide +kernel
theorem dL_law_226 : decode cL_law 226 = .ok (.aload_n 0, 1) := by decide +kernel
theorem dL_law_227 : decode cL_law 227 = .ok (.iload_n 3, 1) := by decide +kernel
theorem dL_law_228 : decode cL_law 228 = .ok (.iconst 1, 1) := by decide +kernel
theorem dL_law_229 : decode cL_law 229 = .ok (.iadd, 1) := by decide +kernel
theorem dL_law_230 : decode cL_law 230 = .ok (.iaload, 1) := by decide +kernel
theorem dL_law_231 : decode cL_law 231 = .ok (.invokevirtual 36, 3) := by decide +kernel
theorem dL_law_234 : decode cL_law 234 = .ok (.aload_n 2, 1) := by decide +kernel
theorem dL_law_235 : decode cL_law 235 = .ok (.aload_n 0, 1) := by decide +kernel
theorem dL_law_236 : decode cL_law 236 = .ok (.iload_n 3, 1) := by decide +kernel
theorem dL_law_237 : decode cL_law 237 = .ok (.iconst 1, 1) := by decide +kernel
theorem dL_law_238 : decode cL_law 238 = .ok (.iadd, 1) := by decide +kernel
theorem dL_law_239 : decode cL_law 239 = .ok (.iaload, 1) := by decide +kernel
theorem dL_law_240 : decode cL_law 240 = .ok (.invokevirtual 39, 3) := by decide +kernel
theorem dL_law_243 : decode cL_law 243 = .ok (.if_icmp .eq 196, 3) := by decide +kernel
theorem dL_law_246 : decode cL_law 246 = .ok (.iconst 0, 1) := by decide +kernel
theorem dL_law_247 : decode cL_law 247 = .ok (.ireturn, 1) := by decide +kernel
theorem dL_law_248 : decode cL_law 248 = .ok (.aload_n 1, 1) := by decide +kernel
theorem dL_law_249 : decode cL_law 249 = .ok (.aload_n 0, 1) := by decide +kernel
theorem dL_law_250 : decode cL_law 250 = .ok (.iload_n 3, 1) := by decide +kernel
theorem dL_law_251 : decode cL_law 251 = .ok (.iconst 1, 1) := by decide +kernel
theorem dL_law_252 : decode cL_law 252 = .ok (.iadd, 1) := by decide +kernel
theorem dL_law_253 : decode cL_law 253 = .ok (.iaload, 1) := by decide +kernel
theorem dL_law_254 : decode cL_law 254 = .ok (.invokevirtual 40, 3) := by decide +kernel
theorem dL_law_257 : decode cL_law 257 = .ok (.aload_n 2, 1) := by decide +kernel
theorem dL_law_258 : decode cL_law 258 = .ok (.aload_n 0, 1) := by decide +kernel
theorem dL_law_259 : decode cL_law 259 = .ok (.iload_n 3, 1) := by decide +kernel
theorem dL_law_260 : decode cL_law 260 = .ok (.iconst 1, 1) := by decide +kernel
theorem dL_law_261 : decode cL_law 261 = .ok (.iadd, 1) := by decide +kernel
theorem dL_law_262 : decode cL_law 262 = .ok (.iaload, 1) := by decide +kernel
theorem dL_law_263 : decode cL_law 263 = .ok (.invokevirtual 44, 3) := by decide +kernel
theorem dL_law_266 : decode cL_law 266 = .ok (.if_icmp .eq 173, 3) := by decide +kernel
theorem dL_law_269 : decode cL_law 269 = .ok (.iconst 0, 1) := by decide +kernel
theorem dL_law_270 : decode cL_law 270 = .ok (.ireturn, 1) := by decide +kernel
theorem dL_law_271 : decode cL_law 271 = .ok (.aload_n 1, 1) := by decide +kernel
theorem dL_law_272 : decode cL_law 272 = .ok (.aload_n 0, 1) := by decide +kernel
theorem dL_law_273 : decode cL_law 273 = .ok (.iload_n 3, 1) := by decide +kernel
theorem dL_law_274 : decode cL_law 274 = .ok (.iconst 1, 1) := by decide +kernel
theorem dL_law_275 : decode cL_law 275 = .ok (.iadd, 1) := by decide +kernel
theorem dL_law_276 : decode cL_law 276 = .ok (.iaload, 1) := by decide +kernel
theorem dL_law_277 : decode cL_law 277 = .ok (.aload_n 0, 1) := by decide +kernel
theorem dL_law_278 : decode cL_law 278 = .ok (.iload_n 3, 1) := by decide +kernel
theorem dL_law_279 : decode cL_law 279 = .ok (.iconst 2, 1) := by decide +kernel
theorem dL_law_280 : decode cL_law 280 = .ok (.iadd, 1) := by decide +kernel
theorem dL_law_281 : decode cL_law 281 = .ok (.iaload, 1) := by decide +kernel
theorem dL_law_282 : decode cL_law 282 = .ok (.invokevirtual 45, 3) := by decide +kernel
theorem dL_law_285 : decode cL_law 285 = .ok (.aload_n 2, 1) := by decide +kernel
theorem dL_law_286 : decode cL_law 286 = .ok (.aload_n 0, 1) := by decide +kernel
theorem dL_law_287 : decode cL_law 287 = .ok (.iload_n 3, 1) := by decide +kernel
theorem dL_law_288 : decode cL_law 288 = .ok (.iconst 1, 1) := by decide +kernel
theorem dL_law_289 : decode cL_law 289 = .ok (.iadd, 1) := by decide +kernel
theorem dL_law_290 : decode cL_law 290 = .ok (.iaload, 1) := by decide +kernel
theorem dL_law_291 : decode cL_law 291 = .ok (.aload_n 0, 1) := by decide +kernel
theorem dL_law_292 : decode cL_law 292 = .ok (.iload_n 3, 1) := by decide +kernel
theorem dL_law_293 : decode cL_law 293 = .ok (.iconst 2, 1) := by decide +kernel
theorem dL_law_294 : decode cL_law 294 = .ok (.iadd, 1) := by decide +kernel
theorem dL_law_295 : decode cL_law 295 = .ok (.iaload, 1) := by decide +kernel
theorem dL_law_296 : decode cL_law 296 = .ok (.invokevirtual 49, 3) := by decide +kernel
theorem dL_law_299 : decode cL_law 299 = .ok (.if_icmp .eq 140, 3) := by decide +kernel
theorem dL_law_302 : decode cL_law 302 = .ok (.iconst 0, 1) := by decide +kernel
theorem dL_law_303 : decode cL_law 303 = .ok (.ireturn, 1) := by decide +kernel
theorem dL_law_304 : decode cL_law 304 = .ok (.aload_n 1, 1) := by decide +kernel
theorem dL_law_305 : decode cL_law 305 = .ok (.aload_n 0, 1) := by decide +kernel
theorem dL_law_306 : decode cL_law 306 = .ok (.iload_n 3, 1) := by decide +kernel
theorem dL_law_307 : decode cL_law 307 = .ok (.iconst 1, 1) := by decide +kernel
theorem dL_law_308 : decode cL_law 308 = .ok (.iadd, 1) := by decide +kernel
theorem dL_law_309 : decode cL_law 309 = .ok (.iaload, 1) := by decide +kernel
theorem dL_law_310 : decode cL_law 310 = .ok (.invokevirtual 50, 3) := by decide +kernel
theorem dL_law_313 : decode cL_law 313 = .ok (.aload_n 2, 1) := by decide +kernel
theorem dL_law_314 : decode cL_law 314 = .ok (.aload_n 0, 1) := by decide +kernel
theorem dL_law_315 : decode cL_law 315 = .ok (.iload_n 3, 1) := by decide +kernel
theorem dL_law_316 : decode cL_law 316 = .ok (.iconst 1, 1) := by decide +kernel
theorem dL_law_317 : decode cL_law 317 = .ok (.iadd, 1) := by decide +kernel
theorem dL_law_318 : decode cL_law 318 = .ok (.iaload, 1) := by decide +kernel
theorem dL_law_319 : decode cL_law 319 = .ok (.invokevirtual 53, 3) := by decide +kernel
theorem dL_law_322 : decode cL_law 322 = .ok (.if_icmp .eq 117, 3) := by decide +kernel
theorem dL_law_325 : decode cL_law 325 = .ok (.iconst 0, 1) := by decide +kernel
theorem dL_law_326 : decode cL_law 326 = .ok (.ireturn, 1) := by decide +kernel
theorem dL_law_327 : decode cL_law 327 = .ok (.aload_n 1, 1) := by decide +kernel
theorem dL_law_328 : decode cL_law 328 = .ok (.aload_n 0, 1) := by decide +kernel
theorem dL_law_329 : decode cL_law 329 = .ok (.iload_n 3, 1) := by decide +kernel
theorem dL_law_330 : decode cL_law 330 = .ok (.iconst 1, 1) := by decide +kernel
theorem dL_law_331 : decode cL_law 331 = .ok (.iadd, 1) := by decide +kernel
theorem dL_law_332 : decode cL_law 332 = .ok (.iaload, 1) := by decide +kernel
theorem dL_law_333 : decode cL_law 333 = .ok (.aload_n 0, 1) := by decide +kernel
theorem dL_law_334 : decode cL_law 334 = .ok (.iload_n 3, 1) := by decide +kernel
theorem dL_law_335 : decode cL_law 335 = .ok (.iconst 2, 1) := by decide +kernel
theorem dL_law_336 : decode cL_law 336 = .ok (.iadd, 1) := by decide +kernel
theorem dL_law_337 : decode cL_law 337 = .ok (.iaload, 1) := by decide +kernel
theorem dL_law_338 : decode cL_law 338 = .ok (.invokevirtual 54, 3) := by decide +kernel
theorem dL_law_341 : decode cL_law 341 = .ok (.aload_n 2, 1) := by decide +kernel
theorem dL_law_342 : decode cL_law 342 = .ok (.aload_n 0, 1) := by decide +kernel
theorem dL_law_343 : decode cL_law 343 = .ok (.iload_n 3, 1) := by decide +kernel
theorem dL_law_344 : decode cL_law 344 = .ok (.iconst 1, 1) := by decide +kernel
theorem dL_law_345 : decode cL_law 345 = .ok (.iadd, 1) := by decide +kernel
theorem dL_law_346 : decode cL_law 346 = .ok (.iaload, 1) := by decide +kernel
theorem dL_law_347 : decode cL_law 347 = .ok (.aload_n 0, 1) := by decide +kernel
theorem dL_law_348 : decode cL_law 348 = .ok (.iload_n 3, 1) := by decide +kernel
theorem dL_law_349 : decode cL_law 349 = .ok (.iconst 2, 1) := by decide +kernel
theorem dL_law_350 : decode cL_law 350 = .ok (.iadd, 1) := by decide +kernel
theorem dL_law_351 : decode cL_law 351 = .ok (.iaload, 1) := by decide +kernel
theorem dL_law_352 : decode cL_law 352 = .ok (.invokevirtual 57, 3) := by decide +kernel
theorem dL_law_355 : decode cL_law 355 = .ok (.if_icmp .eq 84, 3) := by decide +kernel
theorem dL_law_358 : decode cL_law 358 = .ok (.iconst 0, 1) := by decide +kernel
theorem dL_law_359 : decode cL_law 359 = .ok (.ireturn, 1) := by decide +kernel
theorem dL_law_360 : decode cL_law 360 = .ok (.aload_n 1, 1) := by decide +kernel
theorem dL_law_361 : decode cL_law 361 = .ok (.aload_n 0, 1) := by decide +kernel
theorem dL_law_362 : decode cL_law 362 = .ok (.iload_n 3, 1) := by decide +kernel
theorem dL_law_363 : decode cL_law 363 = .ok (.iconst 1, 1) := by decide +kernel
theorem dL_law_364 : decode cL_law 364 = .ok (.iadd, 1) := by decide +kernel
theorem dL_law_365 : decode cL_law 365 = .ok (.iaload, 1) := by decide +kernel
theorem dL_law_366 : decode cL_law 366 = .ok (.invokevirtual 58, 3) := by decide +kernel
theorem dL_law_369 : decode cL_law 369 = .ok (.aload_n 2, 1) := by decide +kernel
theorem dL_law_370 : decode cL_law 370 = .ok (.aload_n 0, 1) := by decide +kernel
theorem dL_law_371 : decode cL_law 371 = .ok (.iload_n 3, 1) := by decide +kernel
theorem dL_law_372 : decode cL_law 372 = .ok (.iconst 1, 1) := by decide +kernel
theorem dL_law_373 : decode cL_law 373 = .ok (.iadd, 1) := by decide +kernel
theorem dL_law_374 : decode cL_law 374 = .ok (.iaload, 1) := by decide +kernel
theorem dL_law_375 : decode cL_law 375 = .ok (.invokevirtual 61, 3) := by decide +kernel
theorem dL_law_378 : decode cL_law 378 = .ok (.if_icmp .eq 61, 3) := by decide +kernel
theorem dL_law_381 : decode cL_law 381 = .ok (.iconst 0, 1) := by decide +kernel
theorem dL_law_382 : decode cL_law 382 = .ok (.ireturn, 1) := by decide +kernel
theorem dL_law_383 : decode cL_law 383 = .ok (.aload_n 1, 1) := by decide +kernel
theorem dL_law_384 : decode cL_law 384 = .ok (.aload_n 0, 1) := by decide +kernel
theorem dL_law_385 : decode cL_law 385 = .ok (.iload_n 3, 1) := by decide +kernel
theorem dL_law_386 : decode cL_law 386 = .ok (.iconst 1, 1) := by decide +kernel
theorem dL_law_387 : decode cL_law 387 = .ok (.iadd, 1) := by decide +kernel
theorem dL_law_388 : decode cL_law 388 = .ok (.iaload, 1) := by decide +kernel
theorem dL_law_389 : decode cL_law 389 = .ok (.aload_n 0, 1) := by decide +kernel
theorem dL_law_390 : decode cL_law 390 = .ok (.iload_n 3, 1) := by decide +kernel
theorem dL_law_391 : decode cL_law 391 = .ok (.iconst 2, 1) := by decide +kernel
theorem dL_law_392 : decode cL_law 392 = .ok (.iadd, 1) := by decide +kernel
theorem dL_law_393 : decode cL_law 393 = .ok (.iaload, 1) := by decide +kernel
theorem dL_law_394 : decode cL_law 394 = .ok (.invokevirtual 62, 3) := by decide +kernel
theorem dL_law_397 : decode cL_law 397 = .ok (.aload_n 2, 1) := by decide +kernel
theorem dL_law_398 : decode cL_law 398 = .ok (.aload_n 0, 1) := by decide +kernel
theorem dL_law_399 : decode cL_law 399 = .ok (.iload_n 3, 1) := by decide +kernel
theorem dL_law_400 : decode cL_law 400 = .ok (.iconst 1, 1) := by decide +kernel
theorem dL_law_401 : decode cL_law 401 = .ok (.iadd, 1) := by decide +kernel
theorem dL_law_402 : decode cL_law 402 = .ok (.iaload, 1) := by decide +kernel
theorem dL_law_403 : decode cL_law 403 = .ok (.aload_n 0, 1) := by decide +kernel
theorem dL_law_404 : decode cL_law 404 = .ok (.iload_n 3, 1) := by decide +kernel
theorem dL_law_405 : decode cL_law 405 = .ok (.iconst 2, 1) := by decide +kernel
theorem dL_law_406 : decode cL_law 406 = .ok (.iadd, 1) := by decide +kernel
theorem dL_law_407 : decode cL_law 407 = .ok (.iaload, 1) := by decide +kernel
theorem dL_law_408 : decode cL_law 408 = .ok (.invokevirtual 65, 3) := by decide +kernel
theorem dL_law_411 : decode cL_law 411 = .ok (.if_icmp .eq 28, 3) := by decide +kernel
theorem dL_law_414 : decode cL_law 414 = .ok (.iconst 0, 1) := by decide +kernel
theorem dL_law_415 : decode cL_law 415 = .ok (.ireturn, 1) := by decide +kernel
theorem dL_law_416 : decode cL_law 416 = .ok (.aload_n 1, 1) := by decide +kernel
theorem dL_law_417 : decode cL_law 417 = .ok (.aload_n 0, 1) := by decide +kernel
theorem dL_law_418 : decode cL_law 418 = .ok (.iload_n 3, 1) := by decide +kernel
theorem dL_law_419 : decode cL_law 419 = .ok (.iconst 1, 1) := by decide +kernel
theorem dL_law_420 : decode cL_law 420 = .ok (.iadd, 1) := by decide +kernel
theorem dL_law_421 : decode cL_law 421 = .ok (.iaload, 1) := by decide +kernel
theorem dL_law_422 : decode cL_law 422 = .ok (.invokevirtual 66, 3) := by decide +kernel
theorem dL_law_425 : decode cL_law 425 = .ok (.aload_n 2, 1) := by decide +kernel
theorem dL_law_426 : decode cL_law 426 = .ok (.aload_n 0, 1) := by decide +kernel
theorem dL_law_427 : decode cL_law 427 = .ok (.iload_n 3, 1) := by decide +kernel
theorem dL_law_428 : decode cL_law 428 = .ok (.iconst 1, 1) := by decide +kernel
theorem dL_law_429 : decode cL_law 429 = .ok (.iadd, 1) := by decide +kernel
theorem dL_law_430 : decode cL_law 430 = .ok (.iaload, 1) := by decide +kernel
theorem dL_law_431 : decode cL_law 431 = .ok (.invokevirtual 69, 3) := by decide +kernel
theorem dL_law_434 : decode cL_law 434 = .ok (.if_icmp .eq 5, 3) := by decide +kernel
theorem dL_law_437 : decode cL_law 437 = .ok (.iconst 0, 1) := by decide +kernel
theorem dL_law_438 : decode cL_law 438 = .ok (.ireturn, 1) := by decide +kernel
theorem dL_law_439 : decode cL_law 439 = .ok (.iinc 3 4, 3) := by decide +kernel
theorem dL_law_442 : decode cL_law 442 = .ok (.goto (-424), 3) := by decide +kernel
theorem dL_law_445 : decode cL_law 445 = .ok (.iconst 1, 1) := by decide +kernel
theorem dL_law_446 : decode cL_law 446 = .ok (.ireturn, 1) := by decide +kernel
abbrev vwCl : List vw_C := [(RX0, TX0, 7), (RX1, TX1, 5)]
