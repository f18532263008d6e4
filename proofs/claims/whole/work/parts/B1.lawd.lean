/-! the law: its instructions -/
theorem dL_law_0 : decode cL_law 0 = .ok (.new 8, 3) := by decide +kernel
theorem dL_law_3 : decode cL_law 3 = .ok (.dup, 1) := by decide +kernel
theorem dL_law_4 : decode cL_law 4 = .ok (.invokespecial 15, 3) := by decide +kernel
theorem dL_law_7 : decode cL_law 7 = .ok (.astore_n 1, 1) := by decide +kernel
theorem dL_law_8 : decode cL_law 8 = .ok (.new 16, 3) := by decide +kernel
theorem dL_law_11 : decode cL_law 11 = .ok (.dup, 1) := by decide +kernel
theorem dL_law_12 : decode cL_law 12 = .ok (.invokespecial 18, 3) := by decide +kernel
theorem dL_law_15 : decode cL_law 15 = .ok (.astore_n 2, 1) := by decide +kernel
theorem dL_law_16 : decode cL_law 16 = .ok (.iconst 1, 1) := by decide +kernel
theorem dL_law_17 : decode cL_law 17 = .ok (.newarray .long, 2) := by decide +kernel
theorem dL_law_19 : decode cL_law 19 = .ok (.astore_n 3, 1) := by decide +kernel
theorem dL_law_20 : decode cL_law 20 = .ok (.iconst 0, 1) := by decide +kernel
theorem dL_law_21 : decode cL_law 21 = .ok (.istore 4, 2) := by decide +kernel
theorem dL_law_23 : decode cL_law 23 = .ok (.iload 4, 2) := by decide +kernel
theorem dL_law_25 : decode cL_law 25 = .ok (.aload_n 0, 1) := by decide +kernel
theorem dL_law_26 : decode cL_law 26 = .ok (.arraylength, 1) := by decide +kernel
theorem dL_law_27 : decode cL_law 27 = .ok (.bipush 7, 2) := by decide +kernel
theorem dL_law_29 : decode cL_law 29 = .ok (.isub, 1) := by decide +kernel
theorem dL_law_30 : decode cL_law 30 = .ok (.if_icmp .gt 2339, 3) := by decide +kernel
theorem dL_law_33 : decode cL_law 33 = .ok (.aload_n 0, 1) := by decide +kernel
theorem dL_law_34 : decode cL_law 34 = .ok (.iload 4, 2) := by decide +kernel
theorem dL_law_36 : decode cL_law 36 = .ok (.iaload, 1) := by decide +kernel
theorem dL_law_37 : decode cL_law 37 = .ok (.bipush 63, 2) := by decide +kernel
theorem dL_law_39 : decode cL_law 39 = .ok (.iand, 1) := by decide +kernel
theorem dL_law_40 : decode cL_law 40 = .ok (.tableswitch 2323 0 41 #[184, 257, 282, 307, 332, 369, 437, 486, 523, 584, 657, 730, 817, 890, 951, 976, 1013, 1062, 1099, 1168, 1193, 1206, 1243, 1330, 1403, 1476, 1537, 1624, 1685, 1734, 1807, 1868, 1941, 2002, 2063, 2136, 2185, 2222, 2247, 2272, 2285, 2298], 184) := by decide +kernel
theorem dL_law_224 : decode cL_law 224 = .ok (.aload_n 1, 1) := by decide +kernel
theorem dL_law_225 : decode cL_law 225 = .ok (.aload_n 0, 1) := by decide +kernel
theorem dL_law_226 : decode cL_law 226 = .ok (.iload 4, 2) := by decide +kernel
theorem dL_law_228 : decode cL_law 228 = .ok (.iconst 1, 1) := by decide +kernel
theorem dL_law_229 : decode cL_law 229 = .ok (.iadd, 1) := by decide +kernel
theorem dL_law_230 : decode cL_law 230 = .ok (.iaload, 1) := by decide +kernel
theorem dL_law_231 : decode cL_law 231 = .ok (.aload_n 0, 1) := by decide +kernel
theorem dL_law_232 : decode cL_law 232 = .ok (.iload 4, 2) := by decide +kernel
theorem dL_law_234 : decode cL_law 234 = .ok (.iconst 2, 1) := by decide +kernel
theorem dL_law_235 : decode cL_law 235 = .ok (.iadd, 1) := by decide +kernel
theorem dL_law_236 : decode cL_law 236 = .ok (.iaload, 1) := by decide +kernel
theorem dL_law_237 : decode cL_law 237 = .ok (.aload_n 0, 1) := by decide +kernel
theorem dL_law_238 : decode cL_law 238 = .ok (.iload 4, 2) := by decide +kernel
theorem dL_law_240 : decode cL_law 240 = .ok (.iconst 3, 1) := by decide +kernel
theorem dL_law_241 : decode cL_law 241 = .ok (.iadd, 1) := by decide +kernel
theorem dL_law_242 : decode cL_law 242 = .ok (.iaload, 1) := by decide +kernel
theorem dL_law_243 : decode cL_law 243 = .ok (.aload_n 0, 1) := by decide +kernel
theorem dL_law_244 : decode cL_law 244 = .ok (.iload 4, 2) := by decide +kernel
theorem dL_law_246 : decode cL_law 246 = .ok (.iconst 4, 1) := by decide +kernel
theorem dL_law_247 : decode cL_law 247 = .ok (.iadd, 1) := by decide +kernel
theorem dL_law_248 : decode cL_law 248 = .ok (.iaload, 1) := by decide +kernel
theorem dL_law_249 : decode cL_law 249 = .ok (.aload_n 0, 1) := by decide +kernel
theorem dL_law_250 : decode cL_law 250 = .ok (.iload 4, 2) := by decide +kernel
theorem dL_law_252 : decode cL_law 252 = .ok (.iconst 5, 1) := by decide +kernel
theorem dL_law_253 : decode cL_law 253 = .ok (.iadd, 1) := by decide +kernel
theorem dL_law_254 : decode cL_law 254 = .ok (.iaload, 1) := by decide +kernel
theorem dL_law_255 : decode cL_law 255 = .ok (.invokevirtual 19, 3) := by decide +kernel
theorem dL_law_258 : decode cL_law 258 = .ok (.aload_n 2, 1) := by decide +kernel
theorem dL_law_259 : decode cL_law 259 = .ok (.aload_n 0, 1) := by decide +kernel
theorem dL_law_260 : decode cL_law 260 = .ok (.iload 4, 2) := by decide +kernel
theorem dL_law_262 : decode cL_law 262 = .ok (.iconst 1, 1) := by decide +kernel
theorem dL_law_263 : decode cL_law 263 = .ok (.iadd, 1) := by decide +kernel
theorem dL_law_264 : decode cL_law 264 = .ok (.iaload, 1) := by decide +kernel
theorem dL_law_265 : decode cL_law 265 = .ok (.aload_n 0, 1) := by decide +kernel
theorem dL_law_266 : decode cL_law 266 = .ok (.iload 4, 2) := by decide +kernel
theorem dL_law_268 : decode cL_law 268 = .ok (.iconst 2, 1) := by decide +kernel
theorem dL_law_269 : decode cL_law 269 = .ok (.iadd, 1) := by decide +kernel
theorem dL_law_270 : decode cL_law 270 = .ok (.iaload, 1) := by decide +kernel
theorem dL_law_271 : decode cL_law 271 = .ok (.aload_n 0, 1) := by decide +kernel
theorem dL_law_272 : decode cL_law 272 = .ok (.iload 4, 2) := by decide +kernel
theorem dL_law_274 : decode cL_law 274 = .ok (.iconst 3, 1) := by decide +kernel
theorem dL_law_275 : decode cL_law 275 = .ok (.iadd, 1) := by decide +kernel
theorem dL_law_276 : decode cL_law 276 = .ok (.iaload, 1) := by decide +kernel
theorem dL_law_277 : decode cL_law 277 = .ok (.aload_n 0, 1) := by decide +kernel
theorem dL_law_278 : decode cL_law 278 = .ok (.iload 4, 2) := by decide +kernel
theorem dL_law_280 : decode cL_law 280 = .ok (.iconst 4, 1) := by decide +kernel
theorem dL_law_281 : decode cL_law 281 = .ok (.iadd, 1) := by decide +kernel
theorem dL_law_282 : decode cL_law 282 = .ok (.iaload, 1) := by decide +kernel
theorem dL_law_283 : decode cL_law 283 = .ok (.aload_n 0, 1) := by decide +kernel
theorem dL_law_284 : decode cL_law 284 = .ok (.iload 4, 2) := by decide +kernel
theorem dL_law_286 : decode cL_law 286 = .ok (.iconst 5, 1) := by decide +kernel
theorem dL_law_287 : decode cL_law 287 = .ok (.iadd, 1) := by decide +kernel
theorem dL_law_288 : decode cL_law 288 = .ok (.iaload, 1) := by decide +kernel
theorem dL_law_289 : decode cL_law 289 = .ok (.invokevirtual 23, 3) := by decide +kernel
theorem dL_law_292 : decode cL_law 292 = .ok (.if_icmp .eq 2071, 3) := by decide +kernel
theorem dL_law_295 : decode cL_law 295 = .ok (.iconst 0, 1) := by decide +kernel
theorem dL_law_296 : decode cL_law 296 = .ok (.ireturn, 1) := by decide +kernel
theorem dL_law_297 : decode cL_law 297 = .ok (.aload_n 1, 1) := by decide +kernel
theorem dL_law_298 : decode cL_law 298 = .ok (.aload_n 0, 1) := by decide +kernel
theorem dL_law_299 : decode cL_law 299 = .ok (.iload 4, 2) := by decide +kernel
theorem dL_law_301 : decode cL_law 301 = .ok (.iconst 1, 1) := by decide +kernel
theorem dL_law_302 : decode cL_law 302 = .ok (.iadd, 1) := by decide +kernel
theorem dL_law_303 : decode cL_law 303 = .ok (.iaload, 1) := by decide +kernel
theorem dL_law_304 : decode cL_law 304 = .ok (.invokevirtual 24, 3) := by decide +kernel
theorem dL_law_307 : decode cL_law 307 = .ok (.aload_n 2, 1) := by decide +kernel
theorem dL_law_308 : decode cL_law 308 = .ok (.aload_n 0, 1) := by decide +kernel
theorem dL_law_309 : decode cL_law 309 = .ok (.iload 4, 2) := by decide +kernel
theorem dL_law_311 : decode cL_law 311 = .ok (.iconst 1, 1) := by decide +kernel
theorem dL_law_312 : decode cL_law 312 = .ok (.iadd, 1) := by decide +kernel
theorem dL_law_313 : decode cL_law 313 = .ok (.iaload, 1) := by decide +kernel
theorem dL_law_314 : decode cL_law 314 = .ok (.invokevirtual 28, 3) := by decide +kernel
theorem dL_law_317 : decode cL_law 317 = .ok (.if_icmp .eq 2046, 3) := by decide +kernel
theorem dL_law_320 : decode cL_law 320 = .ok (.iconst 0, 1) := by decide +kernel
theorem dL_law_321 : decode cL_law 321 = .ok (.ireturn, 1) := by decide +kernel
theorem dL_law_322 : decode cL_law 322 = .ok (.aload_n 1, 1) := by decide +kernel
theorem dL_law_323 : decode cL_law 323 = .ok (.aload_n 0, 1) := by decide +kernel
theorem dL_law_324 : decode cL_law 324 = .ok (.iload 4, 2) := by decide +kernel
theorem dL_law_326 : decode cL_law 326 = .ok (.iconst 1, 1) := by decide +kernel
theorem dL_law_327 : decode cL_law 327 = .ok (.iadd, 1) := by decide +kernel
theorem dL_law_328 : decode cL_law 328 = .ok (.iaload, 1) := by decide +kernel
theorem dL_law_329 : decode cL_law 329 = .ok (.invokevirtual 29, 3) := by decide +kernel
theorem dL_law_332 : decode cL_law 332 = .ok (.aload_n 2, 1) := by decide +kernel
theorem dL_law_333 : decode cL_law 333 = .ok (.aload_n 0, 1) := by decide +kernel
theorem dL_law_334 : decode cL_law 334 = .ok (.iload 4, 2) := by decide +kernel
theorem dL_law_336 : decode cL_law 336 = .ok (.iconst 1, 1) := by decide +kernel
theorem dL_law_337 : decode cL_law 337 = .ok (.iadd, 1) := by decide +kernel
theorem dL_law_338 : decode cL_law 338 = .ok (.iaload, 1) := by decide +kernel
theorem dL_law_339 : decode cL_law 339 = .ok (.invokevirtual 33, 3) := by decide +kernel
theorem dL_law_342 : decode cL_law 342 = .ok (.if_icmp .eq 2021, 3) := by decide +kernel
theorem dL_law_345 : decode cL_law 345 = .ok (.iconst 0, 1) := by decide +kernel
theorem dL_law_346 : decode cL_law 346 = .ok (.ireturn, 1) := by decide +kernel
theorem dL_law_347 : decode cL_law 347 = .ok (.aload_n 1, 1) := by decide +kernel
theorem dL_law_348 : decode cL_law 348 = .ok (.aload_n 0, 1) := by decide +kernel
theorem dL_law_349 : decode cL_law 349 = .ok (.iload 4, 2) := by decide +kernel
theorem dL_law_351 : decode cL_law 351 = .ok (.iconst 1, 1) := by decide +kernel
theorem dL_law_352 : decode cL_law 352 = .ok (.iadd, 1) := by decide +kernel
theorem dL_law_353 : decode cL_law 353 = .ok (.iaload, 1) := by decide +kernel
theorem dL_law_354 : decode cL_law 354 = .ok (.invokevirtual 34, 3) := by decide +kernel
theorem dL_law_357 : decode cL_law 357 = .ok (.aload_n 2, 1) := by decide +kernel
theorem dL_law_358 : decode cL_law 358 = .ok (.aload_n 0, 1) := by decide +kernel
theorem dL_law_359 : decode cL_law 359 = .ok (.iload 4, 2) := by decide +kernel
theorem dL_law_361 : decode cL_law 361 = .ok (.iconst 1, 1) := by decide +kernel
theorem dL_law_362 : decode cL_law 362 = .ok (.iadd, 1) := by decide +kernel
theorem dL_law_363 : decode cL_law 363 = .ok (.iaload, 1) := by decide +kernel
theorem dL_law_364 : decode cL_law 364 = .ok (.invokevirtual 37, 3) := by decide +kernel
theorem dL_law_367 : decode cL_law 367 = .ok (.if_icmp .eq 1996, 3) := by decide +kernel
theorem dL_law_370 : decode cL_law 370 = .ok (.iconst 0, 1) := by decide +kernel
theorem dL_law_371 : decode cL_law 371 = .ok (.ireturn, 1) := by decide +kernel
theorem dL_law_372 : decode cL_law 372 = .ok (.aload_n 1, 1) := by decide +kernel
theorem dL_law_373 : decode cL_law 373 = .ok (.aload_n 0, 1) := by decide +kernel
theorem dL_law_374 : decode cL_law 374 = .ok (.iload 4, 2) := by decide +kernel
theorem dL_law_376 : decode cL_law 376 = .ok (.iconst 1, 1) := by decide +kernel
theorem dL_law_377 : decode cL_law 377 = .ok (.iadd, 1) := by decide +kernel
theorem dL_law_378 : decode cL_law 378 = .ok (.iaload, 1) := by decide +kernel
theorem dL_law_379 : decode cL_law 379 = .ok (.aload_n 0, 1) := by decide +kernel
theorem dL_law_380 : decode cL_law 380 = .ok (.iload 4, 2) := by decide +kernel
theorem dL_law_382 : decode cL_law 382 = .ok (.iconst 2, 1) := by decide +kernel
theorem dL_law_383 : decode cL_law 383 = .ok (.iadd, 1) := by decide +kernel
theorem dL_law_384 : decode cL_law 384 = .ok (.iaload, 1) := by decide +kernel
theorem dL_law_385 : decode cL_law 385 = .ok (.invokevirtual 38, 3) := by decide +kernel
theorem dL_law_388 : decode cL_law 388 = .ok (.aload_n 2, 1) := by decide +kernel
theorem dL_law_389 : decode cL_law 389 = .ok (.aload_n 0, 1) := by decide +kernel
theorem dL_law_390 : decode cL_law 390 = .ok (.iload 4, 2) := by decide +kernel
theorem dL_law_392 : decode cL_law 392 = .ok (.iconst 1, 1) := by decide +kernel
theorem dL_law_393 : decode cL_law 393 = .ok (.iadd, 1) := by decide +kernel
theorem dL_law_394 : decode cL_law 394 = .ok (.iaload, 1) := by decide +kernel
theorem dL_law_395 : decode cL_law 395 = .ok (.aload_n 0, 1) := by decide +kernel
theorem dL_law_396 : decode cL_law 396 = .ok (.iload 4, 2) := by decide +kernel
theorem dL_law_398 : decode cL_law 398 = .ok (.iconst 2, 1) := by decide +kernel
theorem dL_law_399 : decode cL_law 399 = .ok (.iadd, 1) := by decide +kernel
theorem dL_law_400 : decode cL_law 400 = .ok (.iaload, 1) := by decide +kernel
theorem dL_law_401 : decode cL_law 401 = .ok (.invokevirtual 41, 3) := by decide +kernel
theorem dL_law_404 : decode cL_law 404 = .ok (.if_icmp .eq 1959, 3) := by decide +kernel
theorem dL_law_407 : decode cL_law 407 = .ok (.iconst 0, 1) := by decide +kernel
theorem dL_law_408 : decode cL_law 408 = .ok (.ireturn, 1) := by decide +kernel
theorem dL_law_409 : decode cL_law 409 = .ok (.aload_n 1, 1) := by decide +kernel
theorem dL_law_410 : decode cL_law 410 = .ok (.aload_n 0, 1) := by decide +kernel
theorem dL_law_411 : decode cL_law 411 = .ok (.iload 4, 2) := by decide +kernel
theorem dL_law_413 : decode cL_law 413 = .ok (.iconst 1, 1) := by decide +kernel
theorem dL_law_414 : decode cL_law 414 = .ok (.iadd, 1) := by decide +kernel
theorem dL_law_415 : decode cL_law 415 = .ok (.iaload, 1) := by decide +kernel
theorem dL_law_416 : decode cL_law 416 = .ok (.aload_n 0, 1) := by decide +kernel
theorem dL_law_417 : decode cL_law 417 = .ok (.iload 4, 2) := by decide +kernel
theorem dL_law_419 : decode cL_law 419 = .ok (.iconst 2, 1) := by decide +kernel
theorem dL_law_420 : decode cL_law 420 = .ok (.iadd, 1) := by decide +kernel
theorem dL_law_421 : decode cL_law 421 = .ok (.iaload, 1) := by decide +kernel
theorem dL_law_422 : decode cL_law 422 = .ok (.aload_n 3, 1) := by decide +kernel
theorem dL_law_423 : decode cL_law 423 = .ok (.invokestatic 42, 3) := by decide +kernel
theorem dL_law_426 : decode cL_law 426 = .ok (.istore 5, 2) := by decide +kernel
theorem dL_law_428 : decode cL_law 428 = .ok (.aload_n 2, 1) := by decide +kernel
theorem dL_law_429 : decode cL_law 429 = .ok (.aload_n 0, 1) := by decide +kernel
theorem dL_law_430 : decode cL_law 430 = .ok (.iload 4, 2) := by decide +kernel
theorem dL_law_432 : decode cL_law 432 = .ok (.iconst 1, 1) := by decide +kernel
theorem dL_law_433 : decode cL_law 433 = .ok (.iadd, 1) := by decide +kernel
theorem dL_law_434 : decode cL_law 434 = .ok (.iaload, 1) := by decide +kernel
theorem dL_law_435 : decode cL_law 435 = .ok (.aload_n 0, 1) := by decide +kernel
theorem dL_law_436 : decode cL_law 436 = .ok (.iload 4, 2) := by decide +kernel
theorem dL_law_438 : decode cL_law 438 = .ok (.iconst 2, 1) := by decide +kernel
theorem dL_law_439 : decode cL_law 439 = .ok (.iadd, 1) := by decide +kernel
theorem dL_law_440 : decode cL_law 440 = .ok (.iaload, 1) := by decide +kernel
theorem dL_law_441 : decode cL_law 441 = .ok (.invokevirtual 47, 3) := by decide +kernel
theorem dL_law_444 : decode cL_law 444 = .ok (.istore 6, 2) := by decide +kernel
theorem dL_law_446 : decode cL_law 446 = .ok (.aload_n 2, 1) := by decide +kernel
theorem dL_law_447 : decode cL_law 447 = .ok (.invokevirtual 48, 3) := by decide +kernel
theorem dL_law_450 : decode cL_law 450 = .ok (.iload 5, 2) := by decide +kernel
theorem dL_law_452 : decode cL_law 452 = .ok (.if_icmp .eq 5, 3) := by decide +kernel
theorem dL_law_455 : decode cL_law 455 = .ok (.iconst 0, 1) := by decide +kernel
theorem dL_law_456 : decode cL_law 456 = .ok (.ireturn, 1) := by decide +kernel
theorem dL_law_457 : decode cL_law 457 = .ok (.iload 5, 2) := by decide +kernel
theorem dL_law_459 : decode cL_law 459 = .ok (.ifCond .ne 15, 3) := by decide +kernel
theorem dL_law_462 : decode cL_law 462 = .ok (.aload_n 3, 1) := by decide +kernel
theorem dL_law_463 : decode cL_law 463 = .ok (.iconst 0, 1) := by decide +kernel
theorem dL_law_464 : decode cL_law 464 = .ok (.laload, 1) := by decide +kernel
theorem dL_law_465 : decode cL_law 465 = .ok (.iload 6, 2) := by decide +kernel
theorem dL_law_467 : decode cL_law 467 = .ok (.i2l, 1) := by decide +kernel
theorem dL_law_468 : decode cL_law 468 = .ok (.lcmp, 1) := by decide +kernel
theorem dL_law_469 : decode cL_law 469 = .ok (.ifCond .eq 5, 3) := by decide +kernel
theorem dL_law_472 : decode cL_law 472 = .ok (.iconst 0, 1) := by decide +kernel
theorem dL_law_473 : decode cL_law 473 = .ok (.ireturn, 1) := by decide +kernel
theorem dL_law_474 : decode cL_law 474 = .ok (.goto 1889, 3) := by decide +kernel
theorem dL_law_477 : decode cL_law 477 = .ok (.aload_n 1, 1) := by decide +kernel
theorem dL_law_478 : decode cL_law 478 = .ok (.aload_n 0, 1) := by decide +kernel
theorem dL_law_479 : decode cL_law 479 = .ok (.iload 4, 2) := by decide +kernel
theorem dL_law_481 : decode cL_law 481 = .ok (.iconst 1, 1) := by decide +kernel
theorem dL_law_482 : decode cL_law 482 = .ok (.iadd, 1) := by decide +kernel
theorem dL_law_483 : decode cL_law 483 = .ok (.iaload, 1) := by decide +kernel
theorem dL_law_484 : decode cL_law 484 = .ok (.aload_n 0, 1) := by decide +kernel
theorem dL_law_485 : decode cL_law 485 = .ok (.iload 4, 2) := by decide +kernel
theorem dL_law_487 : decode cL_law 487 = .ok (.iconst 2, 1) := by decide +kernel
theorem dL_law_488 : decode cL_law 488 = .ok (.iadd, 1) := by decide +kernel
theorem dL_law_489 : decode cL_law 489 = .ok (.iaload, 1) := by decide +kernel
theorem dL_law_490 : decode cL_law 490 = .ok (.aload_n 0, 1) := by decide +kernel
theorem dL_law_491 : decode cL_law 491 = .ok (.iload 4, 2) := by decide +kernel
theorem dL_law_493 : decode cL_law 493 = .ok (.iconst 3, 1) := by decide +kernel
theorem dL_law_494 : decode cL_law 494 = .ok (.iadd, 1) := by decide +kernel
theorem dL_law_495 : decode cL_law 495 = .ok (.iaload, 1) := by decide +kernel
theorem dL_law_496 : decode cL_law 496 = .ok (.invokevirtual 52, 3) := by decide +kernel
theorem dL_law_499 : decode cL_law 499 = .ok (.aload_n 2, 1) := by decide +kernel
theorem dL_law_500 : decode cL_law 500 = .ok (.aload_n 0, 1) := by decide +kernel
theorem dL_law_501 : decode cL_law 501 = .ok (.iload 4, 2) := by decide +kernel
theorem dL_law_503 : decode cL_law 503 = .ok (.iconst 1, 1) := by decide +kernel
theorem dL_law_504 : decode cL_law 504 = .ok (.iadd, 1) := by decide +kernel
theorem dL_law_505 : decode cL_law 505 = .ok (.iaload, 1) := by decide +kernel
theorem dL_law_506 : decode cL_law 506 = .ok (.aload_n 0, 1) := by decide +kernel
theorem dL_law_507 : decode cL_law 507 = .ok (.iload 4, 2) := by decide +kernel
theorem dL_law_509 : decode cL_law 509 = .ok (.iconst 2, 1) := by decide +kernel
theorem dL_law_510 : decode cL_law 510 = .ok (.iadd, 1) := by decide +kernel
theorem dL_law_511 : decode cL_law 511 = .ok (.iaload, 1) := by decide +kernel
theorem dL_law_512 : decode cL_law 512 = .ok (.aload_n 0, 1) := by decide +kernel
theorem dL_law_513 : decode cL_law 513 = .ok (.iload 4, 2) := by decide +kernel
theorem dL_law_515 : decode cL_law 515 = .ok (.iconst 3, 1) := by decide +kernel
theorem dL_law_516 : decode cL_law 516 = .ok (.iadd, 1) := by decide +kernel
theorem dL_law_517 : decode cL_law 517 = .ok (.iaload, 1) := by decide +kernel
theorem dL_law_518 : decode cL_law 518 = .ok (.invokevirtual 56, 3) := by decide +kernel
theorem dL_law_521 : decode cL_law 521 = .ok (.if_icmp .eq 1842, 3) := by decide +kernel
theorem dL_law_524 : decode cL_law 524 = .ok (.iconst 0, 1) := by decide +kernel
theorem dL_law_525 : decode cL_law 525 = .ok (.ireturn, 1) := by decide +kernel
theorem dL_law_526 : decode cL_law 526 = .ok (.aload_n 1, 1) := by decide +kernel
theorem dL_law_527 : decode cL_law 527 = .ok (.aload_n 0, 1) := by decide +kernel
theorem dL_law_528 : decode cL_law 528 = .ok (.iload 4, 2) := by decide +kernel
theorem dL_law_530 : decode cL_law 530 = .ok (.iconst 1, 1) := by decide +kernel
theorem dL_law_531 : decode cL_law 531 = .ok (.iadd, 1) := by decide +kernel
theorem dL_law_532 : decode cL_law 532 = .ok (.iaload, 1) := by decide +kernel
theorem dL_law_533 : decode cL_law 533 = .ok (.aload_n 0, 1) := by decide +kernel
theorem dL_law_534 : decode cL_law 534 = .ok (.iload 4, 2) := by decide +kernel
theorem dL_law_536 : decode cL_law 536 = .ok (.iconst 2, 1) := by decide +kernel
theorem dL_law_537 : decode cL_law 537 = .ok (.iadd, 1) := by decide +kernel
theorem dL_law_538 : decode cL_law 538 = .ok (.iaload, 1) := by decide +kernel
theorem dL_law_539 : decode cL_law 539 = .ok (.invokevirtual 57, 3) := by decide +kernel
theorem dL_law_542 : decode cL_law 542 = .ok (.aload_n 2, 1) := by decide +kernel
theorem dL_law_543 : decode cL_law 543 = .ok (.aload_n 0, 1) := by decide +kernel
theorem dL_law_544 : decode cL_law 544 = .ok (.iload 4, 2) := by decide +kernel
theorem dL_law_546 : decode cL_law 546 = .ok (.iconst 1, 1) := by decide +kernel
theorem dL_law_547 : decode cL_law 547 = .ok (.iadd, 1) := by decide +kernel
theorem dL_law_548 : decode cL_law 548 = .ok (.iaload, 1) := by decide +kernel
theorem dL_law_549 : decode cL_law 549 = .ok (.aload_n 0, 1) := by decide +kernel
theorem dL_law_550 : decode cL_law 550 = .ok (.iload 4, 2) := by decide +kernel
theorem dL_law_552 : decode cL_law 552 = .ok (.iconst 2, 1) := by decide +kernel
theorem dL_law_553 : decode cL_law 553 = .ok (.iadd, 1) := by decide +kernel
theorem dL_law_554 : decode cL_law 554 = .ok (.iaload, 1) := by decide +kernel
theorem dL_law_555 : decode cL_law 555 = .ok (.invokevirtual 60, 3) := by decide +kernel
theorem dL_law_558 : decode cL_law 558 = .ok (.if_icmp .eq 1805, 3) := by decide +kernel
theorem dL_law_561 : decode cL_law 561 = .ok (.iconst 0, 1) := by decide +kernel
theorem dL_law_562 : decode cL_law 562 = .ok (.ireturn, 1) := by decide +kernel
theorem dL_law_563 : decode cL_law 563 = .ok (.aload_n 1, 1) := by decide +kernel
theorem dL_law_564 : decode cL_law 564 = .ok (.aload_n 0, 1) := by decide +kernel
theorem dL_law_565 : decode cL_law 565 = .ok (.iload 4, 2) := by decide +kernel
theorem dL_law_567 : decode cL_law 567 = .ok (.iconst 1, 1) := by decide +kernel
theorem dL_law_568 : decode cL_law 568 = .ok (.iadd, 1) := by decide +kernel
theorem dL_law_569 : decode cL_law 569 = .ok (.iaload, 1) := by decide +kernel
theorem dL_law_570 : decode cL_law 570 = .ok (.aload_n 0, 1) := by decide +kernel
theorem dL_law_571 : decode cL_law 571 = .ok (.iload 4, 2) := by decide +kernel
theorem dL_law_573 : decode cL_law 573 = .ok (.iconst 2, 1) := by decide +kernel
theorem dL_law_574 : decode cL_law 574 = .ok (.iadd, 1) := by decide +kernel
theorem dL_law_575 : decode cL_law 575 = .ok (.iaload, 1) := by decide +kernel
theorem dL_law_576 : decode cL_law 576 = .ok (.aload_n 0, 1) := by decide +kernel
theorem dL_law_577 : decode cL_law 577 = .ok (.iload 4, 2) := by decide +kernel
theorem dL_law_579 : decode cL_law 579 = .ok (.iconst 3, 1) := by decide +kernel
theorem dL_law_580 : decode cL_law 580 = .ok (.iadd, 1) := by decide +kernel
theorem dL_law_581 : decode cL_law 581 = .ok (.iaload, 1) := by decide +kernel
theorem dL_law_582 : decode cL_law 582 = .ok (.aload_n 0, 1) := by decide +kernel
theorem dL_law_583 : decode cL_law 583 = .ok (.iload 4, 2) := by decide +kernel
theorem dL_law_585 : decode cL_law 585 = .ok (.iconst 4, 1) := by decide +kernel
theorem dL_law_586 : decode cL_law 586 = .ok (.iadd, 1) := by decide +kernel
theorem dL_law_587 : decode cL_law 587 = .ok (.iaload, 1) := by decide +kernel
theorem dL_law_588 : decode cL_law 588 = .ok (.invokevirtual 61, 3) := by decide +kernel
theorem dL_law_591 : decode cL_law 591 = .ok (.aload_n 2, 1) := by decide +kernel
theorem dL_law_592 : decode cL_law 592 = .ok (.aload_n 0, 1) := by decide +kernel
theorem dL_law_593 : decode cL_law 593 = .ok (.iload 4, 2) := by decide +kernel
theorem dL_law_595 : decode cL_law 595 = .ok (.iconst 1, 1) := by decide +kernel
theorem dL_law_596 : decode cL_law 596 = .ok (.iadd, 1) := by decide +kernel
theorem dL_law_597 : decode cL_law 597 = .ok (.iaload, 1) := by decide +kernel
theorem dL_law_598 : decode cL_law 598 = .ok (.aload_n 0, 1) := by decide +kernel
theorem dL_law_599 : decode cL_law 599 = .ok (.iload 4, 2) := by decide +kernel
theorem dL_law_601 : decode cL_law 601 = .ok (.iconst 2, 1) := by decide +kernel
theorem dL_law_602 : decode cL_law 602 = .ok (.iadd, 1) := by decide +kernel
theorem dL_law_603 : decode cL_law 603 = .ok (.iaload, 1) := by decide +kernel
theorem dL_law_604 : decode cL_law 604 = .ok (.aload_n 0, 1) := by decide +kernel
theorem dL_law_605 : decode cL_law 605 = .ok (.iload 4, 2) := by decide +kernel
theorem dL_law_607 : decode cL_law 607 = .ok (.iconst 3, 1) := by decide +kernel
theorem dL_law_608 : decode cL_law 608 = .ok (.iadd, 1) := by decide +kernel
theorem dL_law_609 : decode cL_law 609 = .ok (.iaload, 1) := by decide +kernel
theorem dL_law_610 : decode cL_law 610 = .ok (.aload_n 0, 1) := by decide +kernel
theorem dL_law_611 : decode cL_law 611 = .ok (.iload 4, 2) := by decide +kernel
theorem dL_law_613 : decode cL_law 613 = .ok (.iconst 4, 1) := by decide +kernel
theorem dL_law_614 : decode cL_law 614 = .ok (.iadd, 1) := by decide +kernel
theorem dL_law_615 : decode cL_law 615 = .ok (.iaload, 1) := by decide +kernel
theorem dL_law_616 : decode cL_law 616 = .ok (.invokevirtual 65, 3) := by decide +kernel
theorem dL_law_619 : decode cL_law 619 = .ok (.if_icmp .eq 1744, 3) := by decide +kernel
theorem dL_law_622 : decode cL_law 622 = .ok (.iconst 0, 1) := by decide +kernel
theorem dL_law_623 : decode cL_law 623 = .ok (.ireturn, 1) := by decide +kernel
theorem dL_law_624 : decode cL_law 624 = .ok (.aload_n 1, 1) := by decide +kernel
theorem dL_law_625 : decode cL_law 625 = .ok (.aload_n 0, 1) := by decide +kernel
theorem dL_law_626 : decode cL_law 626 = .ok (.iload 4, 2) := by decide +kernel
theorem dL_law_628 : decode cL_law 628 = .ok (.iconst 1, 1) := by decide +kernel
theorem dL_law_629 : decode cL_law 629 = .ok (.iadd, 1) := by decide +kernel
theorem dL_law_630 : decode cL_law 630 = .ok (.iaload, 1) := by decide +kernel
theorem dL_law_631 : decode cL_law 631 = .ok (.aload_n 0, 1) := by decide +kernel
theorem dL_law_632 : decode cL_law 632 = .ok (.iload 4, 2) := by decide +kernel
theorem dL_law_634 : decode cL_law 634 = .ok (.iconst 2, 1) := by decide +kernel
theorem dL_law_635 : decode cL_law 635 = .ok (.iadd, 1) := by decide +kernel
theorem dL_law_636 : decode cL_law 636 = .ok (.iaload, 1) := by decide +kernel
theorem dL_law_637 : decode cL_law 637 = .ok (.aload_n 0, 1) := by decide +kernel
theorem dL_law_638 : decode cL_law 638 = .ok (.iload 4, 2) := by decide +kernel
theorem dL_law_640 : decode cL_law 640 = .ok (.iconst 3, 1) := by decide +kernel
theorem dL_law_641 : decode cL_law 641 = .ok (.iadd, 1) := by decide +kernel
theorem dL_law_642 : decode cL_law 642 = .ok (.iaload, 1) := by decide +kernel
theorem dL_law_643 : decode cL_law 643 = .ok (.aload_n 0, 1) := by decide +kernel
theorem dL_law_644 : decode cL_law 644 = .ok (.iload 4, 2) := by decide +kernel
theorem dL_law_646 : decode cL_law 646 = .ok (.iconst 4, 1) := by decide +kernel
theorem dL_law_647 : decode cL_law 647 = .ok (.iadd, 1) := by decide +kernel
theorem dL_law_648 : decode cL_law 648 = .ok (.iaload, 1) := by decide +kernel
theorem dL_law_649 : decode cL_law 649 = .ok (.aload_n 0, 1) := by decide +kernel
theorem dL_law_650 : decode cL_law 650 = .ok (.iload 4, 2) := by decide +kernel
theorem dL_law_652 : decode cL_law 652 = .ok (.iconst 5, 1) := by decide +kernel
theorem dL_law_653 : decode cL_law 653 = .ok (.iadd, 1) := by decide +kernel
theorem dL_law_654 : decode cL_law 654 = .ok (.iaload, 1) := by decide +kernel
theorem dL_law_655 : decode cL_law 655 = .ok (.invokevirtual 66, 3) := by decide +kernel
theorem dL_law_658 : decode cL_law 658 = .ok (.aload_n 2, 1) := by decide +kernel
theorem dL_law_659 : decode cL_law 659 = .ok (.aload_n 0, 1) := by decide +kernel
theorem dL_law_660 : decode cL_law 660 = .ok (.iload 4, 2) := by decide +kernel
theorem dL_law_662 : decode cL_law 662 = .ok (.iconst 1, 1) := by decide +kernel
theorem dL_law_663 : decode cL_law 663 = .ok (.iadd, 1) := by decide +kernel
theorem dL_law_664 : decode cL_law 664 = .ok (.iaload, 1) := by decide +kernel
theorem dL_law_665 : decode cL_law 665 = .ok (.aload_n 0, 1) := by decide +kernel
theorem dL_law_666 : decode cL_law 666 = .ok (.iload 4, 2) := by decide +kernel
theorem dL_law_668 : decode cL_law 668 = .ok (.iconst 2, 1) := by decide +kernel
theorem dL_law_669 : decode cL_law 669 = .ok (.iadd, 1) := by decide +kernel
theorem dL_law_670 : decode cL_law 670 = .ok (.iaload, 1) := by decide +kernel
theorem dL_law_671 : decode cL_law 671 = .ok (.aload_n 0, 1) := by decide +kernel
theorem dL_law_672 : decode cL_law 672 = .ok (.iload 4, 2) := by decide +kernel
theorem dL_law_674 : decode cL_law 674 = .ok (.iconst 3, 1) := by decide +kernel
theorem dL_law_675 : decode cL_law 675 = .ok (.iadd, 1) := by decide +kernel
theorem dL_law_676 : decode cL_law 676 = .ok (.iaload, 1) := by decide +kernel
theorem dL_law_677 : decode cL_law 677 = .ok (.aload_n 0, 1) := by decide +kernel
theorem dL_law_678 : decode cL_law 678 = .ok (.iload 4, 2) := by decide +kernel
theorem dL_law_680 : decode cL_law 680 = .ok (.iconst 4, 1) := by decide +kernel
theorem dL_law_681 : decode cL_law 681 = .ok (.iadd, 1) := by decide +kernel
theorem dL_law_682 : decode cL_law 682 = .ok (.iaload, 1) := by decide +kernel
theorem dL_law_683 : decode cL_law 683 = .ok (.aload_n 0, 1) := by decide +kernel
theorem dL_law_684 : decode cL_law 684 = .ok (.iload 4, 2) := by decide +kernel
theorem dL_law_686 : decode cL_law 686 = .ok (.iconst 5, 1) := by decide +kernel
theorem dL_law_687 : decode cL_law 687 = .ok (.iadd, 1) := by decide +kernel
theorem dL_law_688 : decode cL_law 688 = .ok (.iaload, 1) := by decide +kernel
theorem dL_law_689 : decode cL_law 689 = .ok (.invokevirtual 69, 3) := by decide +kernel
theorem dL_law_692 : decode cL_law 692 = .ok (.if_icmp .eq 1671, 3) := by decide +kernel
theorem dL_law_695 : decode cL_law 695 = .ok (.iconst 0, 1) := by decide +kernel
theorem dL_law_696 : decode cL_law 696 = .ok (.ireturn, 1) := by decide +kernel
theorem dL_law_697 : decode cL_law 697 = .ok (.aload_n 1, 1) := by decide +kernel
theorem dL_law_698 : decode cL_law 698 = .ok (.aload_n 0, 1) := by decide +kernel
theorem dL_law_699 : decode cL_law 699 = .ok (.iload 4, 2) := by decide +kernel
theorem dL_law_701 : decode cL_law 701 = .ok (.iconst 1, 1) := by decide +kernel
theorem dL_law_702 : decode cL_law 702 = .ok (.iadd, 1) := by decide +kernel
theorem dL_law_703 : decode cL_law 703 = .ok (.iaload, 1) := by decide +kernel
theorem dL_law_704 : decode cL_law 704 = .ok (.aload_n 0, 1) := by decide +kernel
theorem dL_law_705 : decode cL_law 705 = .ok (.iload 4, 2) := by decide +kernel
theorem dL_law_707 : decode cL_law 707 = .ok (.iconst 2, 1) := by decide +kernel
theorem dL_law_708 : decode cL_law 708 = .ok (.iadd, 1) := by decide +kernel
theorem dL_law_709 : decode cL_law 709 = .ok (.iaload, 1) := by decide +kernel
theorem dL_law_710 : decode cL_law 710 = .ok (.aload_n 0, 1) := by decide +kernel
theorem dL_law_711 : decode cL_law 711 = .ok (.iload 4, 2) := by decide +kernel
theorem dL_law_713 : decode cL_law 713 = .ok (.iconst 3, 1) := by decide +kernel
theorem dL_law_714 : decode cL_law 714 = .ok (.iadd, 1) := by decide +kernel
theorem dL_law_715 : decode cL_law 715 = .ok (.iaload, 1) := by decide +kernel
theorem dL_law_716 : decode cL_law 716 = .ok (.aload_n 0, 1) := by decide +kernel
theorem dL_law_717 : decode cL_law 717 = .ok (.iload 4, 2) := by decide +kernel
theorem dL_law_719 : decode cL_law 719 = .ok (.iconst 4, 1) := by decide +kernel
theorem dL_law_720 : decode cL_law 720 = .ok (.iadd, 1) := by decide +kernel
theorem dL_law_721 : decode cL_law 721 = .ok (.iaload, 1) := by decide +kernel
theorem dL_law_722 : decode cL_law 722 = .ok (.aload_n 0, 1) := by decide +kernel
theorem dL_law_723 : decode cL_law 723 = .ok (.iload 4, 2) := by decide +kernel
theorem dL_law_725 : decode cL_law 725 = .ok (.iconst 5, 1) := by decide +kernel
theorem dL_law_726 : decode cL_law 726 = .ok (.iadd, 1) := by decide +kernel
theorem dL_law_727 : decode cL_law 727 = .ok (.iaload, 1) := by decide +kernel
theorem dL_law_728 : decode cL_law 728 = .ok (.invokevirtual 70, 3) := by decide +kernel
theorem dL_law_731 : decode cL_law 731 = .ok (.aload_n 2, 1) := by decide +kernel
theorem dL_law_732 : decode cL_law 732 = .ok (.aload_n 0, 1) := by decide +kernel
theorem dL_law_733 : decode cL_law 733 = .ok (.iload 4, 2) := by decide +kernel
theorem dL_law_735 : decode cL_law 735 = .ok (.iconst 1, 1) := by decide +kernel
theorem dL_law_736 : decode cL_law 736 = .ok (.iadd, 1) := by decide +kernel
theorem dL_law_737 : decode cL_law 737 = .ok (.iaload, 1) := by decide +kernel
theorem dL_law_738 : decode cL_law 738 = .ok (.aload_n 0, 1) := by decide +kernel
theorem dL_law_739 : decode cL_law 739 = .ok (.iload 4, 2) := by decide +kernel
theorem dL_law_741 : decode cL_law 741 = .ok (.iconst 2, 1) := by decide +kernel
theorem dL_law_742 : decode cL_law 742 = .ok (.iadd, 1) := by decide +kernel
theorem dL_law_743 : decode cL_law 743 = .ok (.iaload, 1) := by decide +kernel
theorem dL_law_744 : decode cL_law 744 = .ok (.aload_n 0, 1) := by decide +kernel
theorem dL_law_745 : decode cL_law 745 = .ok (.iload 4, 2) := by decide +kernel
theorem dL_law_747 : decode cL_law 747 = .ok (.iconst 3, 1) := by decide +kernel
theorem dL_law_748 : decode cL_law 748 = .ok (.iadd, 1) := by decide +kernel
theorem dL_law_749 : decode cL_law 749 = .ok (.iaload, 1) := by decide +kernel
theorem dL_law_750 : decode cL_law 750 = .ok (.aload_n 0, 1) := by decide +kernel
theorem dL_law_751 : decode cL_law 751 = .ok (.iload 4, 2) := by decide +kernel
theorem dL_law_753 : decode cL_law 753 = .ok (.iconst 4, 1) := by decide +kernel
theorem dL_law_754 : decode cL_law 754 = .ok (.iadd, 1) := by decide +kernel
theorem dL_law_755 : decode cL_law 755 = .ok (.iaload, 1) := by decide +kernel
theorem dL_law_756 : decode cL_law 756 = .ok (.aload_n 0, 1) := by decide +kernel
theorem dL_law_757 : decode cL_law 757 = .ok (.iload 4, 2) := by decide +kernel
theorem dL_law_759 : decode cL_law 759 = .ok (.iconst 5, 1) := by decide +kernel
theorem dL_law_760 : decode cL_law 760 = .ok (.iadd, 1) := by decide +kernel
theorem dL_law_761 : decode cL_law 761 = .ok (.iaload, 1) := by decide +kernel
theorem dL_law_762 : decode cL_law 762 = .ok (.invokevirtual 73, 3) := by decide +kernel
theorem dL_law_765 : decode cL_law 765 = .ok (.if_icmp .eq 1598, 3) := by decide +kernel
theorem dL_law_768 : decode cL_law 768 = .ok (.iconst 0, 1) := by decide +kernel
theorem dL_law_769 : decode cL_law 769 = .ok (.ireturn, 1) := by decide +kernel
theorem dL_law_770 : decode cL_law 770 = .ok (.aload_n 1, 1) := by decide +kernel
theorem dL_law_771 : decode cL_law 771 = .ok (.aload_n 0, 1) := by decide +kernel
theorem dL_law_772 : decode cL_law 772 = .ok (.iload 4, 2) := by decide +kernel
theorem dL_law_774 : decode cL_law 774 = .ok (.iconst 1, 1) := by decide +kernel
theorem dL_law_775 : decode cL_law 775 = .ok (.iadd, 1) := by decide +kernel
theorem dL_law_776 : decode cL_law 776 = .ok (.iaload, 1) := by decide +kernel
theorem dL_law_777 : decode cL_law 777 = .ok (.aload_n 0, 1) := by decide +kernel
theorem dL_law_778 : decode cL_law 778 = .ok (.iload 4, 2) := by decide +kernel
theorem dL_law_780 : decode cL_law 780 = .ok (.iconst 2, 1) := by decide +kernel
theorem dL_law_781 : decode cL_law 781 = .ok (.iadd, 1) := by decide +kernel
theorem dL_law_782 : decode cL_law 782 = .ok (.iaload, 1) := by decide +kernel
theorem dL_law_783 : decode cL_law 783 = .ok (.aload_n 0, 1) := by decide +kernel
theorem dL_law_784 : decode cL_law 784 = .ok (.iload 4, 2) := by decide +kernel
theorem dL_law_786 : decode cL_law 786 = .ok (.iconst 3, 1) := by decide +kernel
theorem dL_law_787 : decode cL_law 787 = .ok (.iadd, 1) := by decide +kernel
theorem dL_law_788 : decode cL_law 788 = .ok (.iaload, 1) := by decide +kernel
theorem dL_law_789 : decode cL_law 789 = .ok (.aload_n 0, 1) := by decide +kernel
theorem dL_law_790 : decode cL_law 790 = .ok (.iload 4, 2) := by decide +kernel
theorem dL_law_792 : decode cL_law 792 = .ok (.iconst 4, 1) := by decide +kernel
theorem dL_law_793 : decode cL_law 793 = .ok (.iadd, 1) := by decide +kernel
theorem dL_law_794 : decode cL_law 794 = .ok (.iaload, 1) := by decide +kernel
theorem dL_law_795 : decode cL_law 795 = .ok (.aload_n 0, 1) := by decide +kernel
theorem dL_law_796 : decode cL_law 796 = .ok (.iload 4, 2) := by decide +kernel
theorem dL_law_798 : decode cL_law 798 = .ok (.iconst 5, 1) := by decide +kernel
theorem dL_law_799 : decode cL_law 799 = .ok (.iadd, 1) := by decide +kernel
theorem dL_law_800 : decode cL_law 800 = .ok (.iaload, 1) := by decide +kernel
theorem dL_law_801 : decode cL_law 801 = .ok (.aload_n 0, 1) := by decide +kernel
theorem dL_law_802 : decode cL_law 802 = .ok (.iload 4, 2) := by decide +kernel
theorem dL_law_804 : decode cL_law 804 = .ok (.bipush 6, 2) := by decide +kernel
theorem dL_law_806 : decode cL_law 806 = .ok (.iadd, 1) := by decide +kernel
theorem dL_law_807 : decode cL_law 807 = .ok (.iaload, 1) := by decide +kernel
theorem dL_law_808 : decode cL_law 808 = .ok (.invokevirtual 74, 3) := by decide +kernel
theorem dL_law_811 : decode cL_law 811 = .ok (.aload_n 2, 1) := by decide +kernel
theorem dL_law_812 : decode cL_law 812 = .ok (.aload_n 0, 1) := by decide +kernel
theorem dL_law_813 : decode cL_law 813 = .ok (.iload 4, 2) := by decide +kernel
theorem dL_law_815 : decode cL_law 815 = .ok (.iconst 1, 1) := by decide +kernel
theorem dL_law_816 : decode cL_law 816 = .ok (.iadd, 1) := by decide +kernel
theorem dL_law_817 : decode cL_law 817 = .ok (.iaload, 1) := by decide +kernel
theorem dL_law_818 : decode cL_law 818 = .ok (.aload_n 0, 1) := by decide +kernel
theorem dL_law_819 : decode cL_law 819 = .ok (.iload 4, 2) := by decide +kernel
theorem dL_law_821 : decode cL_law 821 = .ok (.iconst 2, 1) := by decide +kernel
theorem dL_law_822 : decode cL_law 822 = .ok (.iadd, 1) := by decide +kernel
theorem dL_law_823 : decode cL_law 823 = .ok (.iaload, 1) := by decide +kernel
theorem dL_law_824 : decode cL_law 824 = .ok (.aload_n 0, 1) := by decide +kernel
theorem dL_law_825 : decode cL_law 825 = .ok (.iload 4, 2) := by decide +kernel
theorem dL_law_827 : decode cL_law 827 = .ok (.iconst 3, 1) := by decide +kernel
theorem dL_law_828 : decode cL_law 828 = .ok (.iadd, 1) := by decide +kernel
theorem dL_law_829 : decode cL_law 829 = .ok (.iaload, 1) := by decide +kernel
theorem dL_law_830 : decode cL_law 830 = .ok (.aload_n 0, 1) := by decide +kernel
theorem dL_law_831 : decode cL_law 831 = .ok (.iload 4, 2) := by decide +kernel
theorem dL_law_833 : decode cL_law 833 = .ok (.iconst 4, 1) := by decide +kernel
theorem dL_law_834 : decode cL_law 834 = .ok (.iadd, 1) := by decide +kernel
theorem dL_law_835 : decode cL_law 835 = .ok (.iaload, 1) := by decide +kernel
theorem dL_law_836 : decode cL_law 836 = .ok (.aload_n 0, 1) := by decide +kernel
theorem dL_law_837 : decode cL_law 837 = .ok (.iload 4, 2) := by decide +kernel
theorem dL_law_839 : decode cL_law 839 = .ok (.iconst 5, 1) := by decide +kernel
theorem dL_law_840 : decode cL_law 840 = .ok (.iadd, 1) := by decide +kernel
theorem dL_law_841 : decode cL_law 841 = .ok (.iaload, 1) := by decide +kernel
theorem dL_law_842 : decode cL_law 842 = .ok (.aload_n 0, 1) := by decide +kernel
theorem dL_law_843 : decode cL_law 843 = .ok (.iload 4, 2) := by decide +kernel
theorem dL_law_845 : decode cL_law 845 = .ok (.bipush 6, 2) := by decide +kernel
theorem dL_law_847 : decode cL_law 847 = .ok (.iadd, 1) := by decide +kernel
theorem dL_law_848 : decode cL_law 848 = .ok (.iaload, 1) := by decide +kernel
theorem dL_law_849 : decode cL_law 849 = .ok (.invokevirtual 78, 3) := by decide +kernel
theorem dL_law_852 : decode cL_law 852 = .ok (.if_icmp .eq 1511, 3) := by decide +kernel
theorem dL_law_855 : decode cL_law 855 = .ok (.iconst 0, 1) := by decide +kernel
theorem dL_law_856 : decode cL_law 856 = .ok (.ireturn, 1) := by decide +kernel
theorem dL_law_857 : decode cL_law 857 = .ok (.aload_n 1, 1) := by decide +kernel
theorem dL_law_858 : decode cL_law 858 = .ok (.aload_n 0, 1) := by decide +kernel
theorem dL_law_859 : decode cL_law 859 = .ok (.iload 4, 2) := by decide +kernel
theorem dL_law_861 : decode cL_law 861 = .ok (.iconst 1, 1) := by decide +kernel
theorem dL_law_862 : decode cL_law 862 = .ok (.iadd, 1) := by decide +kernel
theorem dL_law_863 : decode cL_law 863 = .ok (.iaload, 1) := by decide +kernel
theorem dL_law_864 : decode cL_law 864 = .ok (.aload_n 0, 1) := by decide +kernel
theorem dL_law_865 : decode cL_law 865 = .ok (.iload 4, 2) := by decide +kernel
theorem dL_law_867 : decode cL_law 867 = .ok (.iconst 2, 1) := by decide +kernel
theorem dL_law_868 : decode cL_law 868 = .ok (.iadd, 1) := by decide +kernel
theorem dL_law_869 : decode cL_law 869 = .ok (.iaload, 1) := by decide +kernel
theorem dL_law_870 : decode cL_law 870 = .ok (.aload_n 0, 1) := by decide +kernel
theorem dL_law_871 : decode cL_law 871 = .ok (.iload 4, 2) := by decide +kernel
theorem dL_law_873 : decode cL_law 873 = .ok (.iconst 3, 1) := by decide +kernel
theorem dL_law_874 : decode cL_law 874 = .ok (.iadd, 1) := by decide +kernel
theorem dL_law_875 : decode cL_law 875 = .ok (.iaload, 1) := by decide +kernel
theorem dL_law_876 : decode cL_law 876 = .ok (.aload_n 0, 1) := by decide +kernel
theorem dL_law_877 : decode cL_law 877 = .ok (.iload 4, 2) := by decide +kernel
theorem dL_law_879 : decode cL_law 879 = .ok (.iconst 4, 1) := by decide +kernel
theorem dL_law_880 : decode cL_law 880 = .ok (.iadd, 1) := by decide +kernel
theorem dL_law_881 : decode cL_law 881 = .ok (.iaload, 1) := by decide +kernel
theorem dL_law_882 : decode cL_law 882 = .ok (.aload_n 0, 1) := by decide +kernel
theorem dL_law_883 : decode cL_law 883 = .ok (.iload 4, 2) := by decide +kernel
theorem dL_law_885 : decode cL_law 885 = .ok (.iconst 5, 1) := by decide +kernel
theorem dL_law_886 : decode cL_law 886 = .ok (.iadd, 1) := by decide +kernel
theorem dL_law_887 : decode cL_law 887 = .ok (.iaload, 1) := by decide +kernel
theorem dL_law_888 : decode cL_law 888 = .ok (.invokevirtual 79, 3) := by decide +kernel
theorem dL_law_891 : decode cL_law 891 = .ok (.aload_n 2, 1) := by decide +kernel
theorem dL_law_892 : decode cL_law 892 = .ok (.aload_n 0, 1) := by decide +kernel
theorem dL_law_893 : decode cL_law 893 = .ok (.iload 4, 2) := by decide +kernel
theorem dL_law_895 : decode cL_law 895 = .ok (.iconst 1, 1) := by decide +kernel
theorem dL_law_896 : decode cL_law 896 = .ok (.iadd, 1) := by decide +kernel
theorem dL_law_897 : decode cL_law 897 = .ok (.iaload, 1) := by decide +kernel
theorem dL_law_898 : decode cL_law 898 = .ok (.aload_n 0, 1) := by decide +kernel
theorem dL_law_899 : decode cL_law 899 = .ok (.iload 4, 2) := by decide +kernel
theorem dL_law_901 : decode cL_law 901 = .ok (.iconst 2, 1) := by decide +kernel
theorem dL_law_902 : decode cL_law 902 = .ok (.iadd, 1) := by decide +kernel
theorem dL_law_903 : decode cL_law 903 = .ok (.iaload, 1) := by decide +kernel
theorem dL_law_904 : decode cL_law 904 = .ok (.aload_n 0, 1) := by decide +kernel
theorem dL_law_905 : decode cL_law 905 = .ok (.iload 4, 2) := by decide +kernel
theorem dL_law_907 : decode cL_law 907 = .ok (.iconst 3, 1) := by decide +kernel
theorem dL_law_908 : decode cL_law 908 = .ok (.iadd, 1) := by decide +kernel
theorem dL_law_909 : decode cL_law 909 = .ok (.iaload, 1) := by decide +kernel
theorem dL_law_910 : decode cL_law 910 = .ok (.aload_n 0, 1) := by decide +kernel
theorem dL_law_911 : decode cL_law 911 = .ok (.iload 4, 2) := by decide +kernel
theorem dL_law_913 : decode cL_law 913 = .ok (.iconst 4, 1) := by decide +kernel
theorem dL_law_914 : decode cL_law 914 = .ok (.iadd, 1) := by decide +kernel
theorem dL_law_915 : decode cL_law 915 = .ok (.iaload, 1) := by decide +kernel
theorem dL_law_916 : decode cL_law 916 = .ok (.aload_n 0, 1) := by decide +kernel
theorem dL_law_917 : decode cL_law 917 = .ok (.iload 4, 2) := by decide +kernel
theorem dL_law_919 : decode cL_law 919 = .ok (.iconst 5, 1) := by decide +kernel
theorem dL_law_920 : decode cL_law 920 = .ok (.iadd, 1) := by decide +kernel
theorem dL_law_921 : decode cL_law 921 = .ok (.iaload, 1) := by decide +kernel
theorem dL_law_922 : decode cL_law 922 = .ok (.invokevirtual 82, 3) := by decide +kernel
theorem dL_law_925 : decode cL_law 925 = .ok (.if_icmp .eq 1438, 3) := by decide +kernel
theorem dL_law_928 : decode cL_law 928 = .ok (.iconst 0, 1) := by decide +kernel
theorem dL_law_929 : decode cL_law 929 = .ok (.ireturn, 1) := by decide +kernel
theorem dL_law_930 : decode cL_law 930 = .ok (.aload_n 1, 1) := by decide +kernel
theorem dL_law_931 : decode cL_law 931 = .ok (.aload_n 0, 1) := by decide +kernel
theorem dL_law_932 : decode cL_law 932 = .ok (.iload 4, 2) := by decide +kernel
theorem dL_law_934 : decode cL_law 934 = .ok (.iconst 1, 1) := by decide +kernel
theorem dL_law_935 : decode cL_law 935 = .ok (.iadd, 1) := by decide +kernel
theorem dL_law_936 : decode cL_law 936 = .ok (.iaload, 1) := by decide +kernel
theorem dL_law_937 : decode cL_law 937 = .ok (.aload_n 0, 1) := by decide +kernel
theorem dL_law_938 : decode cL_law 938 = .ok (.iload 4, 2) := by decide +kernel
theorem dL_law_940 : decode cL_law 940 = .ok (.iconst 2, 1) := by decide +kernel
theorem dL_law_941 : decode cL_law 941 = .ok (.iadd, 1) := by decide +kernel
theorem dL_law_942 : decode cL_law 942 = .ok (.iaload, 1) := by decide +kernel
theorem dL_law_943 : decode cL_law 943 = .ok (.aload_n 0, 1) := by decide +kernel
theorem dL_law_944 : decode cL_law 944 = .ok (.iload 4, 2) := by decide +kernel
theorem dL_law_946 : decode cL_law 946 = .ok (.iconst 3, 1) := by decide +kernel
theorem dL_law_947 : decode cL_law 947 = .ok (.iadd, 1) := by decide +kernel
theorem dL_law_948 : decode cL_law 948 = .ok (.iaload, 1) := by decide +kernel
theorem dL_law_949 : decode cL_law 949 = .ok (.aload_n 0, 1) := by decide +kernel
theorem dL_law_950 : decode cL_law 950 = .ok (.iload 4, 2) := by decide +kernel
theorem dL_law_952 : decode cL_law 952 = .ok (.iconst 4, 1) := by decide +kernel
theorem dL_law_953 : decode cL_law 953 = .ok (.iadd, 1) := by decide +kernel
theorem dL_law_954 : decode cL_law 954 = .ok (.iaload, 1) := by decide +kernel
theorem dL_law_955 : decode cL_law 955 = .ok (.invokevirtual 83, 3) := by decide +kernel
theorem dL_law_958 : decode cL_law 958 = .ok (.aload_n 2, 1) := by decide +kernel
theorem dL_law_959 : decode cL_law 959 = .ok (.aload_n 0, 1) := by decide +kernel
theorem dL_law_960 : decode cL_law 960 = .ok (.iload 4, 2) := by decide +kernel
theorem dL_law_962 : decode cL_law 962 = .ok (.iconst 1, 1) := by decide +kernel
theorem dL_law_963 : decode cL_law 963 = .ok (.iadd, 1) := by decide +kernel
theorem dL_law_964 : decode cL_law 964 = .ok (.iaload, 1) := by decide +kernel
theorem dL_law_965 : decode cL_law 965 = .ok (.aload_n 0, 1) := by decide +kernel
theorem dL_law_966 : decode cL_law 966 = .ok (.iload 4, 2) := by decide +kernel
theorem dL_law_968 : decode cL_law 968 = .ok (.iconst 2, 1) := by decide +kernel
theorem dL_law_969 : decode cL_law 969 = .ok (.iadd, 1) := by decide +kernel
theorem dL_law_970 : decode cL_law 970 = .ok (.iaload, 1) := by decide +kernel
theorem dL_law_971 : decode cL_law 971 = .ok (.aload_n 0, 1) := by decide +kernel
theorem dL_law_972 : decode cL_law 972 = .ok (.iload 4, 2) := by decide +kernel
theorem dL_law_974 : decode cL_law 974 = .ok (.iconst 3, 1) := by decide +kernel
theorem dL_law_975 : decode cL_law 975 = .ok (.iadd, 1) := by decide +kernel
theorem dL_law_976 : decode cL_law 976 = .ok (.iaload, 1) := by decide +kernel
theorem dL_law_977 : decode cL_law 977 = .ok (.aload_n 0, 1) := by decide +kernel
theorem dL_law_978 : decode cL_law 978 = .ok (.iload 4, 2) := by decide +kernel
theorem dL_law_980 : decode cL_law 980 = .ok (.iconst 4, 1) := by decide +kernel
theorem dL_law_981 : decode cL_law 981 = .ok (.iadd, 1) := by decide +kernel
theorem dL_law_982 : decode cL_law 982 = .ok (.iaload, 1) := by decide +kernel
theorem dL_law_983 : decode cL_law 983 = .ok (.invokevirtual 86, 3) := by decide +kernel
theorem dL_law_986 : decode cL_law 986 = .ok (.if_icmp .eq 1377, 3) := by decide +kernel
theorem dL_law_989 : decode cL_law 989 = .ok (.iconst 0, 1) := by decide +kernel
theorem dL_law_990 : decode cL_law 990 = .ok (.ireturn, 1) := by decide +kernel
theorem dL_law_991 : decode cL_law 991 = .ok (.aload_n 1, 1) := by decide +kernel
theorem dL_law_992 : decode cL_law 992 = .ok (.aload_n 0, 1) := by decide +kernel
theorem dL_law_993 : decode cL_law 993 = .ok (.iload 4, 2) := by decide +kernel
theorem dL_law_995 : decode cL_law 995 = .ok (.iconst 1, 1) := by decide +kernel
theorem dL_law_996 : decode cL_law 996 = .ok (.iadd, 1) := by decide +kernel
theorem dL_law_997 : decode cL_law 997 = .ok (.iaload, 1) := by decide +kernel
theorem dL_law_998 : decode cL_law 998 = .ok (.invokevirtual 87, 3) := by decide +kernel
theorem dL_law_1001 : decode cL_law 1001 = .ok (.aload_n 2, 1) := by decide +kernel
theorem dL_law_1002 : decode cL_law 1002 = .ok (.aload_n 0, 1) := by decide +kernel
theorem dL_law_1003 : decode cL_law 1003 = .ok (.iload 4, 2) := by decide +kernel
theorem dL_law_1005 : decode cL_law 1005 = .ok (.iconst 1, 1) := by decide +kernel
theorem dL_law_1006 : decode cL_law 1006 = .ok (.iadd, 1) := by decide +kernel
theorem dL_law_1007 : decode cL_law 1007 = .ok (.iaload, 1) := by decide +kernel
theorem dL_law_1008 : decode cL_law 1008 = .ok (.invokevirtual 90, 3) := by decide +kernel
theorem dL_law_1011 : decode cL_law 1011 = .ok (.if_icmp .eq 1352, 3) := by decide +kernel
theorem dL_law_1014 : decode cL_law 1014 = .ok (.iconst 0, 1) := by decide +kernel
theorem dL_law_1015 : decode cL_law 1015 = .ok (.ireturn, 1) := by decide +kernel
theorem dL_law_1016 : decode cL_law 1016 = .ok (.aload_n 1, 1) := by decide +kernel
theorem dL_law_1017 : decode cL_law 1017 = .ok (.aload_n 0, 1) := by decide +kernel
theorem dL_law_1018 : decode cL_law 1018 = .ok (.iload 4, 2) := by decide +kernel
theorem dL_law_1020 : decode cL_law 1020 = .ok (.iconst 1, 1) := by decide +kernel
theorem dL_law_1021 : decode cL_law 1021 = .ok (.iadd, 1) := by decide +kernel
theorem dL_law_1022 : decode cL_law 1022 = .ok (.iaload, 1) := by decide +kernel
theorem dL_law_1023 : decode cL_law 1023 = .ok (.aload_n 0, 1) := by decide +kernel
theorem dL_law_1024 : decode cL_law 1024 = .ok (.iload 4, 2) := by decide +kernel
theorem dL_law_1026 : decode cL_law 1026 = .ok (.iconst 2, 1) := by decide +kernel
theorem dL_law_1027 : decode cL_law 1027 = .ok (.iadd, 1) := by decide +kernel
theorem dL_law_1028 : decode cL_law 1028 = .ok (.iaload, 1) := by decide +kernel
theorem dL_law_1029 : decode cL_law 1029 = .ok (.invokevirtual 91, 3) := by decide +kernel
theorem dL_law_1032 : decode cL_law 1032 = .ok (.aload_n 2, 1) := by decide +kernel
theorem dL_law_1033 : decode cL_law 1033 = .ok (.aload_n 0, 1) := by decide +kernel
theorem dL_law_1034 : decode cL_law 1034 = .ok (.iload 4, 2) := by decide +kernel
theorem dL_law_1036 : decode cL_law 1036 = .ok (.iconst 1, 1) := by decide +kernel
theorem dL_law_1037 : decode cL_law 1037 = .ok (.iadd, 1) := by decide +kernel
theorem dL_law_1038 : decode cL_law 1038 = .ok (.iaload, 1) := by decide +kernel
theorem dL_law_1039 : decode cL_law 1039 = .ok (.aload_n 0, 1) := by decide +kernel
theorem dL_law_1040 : decode cL_law 1040 = .ok (.iload 4, 2) := by decide +kernel
theorem dL_law_1042 : decode cL_law 1042 = .ok (.iconst 2, 1) := by decide +kernel
theorem dL_law_1043 : decode cL_law 1043 = .ok (.iadd, 1) := by decide +kernel
theorem dL_law_1044 : decode cL_law 1044 = .ok (.iaload, 1) := by decide +kernel
theorem dL_law_1045 : decode cL_law 1045 = .ok (.invokevirtual 94, 3) := by decide +kernel
theorem dL_law_1048 : decode cL_law 1048 = .ok (.if_icmp .eq 1315, 3) := by decide +kernel
theorem dL_law_1051 : decode cL_law 1051 = .ok (.iconst 0, 1) := by decide +kernel
theorem dL_law_1052 : decode cL_law 1052 = .ok (.ireturn, 1) := by decide +kernel
theorem dL_law_1053 : decode cL_law 1053 = .ok (.aload_n 1, 1) := by decide +kernel
theorem dL_law_1054 : decode cL_law 1054 = .ok (.aload_n 0, 1) := by decide +kernel
theorem dL_law_1055 : decode cL_law 1055 = .ok (.iload 4, 2) := by decide +kernel
theorem dL_law_1057 : decode cL_law 1057 = .ok (.iconst 1, 1) := by decide +kernel
theorem dL_law_1058 : decode cL_law 1058 = .ok (.iadd, 1) := by decide +kernel
theorem dL_law_1059 : decode cL_law 1059 = .ok (.iaload, 1) := by decide +kernel
theorem dL_law_1060 : decode cL_law 1060 = .ok (.aload_n 0, 1) := by decide +kernel
theorem dL_law_1061 : decode cL_law 1061 = .ok (.iload 4, 2) := by decide +kernel
theorem dL_law_1063 : decode cL_law 1063 = .ok (.iconst 2, 1) := by decide +kernel
theorem dL_law_1064 : decode cL_law 1064 = .ok (.iadd, 1) := by decide +kernel
theorem dL_law_1065 : decode cL_law 1065 = .ok (.iaload, 1) := by decide +kernel
theorem dL_law_1066 : decode cL_law 1066 = .ok (.aload_n 0, 1) := by decide +kernel
theorem dL_law_1067 : decode cL_law 1067 = .ok (.iload 4, 2) := by decide +kernel
theorem dL_law_1069 : decode cL_law 1069 = .ok (.iconst 3, 1) := by decide +kernel
theorem dL_law_1070 : decode cL_law 1070 = .ok (.iadd, 1) := by decide +kernel
theorem dL_law_1071 : decode cL_law 1071 = .ok (.iaload, 1) := by decide +kernel
theorem dL_law_1072 : decode cL_law 1072 = .ok (.invokevirtual 95, 3) := by decide +kernel
theorem dL_law_1075 : decode cL_law 1075 = .ok (.aload_n 2, 1) := by decide +kernel
theorem dL_law_1076 : decode cL_law 1076 = .ok (.aload_n 0, 1) := by decide +kernel
theorem dL_law_1077 : decode cL_law 1077 = .ok (.iload 4, 2) := by decide +kernel
theorem dL_law_1079 : decode cL_law 1079 = .ok (.iconst 1, 1) := by decide +kernel
theorem dL_law_1080 : decode cL_law 1080 = .ok (.iadd, 1) := by decide +kernel
theorem dL_law_1081 : decode cL_law 1081 = .ok (.iaload, 1) := by decide +kernel
theorem dL_law_1082 : decode cL_law 1082 = .ok (.aload_n 0, 1) := by decide +kernel
theorem dL_law_1083 : decode cL_law 1083 = .ok (.iload 4, 2) := by decide +kernel
theorem dL_law_1085 : decode cL_law 1085 = .ok (.iconst 2, 1) := by decide +kernel
theorem dL_law_1086 : decode cL_law 1086 = .ok (.iadd, 1) := by decide +kernel
theorem dL_law_1087 : decode cL_law 1087 = .ok (.iaload, 1) := by decide +kernel
theorem dL_law_1088 : decode cL_law 1088 = .ok (.aload_n 0, 1) := by decide +kernel
theorem dL_law_1089 : decode cL_law 1089 = .ok (.iload 4, 2) := by decide +kernel
theorem dL_law_1091 : decode cL_law 1091 = .ok (.iconst 3, 1) := by decide +kernel
theorem dL_law_1092 : decode cL_law 1092 = .ok (.iadd, 1) := by decide +kernel
theorem dL_law_1093 : decode cL_law 1093 = .ok (.iaload, 1) := by decide +kernel
theorem dL_law_1094 : decode cL_law 1094 = .ok (.invokevirtual 98, 3) := by decide +kernel
theorem dL_law_1097 : decode cL_law 1097 = .ok (.if_icmp .eq 1266, 3) := by decide +kernel
theorem dL_law_1100 : decode cL_law 1100 = .ok (.iconst 0, 1) := by decide +kernel
theorem dL_law_1101 : decode cL_law 1101 = .ok (.ireturn, 1) := by decide +kernel
theorem dL_law_1102 : decode cL_law 1102 = .ok (.aload_n 1, 1) := by decide +kernel
theorem dL_law_1103 : decode cL_law 1103 = .ok (.aload_n 0, 1) := by decide +kernel
theorem dL_law_1104 : decode cL_law 1104 = .ok (.iload 4, 2) := by decide +kernel
theorem dL_law_1106 : decode cL_law 1106 = .ok (.iconst 1, 1) := by decide +kernel
theorem dL_law_1107 : decode cL_law 1107 = .ok (.iadd, 1) := by decide +kernel
theorem dL_law_1108 : decode cL_law 1108 = .ok (.iaload, 1) := by decide +kernel
theorem dL_law_1109 : decode cL_law 1109 = .ok (.aload_n 0, 1) := by decide +kernel
theorem dL_law_1110 : decode cL_law 1110 = .ok (.iload 4, 2) := by decide +kernel
theorem dL_law_1112 : decode cL_law 1112 = .ok (.iconst 2, 1) := by decide +kernel
theorem dL_law_1113 : decode cL_law 1113 = .ok (.iadd, 1) := by decide +kernel
theorem dL_law_1114 : decode cL_law 1114 = .ok (.iaload, 1) := by decide +kernel
theorem dL_law_1115 : decode cL_law 1115 = .ok (.invokevirtual 99, 3) := by decide +kernel
theorem dL_law_1118 : decode cL_law 1118 = .ok (.aload_n 2, 1) := by decide +kernel
theorem dL_law_1119 : decode cL_law 1119 = .ok (.aload_n 0, 1) := by decide +kernel
theorem dL_law_1120 : decode cL_law 1120 = .ok (.iload 4, 2) := by decide +kernel
theorem dL_law_1122 : decode cL_law 1122 = .ok (.iconst 1, 1) := by decide +kernel
theorem dL_law_1123 : decode cL_law 1123 = .ok (.iadd, 1) := by decide +kernel
theorem dL_law_1124 : decode cL_law 1124 = .ok (.iaload, 1) := by decide +kernel
theorem dL_law_1125 : decode cL_law 1125 = .ok (.aload_n 0, 1) := by decide +kernel
theorem dL_law_1126 : decode cL_law 1126 = .ok (.iload 4, 2) := by decide +kernel
theorem dL_law_1128 : decode cL_law 1128 = .ok (.iconst 2, 1) := by decide +kernel
theorem dL_law_1129 : decode cL_law 1129 = .ok (.iadd, 1) := by decide +kernel
theorem dL_law_1130 : decode cL_law 1130 = .ok (.iaload, 1) := by decide +kernel
theorem dL_law_1131 : decode cL_law 1131 = .ok (.invokevirtual 102, 3) := by decide +kernel
theorem dL_law_1134 : decode cL_law 1134 = .ok (.if_icmp .eq 1229, 3) := by decide +kernel
theorem dL_law_1137 : decode cL_law 1137 = .ok (.iconst 0, 1) := by decide +kernel
theorem dL_law_1138 : decode cL_law 1138 = .ok (.ireturn, 1) := by decide +kernel
theorem dL_law_1139 : decode cL_law 1139 = .ok (.aload_n 1, 1) := by decide +kernel
theorem dL_law_1140 : decode cL_law 1140 = .ok (.aload_n 0, 1) := by decide +kernel
theorem dL_law_1141 : decode cL_law 1141 = .ok (.iload 4, 2) := by decide +kernel
theorem dL_law_1143 : decode cL_law 1143 = .ok (.iconst 1, 1) := by decide +kernel
theorem dL_law_1144 : decode cL_law 1144 = .ok (.iadd, 1) := by decide +kernel
theorem dL_law_1145 : decode cL_law 1145 = .ok (.iaload, 1) := by decide +kernel
theorem dL_law_1146 : decode cL_law 1146 = .ok (.aload_n 0, 1) := by decide +kernel
theorem dL_law_1147 : decode cL_law 1147 = .ok (.iload 4, 2) := by decide +kernel
theorem dL_law_1149 : decode cL_law 1149 = .ok (.iconst 2, 1) := by decide +kernel
theorem dL_law_1150 : decode cL_law 1150 = .ok (.iadd, 1) := by decide +kernel
theorem dL_law_1151 : decode cL_law 1151 = .ok (.iaload, 1) := by decide +kernel
theorem dL_law_1152 : decode cL_law 1152 = .ok (.i2l, 1) := by decide +kernel
theorem dL_law_1153 : decode cL_law 1153 = .ok (.bipush 32, 2) := by decide +kernel
theorem dL_law_1155 : decode cL_law 1155 = .ok (.lshl, 1) := by decide +kernel
theorem dL_law_1156 : decode cL_law 1156 = .ok (.aload_n 0, 1) := by decide +kernel
theorem dL_law_1157 : decode cL_law 1157 = .ok (.iload 4, 2) := by decide +kernel
theorem dL_law_1159 : decode cL_law 1159 = .ok (.iconst 3, 1) := by decide +kernel
theorem dL_law_1160 : decode cL_law 1160 = .ok (.iadd, 1) := by decide +kernel
theorem dL_law_1161 : decode cL_law 1161 = .ok (.iaload, 1) := by decide +kernel
theorem dL_law_1162 : decode cL_law 1162 = .ok (.i2l, 1) := by decide +kernel
theorem dL_law_1163 : decode cL_law 1163 = .ok (.ldc2_w 103, 3) := by decide +kernel
theorem dL_law_1166 : decode cL_law 1166 = .ok (.land, 1) := by decide +kernel
theorem dL_law_1167 : decode cL_law 1167 = .ok (.lor, 1) := by decide +kernel
theorem dL_law_1168 : decode cL_law 1168 = .ok (.invokevirtual 105, 3) := by decide +kernel
theorem dL_law_1171 : decode cL_law 1171 = .ok (.aload_n 2, 1) := by decide +kernel
theorem dL_law_1172 : decode cL_law 1172 = .ok (.aload_n 0, 1) := by decide +kernel
theorem dL_law_1173 : decode cL_law 1173 = .ok (.iload 4, 2) := by decide +kernel
theorem dL_law_1175 : decode cL_law 1175 = .ok (.iconst 1, 1) := by decide +kernel
theorem dL_law_1176 : decode cL_law 1176 = .ok (.iadd, 1) := by decide +kernel
theorem dL_law_1177 : decode cL_law 1177 = .ok (.iaload, 1) := by decide +kernel
theorem dL_law_1178 : decode cL_law 1178 = .ok (.aload_n 0, 1) := by decide +kernel
theorem dL_law_1179 : decode cL_law 1179 = .ok (.iload 4, 2) := by decide +kernel
theorem dL_law_1181 : decode cL_law 1181 = .ok (.iconst 2, 1) := by decide +kernel
theorem dL_law_1182 : decode cL_law 1182 = .ok (.iadd, 1) := by decide +kernel
theorem dL_law_1183 : decode cL_law 1183 = .ok (.iaload, 1) := by decide +kernel
theorem dL_law_1184 : decode cL_law 1184 = .ok (.i2l, 1) := by decide +kernel
theorem dL_law_1185 : decode cL_law 1185 = .ok (.bipush 32, 2) := by decide +kernel
theorem dL_law_1187 : decode cL_law 1187 = .ok (.lshl, 1) := by decide +kernel
theorem dL_law_1188 : decode cL_law 1188 = .ok (.aload_n 0, 1) := by decide +kernel
theorem dL_law_1189 : decode cL_law 1189 = .ok (.iload 4, 2) := by decide +kernel
theorem dL_law_1191 : decode cL_law 1191 = .ok (.iconst 3, 1) := by decide +kernel
theorem dL_law_1192 : decode cL_law 1192 = .ok (.iadd, 1) := by decide +kernel
theorem dL_law_1193 : decode cL_law 1193 = .ok (.iaload, 1) := by decide +kernel
theorem dL_law_1194 : decode cL_law 1194 = .ok (.i2l, 1) := by decide +kernel
theorem dL_law_1195 : decode cL_law 1195 = .ok (.ldc2_w 103, 3) := by decide +kernel
theorem dL_law_1198 : decode cL_law 1198 = .ok (.land, 1) := by decide +kernel
theorem dL_law_1199 : decode cL_law 1199 = .ok (.lor, 1) := by decide +kernel
theorem dL_law_1200 : decode cL_law 1200 = .ok (.invokevirtual 109, 3) := by decide +kernel
theorem dL_law_1203 : decode cL_law 1203 = .ok (.if_icmp .eq 1160, 3) := by decide +kernel
theorem dL_law_1206 : decode cL_law 1206 = .ok (.iconst 0, 1) := by decide +kernel
theorem dL_law_1207 : decode cL_law 1207 = .ok (.ireturn, 1) := by decide +kernel
theorem dL_law_1208 : decode cL_law 1208 = .ok (.aload_n 1, 1) := by decide +kernel
theorem dL_law_1209 : decode cL_law 1209 = .ok (.aload_n 0, 1) := by decide +kernel
theorem dL_law_1210 : decode cL_law 1210 = .ok (.iload 4, 2) := by decide +kernel
theorem dL_law_1212 : decode cL_law 1212 = .ok (.iconst 1, 1) := by decide +kernel
theorem dL_law_1213 : decode cL_law 1213 = .ok (.iadd, 1) := by decide +kernel
theorem dL_law_1214 : decode cL_law 1214 = .ok (.iaload, 1) := by decide +kernel
theorem dL_law_1215 : decode cL_law 1215 = .ok (.invokevirtual 110, 3) := by decide +kernel
theorem dL_law_1218 : decode cL_law 1218 = .ok (.aload_n 2, 1) := by decide +kernel
theorem dL_law_1219 : decode cL_law 1219 = .ok (.aload_n 0, 1) := by decide +kernel
theorem dL_law_1220 : decode cL_law 1220 = .ok (.iload 4, 2) := by decide +kernel
theorem dL_law_1222 : decode cL_law 1222 = .ok (.iconst 1, 1) := by decide +kernel
theorem dL_law_1223 : decode cL_law 1223 = .ok (.iadd, 1) := by decide +kernel
theorem dL_law_1224 : decode cL_law 1224 = .ok (.iaload, 1) := by decide +kernel
theorem dL_law_1225 : decode cL_law 1225 = .ok (.invokevirtual 113, 3) := by decide +kernel
theorem dL_law_1228 : decode cL_law 1228 = .ok (.if_icmp .eq 1135, 3) := by decide +kernel
theorem dL_law_1231 : decode cL_law 1231 = .ok (.iconst 0, 1) := by decide +kernel
theorem dL_law_1232 : decode cL_law 1232 = .ok (.ireturn, 1) := by decide +kernel
theorem dL_law_1233 : decode cL_law 1233 = .ok (.aload_n 1, 1) := by decide +kernel
theorem dL_law_1234 : decode cL_law 1234 = .ok (.invokevirtual 114, 3) := by decide +kernel
theorem dL_law_1237 : decode cL_law 1237 = .ok (.aload_n 2, 1) := by decide +kernel
theorem dL_law_1238 : decode cL_law 1238 = .ok (.invokevirtual 117, 3) := by decide +kernel
theorem dL_law_1241 : decode cL_law 1241 = .ok (.if_icmp .eq 1122, 3) := by decide +kernel
theorem dL_law_1244 : decode cL_law 1244 = .ok (.iconst 0, 1) := by decide +kernel
theorem dL_law_1245 : decode cL_law 1245 = .ok (.ireturn, 1) := by decide +kernel
theorem dL_law_1246 : decode cL_law 1246 = .ok (.aload_n 1, 1) := by decide +kernel
theorem dL_law_1247 : decode cL_law 1247 = .ok (.aload_n 0, 1) := by decide +kernel
theorem dL_law_1248 : decode cL_law 1248 = .ok (.iload 4, 2) := by decide +kernel
theorem dL_law_1250 : decode cL_law 1250 = .ok (.iconst 1, 1) := by decide +kernel
theorem dL_law_1251 : decode cL_law 1251 = .ok (.iadd, 1) := by decide +kernel
theorem dL_law_1252 : decode cL_law 1252 = .ok (.iaload, 1) := by decide +kernel
theorem dL_law_1253 : decode cL_law 1253 = .ok (.aload_n 0, 1) := by decide +kernel
theorem dL_law_1254 : decode cL_law 1254 = .ok (.iload 4, 2) := by decide +kernel
theorem dL_law_1256 : decode cL_law 1256 = .ok (.iconst 2, 1) := by decide +kernel
theorem dL_law_1257 : decode cL_law 1257 = .ok (.iadd, 1) := by decide +kernel
theorem dL_law_1258 : decode cL_law 1258 = .ok (.iaload, 1) := by decide +kernel
theorem dL_law_1259 : decode cL_law 1259 = .ok (.invokevirtual 118, 3) := by decide +kernel
theorem dL_law_1262 : decode cL_law 1262 = .ok (.aload_n 2, 1) := by decide +kernel
theorem dL_law_1263 : decode cL_law 1263 = .ok (.aload_n 0, 1) := by decide +kernel
theorem dL_law_1264 : decode cL_law 1264 = .ok (.iload 4, 2) := by decide +kernel
theorem dL_law_1266 : decode cL_law 1266 = .ok (.iconst 1, 1) := by decide +kernel
theorem dL_law_1267 : decode cL_law 1267 = .ok (.iadd, 1) := by decide +kernel
theorem dL_law_1268 : decode cL_law 1268 = .ok (.iaload, 1) := by decide +kernel
theorem dL_law_1269 : decode cL_law 1269 = .ok (.aload_n 0, 1) := by decide +kernel
theorem dL_law_1270 : decode cL_law 1270 = .ok (.iload 4, 2) := by decide +kernel
theorem dL_law_1272 : decode cL_law 1272 = .ok (.iconst 2, 1) := by decide +kernel
theorem dL_law_1273 : decode cL_law 1273 = .ok (.iadd, 1) := by decide +kernel
theorem dL_law_1274 : decode cL_law 1274 = .ok (.iaload, 1) := by decide +kernel
theorem dL_law_1275 : decode cL_law 1275 = .ok (.invokevirtual 121, 3) := by decide +kernel
theorem dL_law_1278 : decode cL_law 1278 = .ok (.if_icmp .eq 1085, 3) := by decide +kernel
theorem dL_law_1281 : decode cL_law 1281 = .ok (.iconst 0, 1) := by decide +kernel
theorem dL_law_1282 : decode cL_law 1282 = .ok (.ireturn, 1) := by decide +kernel
theorem dL_law_1283 : decode cL_law 1283 = .ok (.aload_n 1, 1) := by decide +kernel
theorem dL_law_1284 : decode cL_law 1284 = .ok (.aload_n 0, 1) := by decide +kernel
theorem dL_law_1285 : decode cL_law 1285 = .ok (.iload 4, 2) := by decide +kernel
theorem dL_law_1287 : decode cL_law 1287 = .ok (.iconst 1, 1) := by decide +kernel
theorem dL_law_1288 : decode cL_law 1288 = .ok (.iadd, 1) := by decide +kernel
theorem dL_law_1289 : decode cL_law 1289 = .ok (.iaload, 1) := by decide +kernel
theorem dL_law_1290 : decode cL_law 1290 = .ok (.aload_n 0, 1) := by decide +kernel
theorem dL_law_1291 : decode cL_law 1291 = .ok (.iload 4, 2) := by decide +kernel
theorem dL_law_1293 : decode cL_law 1293 = .ok (.iconst 2, 1) := by decide +kernel
theorem dL_law_1294 : decode cL_law 1294 = .ok (.iadd, 1) := by decide +kernel
theorem dL_law_1295 : decode cL_law 1295 = .ok (.iaload, 1) := by decide +kernel
theorem dL_law_1296 : decode cL_law 1296 = .ok (.aload_n 0, 1) := by decide +kernel
theorem dL_law_1297 : decode cL_law 1297 = .ok (.iload 4, 2) := by decide +kernel
theorem dL_law_1299 : decode cL_law 1299 = .ok (.iconst 3, 1) := by decide +kernel
theorem dL_law_1300 : decode cL_law 1300 = .ok (.iadd, 1) := by decide +kernel
theorem dL_law_1301 : decode cL_law 1301 = .ok (.iaload, 1) := by decide +kernel
theorem dL_law_1302 : decode cL_law 1302 = .ok (.aload_n 0, 1) := by decide +kernel
theorem dL_law_1303 : decode cL_law 1303 = .ok (.iload 4, 2) := by decide +kernel
theorem dL_law_1305 : decode cL_law 1305 = .ok (.iconst 4, 1) := by decide +kernel
theorem dL_law_1306 : decode cL_law 1306 = .ok (.iadd, 1) := by decide +kernel
theorem dL_law_1307 : decode cL_law 1307 = .ok (.iaload, 1) := by decide +kernel
theorem dL_law_1308 : decode cL_law 1308 = .ok (.aload_n 0, 1) := by decide +kernel
theorem dL_law_1309 : decode cL_law 1309 = .ok (.iload 4, 2) := by decide +kernel
theorem dL_law_1311 : decode cL_law 1311 = .ok (.iconst 5, 1) := by decide +kernel
theorem dL_law_1312 : decode cL_law 1312 = .ok (.iadd, 1) := by decide +kernel
theorem dL_law_1313 : decode cL_law 1313 = .ok (.iaload, 1) := by decide +kernel
theorem dL_law_1314 : decode cL_law 1314 = .ok (.aload_n 0, 1) := by decide +kernel
theorem dL_law_1315 : decode cL_law 1315 = .ok (.iload 4, 2) := by decide +kernel
theorem dL_law_1317 : decode cL_law 1317 = .ok (.bipush 6, 2) := by decide +kernel
theorem dL_law_1319 : decode cL_law 1319 = .ok (.iadd, 1) := by decide +kernel
theorem dL_law_1320 : decode cL_law 1320 = .ok (.iaload, 1) := by decide +kernel
theorem dL_law_1321 : decode cL_law 1321 = .ok (.invokevirtual 122, 3) := by decide +kernel
theorem dL_law_1324 : decode cL_law 1324 = .ok (.aload_n 2, 1) := by decide +kernel
theorem dL_law_1325 : decode cL_law 1325 = .ok (.aload_n 0, 1) := by decide +kernel
theorem dL_law_1326 : decode cL_law 1326 = .ok (.iload 4, 2) := by decide +kernel
theorem dL_law_1328 : decode cL_law 1328 = .ok (.iconst 1, 1) := by decide +kernel
theorem dL_law_1329 : decode cL_law 1329 = .ok (.iadd, 1) := by decide +kernel
theorem dL_law_1330 : decode cL_law 1330 = .ok (.iaload, 1) := by decide +kernel
theorem dL_law_1331 : decode cL_law 1331 = .ok (.aload_n 0, 1) := by decide +kernel
theorem dL_law_1332 : decode cL_law 1332 = .ok (.iload 4, 2) := by decide +kernel
theorem dL_law_1334 : decode cL_law 1334 = .ok (.iconst 2, 1) := by decide +kernel
theorem dL_law_1335 : decode cL_law 1335 = .ok (.iadd, 1) := by decide +kernel
theorem dL_law_1336 : decode cL_law 1336 = .ok (.iaload, 1) := by decide +kernel
theorem dL_law_1337 : decode cL_law 1337 = .ok (.aload_n 0, 1) := by decide +kernel
theorem dL_law_1338 : decode cL_law 1338 = .ok (.iload 4, 2) := by decide +kernel
theorem dL_law_1340 : decode cL_law 1340 = .ok (.iconst 3, 1) := by decide +kernel
theorem dL_law_1341 : decode cL_law 1341 = .ok (.iadd, 1) := by decide +kernel
theorem dL_law_1342 : decode cL_law 1342 = .ok (.iaload, 1) := by decide +kernel
theorem dL_law_1343 : decode cL_law 1343 = .ok (.aload_n 0, 1) := by decide +kernel
theorem dL_law_1344 : decode cL_law 1344 = .ok (.iload 4, 2) := by decide +kernel
theorem dL_law_1346 : decode cL_law 1346 = .ok (.iconst 4, 1) := by decide +kernel
theorem dL_law_1347 : decode cL_law 1347 = .ok (.iadd, 1) := by decide +kernel
theorem dL_law_1348 : decode cL_law 1348 = .ok (.iaload, 1) := by decide +kernel
theorem dL_law_1349 : decode cL_law 1349 = .ok (.aload_n 0, 1) := by decide +kernel
theorem dL_law_1350 : decode cL_law 1350 = .ok (.iload 4, 2) := by decide +kernel
theorem dL_law_1352 : decode cL_law 1352 = .ok (.iconst 5, 1) := by decide +kernel
theorem dL_law_1353 : decode cL_law 1353 = .ok (.iadd, 1) := by decide +kernel
theorem dL_law_1354 : decode cL_law 1354 = .ok (.iaload, 1) := by decide +kernel
theorem dL_law_1355 : decode cL_law 1355 = .ok (.aload_n 0, 1) := by decide +kernel
theorem dL_law_1356 : decode cL_law 1356 = .ok (.iload 4, 2) := by decide +kernel
theorem dL_law_1358 : decode cL_law 1358 = .ok (.bipush 6, 2) := by decide +kernel
theorem dL_law_1360 : decode cL_law 1360 = .ok (.iadd, 1) := by decide +kernel
theorem dL_law_1361 : decode cL_law 1361 = .ok (.iaload, 1) := by decide +kernel
theorem dL_law_1362 : decode cL_law 1362 = .ok (.invokevirtual 125, 3) := by decide +kernel
theorem dL_law_1365 : decode cL_law 1365 = .ok (.if_icmp .eq 998, 3) := by decide +kernel
theorem dL_law_1368 : decode cL_law 1368 = .ok (.iconst 0, 1) := by decide +kernel
theorem dL_law_1369 : decode cL_law 1369 = .ok (.ireturn, 1) := by decide +kernel
theorem dL_law_1370 : decode cL_law 1370 = .ok (.aload_n 1, 1) := by decide +kernel
theorem dL_law_1371 : decode cL_law 1371 = .ok (.aload_n 0, 1) := by decide +kernel
theorem dL_law_1372 : decode cL_law 1372 = .ok (.iload 4, 2) := by decide +kernel
theorem dL_law_1374 : decode cL_law 1374 = .ok (.iconst 1, 1) := by decide +kernel
theorem dL_law_1375 : decode cL_law 1375 = .ok (.iadd, 1) := by decide +kernel
theorem dL_law_1376 : decode cL_law 1376 = .ok (.iaload, 1) := by decide +kernel
theorem dL_law_1377 : decode cL_law 1377 = .ok (.aload_n 0, 1) := by decide +kernel
theorem dL_law_1378 : decode cL_law 1378 = .ok (.iload 4, 2) := by decide +kernel
theorem dL_law_1380 : decode cL_law 1380 = .ok (.iconst 2, 1) := by decide +kernel
theorem dL_law_1381 : decode cL_law 1381 = .ok (.iadd, 1) := by decide +kernel
theorem dL_law_1382 : decode cL_law 1382 = .ok (.iaload, 1) := by decide +kernel
theorem dL_law_1383 : decode cL_law 1383 = .ok (.aload_n 0, 1) := by decide +kernel
theorem dL_law_1384 : decode cL_law 1384 = .ok (.iload 4, 2) := by decide +kernel
theorem dL_law_1386 : decode cL_law 1386 = .ok (.iconst 3, 1) := by decide +kernel
theorem dL_law_1387 : decode cL_law 1387 = .ok (.iadd, 1) := by decide +kernel
theorem dL_law_1388 : decode cL_law 1388 = .ok (.iaload, 1) := by decide +kernel
theorem dL_law_1389 : decode cL_law 1389 = .ok (.aload_n 0, 1) := by decide +kernel
theorem dL_law_1390 : decode cL_law 1390 = .ok (.iload 4, 2) := by decide +kernel
theorem dL_law_1392 : decode cL_law 1392 = .ok (.iconst 4, 1) := by decide +kernel
theorem dL_law_1393 : decode cL_law 1393 = .ok (.iadd, 1) := by decide +kernel
theorem dL_law_1394 : decode cL_law 1394 = .ok (.iaload, 1) := by decide +kernel
theorem dL_law_1395 : decode cL_law 1395 = .ok (.aload_n 0, 1) := by decide +kernel
theorem dL_law_1396 : decode cL_law 1396 = .ok (.iload 4, 2) := by decide +kernel
theorem dL_law_1398 : decode cL_law 1398 = .ok (.iconst 5, 1) := by decide +kernel
theorem dL_law_1399 : decode cL_law 1399 = .ok (.iadd, 1) := by decide +kernel
theorem dL_law_1400 : decode cL_law 1400 = .ok (.iaload, 1) := by decide +kernel
theorem dL_law_1401 : decode cL_law 1401 = .ok (.invokevirtual 126, 3) := by decide +kernel
theorem dL_law_1404 : decode cL_law 1404 = .ok (.aload_n 2, 1) := by decide +kernel
theorem dL_law_1405 : decode cL_law 1405 = .ok (.aload_n 0, 1) := by decide +kernel
theorem dL_law_1406 : decode cL_law 1406 = .ok (.iload 4, 2) := by decide +kernel
theorem dL_law_1408 : decode cL_law 1408 = .ok (.iconst 1, 1) := by decide +kernel
theorem dL_law_1409 : decode cL_law 1409 = .ok (.iadd, 1) := by decide +kernel
theorem dL_law_1410 : decode cL_law 1410 = .ok (.iaload, 1) := by decide +kernel
theorem dL_law_1411 : decode cL_law 1411 = .ok (.aload_n 0, 1) := by decide +kernel
theorem dL_law_1412 : decode cL_law 1412 = .ok (.iload 4, 2) := by decide +kernel
theorem dL_law_1414 : decode cL_law 1414 = .ok (.iconst 2, 1) := by decide +kernel
theorem dL_law_1415 : decode cL_law 1415 = .ok (.iadd, 1) := by decide +kernel
theorem dL_law_1416 : decode cL_law 1416 = .ok (.iaload, 1) := by decide +kernel
theorem dL_law_1417 : decode cL_law 1417 = .ok (.aload_n 0, 1) := by decide +kernel
theorem dL_law_1418 : decode cL_law 1418 = .ok (.iload 4, 2) := by decide +kernel
theorem dL_law_1420 : decode cL_law 1420 = .ok (.iconst 3, 1) := by decide +kernel
theorem dL_law_1421 : decode cL_law 1421 = .ok (.iadd, 1) := by decide +kernel
theorem dL_law_1422 : decode cL_law 1422 = .ok (.iaload, 1) := by decide +kernel
theorem dL_law_1423 : decode cL_law 1423 = .ok (.aload_n 0, 1) := by decide +kernel
theorem dL_law_1424 : decode cL_law 1424 = .ok (.iload 4, 2) := by decide +kernel
theorem dL_law_1426 : decode cL_law 1426 = .ok (.iconst 4, 1) := by decide +kernel
theorem dL_law_1427 : decode cL_law 1427 = .ok (.iadd, 1) := by decide +kernel
theorem dL_law_1428 : decode cL_law 1428 = .ok (.iaload, 1) := by decide +kernel
theorem dL_law_1429 : decode cL_law 1429 = .ok (.aload_n 0, 1) := by decide +kernel
theorem dL_law_1430 : decode cL_law 1430 = .ok (.iload 4, 2) := by decide +kernel
theorem dL_law_1432 : decode cL_law 1432 = .ok (.iconst 5, 1) := by decide +kernel
theorem dL_law_1433 : decode cL_law 1433 = .ok (.iadd, 1) := by decide +kernel
theorem dL_law_1434 : decode cL_law 1434 = .ok (.iaload, 1) := by decide +kernel
theorem dL_law_1435 : decode cL_law 1435 = .ok (.invokevirtual 129, 3) := by decide +kernel
theorem dL_law_1438 : decode cL_law 1438 = .ok (.if_icmp .eq 925, 3) := by decide +kernel
theorem dL_law_1441 : decode cL_law 1441 = .ok (.iconst 0, 1) := by decide +kernel
theorem dL_law_1442 : decode cL_law 1442 = .ok (.ireturn, 1) := by decide +kernel
theorem dL_law_1443 : decode cL_law 1443 = .ok (.aload_n 1, 1) := by decide +kernel
theorem dL_law_1444 : decode cL_law 1444 = .ok (.aload_n 0, 1) := by decide +kernel
theorem dL_law_1445 : decode cL_law 1445 = .ok (.iload 4, 2) := by decide +kernel
theorem dL_law_1447 : decode cL_law 1447 = .ok (.iconst 1, 1) := by decide +kernel
theorem dL_law_1448 : decode cL_law 1448 = .ok (.iadd, 1) := by decide +kernel
theorem dL_law_1449 : decode cL_law 1449 = .ok (.iaload, 1) := by decide +kernel
theorem dL_law_1450 : decode cL_law 1450 = .ok (.aload_n 0, 1) := by decide +kernel
theorem dL_law_1451 : decode cL_law 1451 = .ok (.iload 4, 2) := by decide +kernel
theorem dL_law_1453 : decode cL_law 1453 = .ok (.iconst 2, 1) := by decide +kernel
theorem dL_law_1454 : decode cL_law 1454 = .ok (.iadd, 1) := by decide +kernel
theorem dL_law_1455 : decode cL_law 1455 = .ok (.iaload, 1) := by decide +kernel
theorem dL_law_1456 : decode cL_law 1456 = .ok (.aload_n 0, 1) := by decide +kernel
theorem dL_law_1457 : decode cL_law 1457 = .ok (.iload 4, 2) := by decide +kernel
theorem dL_law_1459 : decode cL_law 1459 = .ok (.iconst 3, 1) := by decide +kernel
theorem dL_law_1460 : decode cL_law 1460 = .ok (.iadd, 1) := by decide +kernel
theorem dL_law_1461 : decode cL_law 1461 = .ok (.iaload, 1) := by decide +kernel
theorem dL_law_1462 : decode cL_law 1462 = .ok (.aload_n 0, 1) := by decide +kernel
theorem dL_law_1463 : decode cL_law 1463 = .ok (.iload 4, 2) := by decide +kernel
theorem dL_law_1465 : decode cL_law 1465 = .ok (.iconst 4, 1) := by decide +kernel
theorem dL_law_1466 : decode cL_law 1466 = .ok (.iadd, 1) := by decide +kernel
theorem dL_law_1467 : decode cL_law 1467 = .ok (.iaload, 1) := by decide +kernel
theorem dL_law_1468 : decode cL_law 1468 = .ok (.aload_n 0, 1) := by decide +kernel
theorem dL_law_1469 : decode cL_law 1469 = .ok (.iload 4, 2) := by decide +kernel
theorem dL_law_1471 : decode cL_law 1471 = .ok (.iconst 5, 1) := by decide +kernel
theorem dL_law_1472 : decode cL_law 1472 = .ok (.iadd, 1) := by decide +kernel
theorem dL_law_1473 : decode cL_law 1473 = .ok (.iaload, 1) := by decide +kernel
theorem dL_law_1474 : decode cL_law 1474 = .ok (.invokevirtual 130, 3) := by decide +kernel
theorem dL_law_1477 : decode cL_law 1477 = .ok (.aload_n 2, 1) := by decide +kernel
theorem dL_law_1478 : decode cL_law 1478 = .ok (.aload_n 0, 1) := by decide +kernel
theorem dL_law_1479 : decode cL_law 1479 = .ok (.iload 4, 2) := by decide +kernel
theorem dL_law_1481 : decode cL_law 1481 = .ok (.iconst 1, 1) := by decide +kernel
theorem dL_law_1482 : decode cL_law 1482 = .ok (.iadd, 1) := by decide +kernel
theorem dL_law_1483 : decode cL_law 1483 = .ok (.iaload, 1) := by decide +kernel
theorem dL_law_1484 : decode cL_law 1484 = .ok (.aload_n 0, 1) := by decide +kernel
theorem dL_law_1485 : decode cL_law 1485 = .ok (.iload 4, 2) := by decide +kernel
theorem dL_law_1487 : decode cL_law 1487 = .ok (.iconst 2, 1) := by decide +kernel
theorem dL_law_1488 : decode cL_law 1488 = .ok (.iadd, 1) := by decide +kernel
theorem dL_law_1489 : decode cL_law 1489 = .ok (.iaload, 1) := by decide +kernel
theorem dL_law_1490 : decode cL_law 1490 = .ok (.aload_n 0, 1) := by decide +kernel
theorem dL_law_1491 : decode cL_law 1491 = .ok (.iload 4, 2) := by decide +kernel
theorem dL_law_1493 : decode cL_law 1493 = .ok (.iconst 3, 1) := by decide +kernel
theorem dL_law_1494 : decode cL_law 1494 = .ok (.iadd, 1) := by decide +kernel
theorem dL_law_1495 : decode cL_law 1495 = .ok (.iaload, 1) := by decide +kernel
theorem dL_law_1496 : decode cL_law 1496 = .ok (.aload_n 0, 1) := by decide +kernel
theorem dL_law_1497 : decode cL_law 1497 = .ok (.iload 4, 2) := by decide +kernel
theorem dL_law_1499 : decode cL_law 1499 = .ok (.iconst 4, 1) := by decide +kernel
theorem dL_law_1500 : decode cL_law 1500 = .ok (.iadd, 1) := by decide +kernel
theorem dL_law_1501 : decode cL_law 1501 = .ok (.iaload, 1) := by decide +kernel
theorem dL_law_1502 : decode cL_law 1502 = .ok (.aload_n 0, 1) := by decide +kernel
theorem dL_law_1503 : decode cL_law 1503 = .ok (.iload 4, 2) := by decide +kernel
theorem dL_law_1505 : decode cL_law 1505 = .ok (.iconst 5, 1) := by decide +kernel
theorem dL_law_1506 : decode cL_law 1506 = .ok (.iadd, 1) := by decide +kernel
theorem dL_law_1507 : decode cL_law 1507 = .ok (.iaload, 1) := by decide +kernel
theorem dL_law_1508 : decode cL_law 1508 = .ok (.invokevirtual 133, 3) := by decide +kernel
theorem dL_law_1511 : decode cL_law 1511 = .ok (.if_icmp .eq 852, 3) := by decide +kernel
theorem dL_law_1514 : decode cL_law 1514 = .ok (.iconst 0, 1) := by decide +kernel
theorem dL_law_1515 : decode cL_law 1515 = .ok (.ireturn, 1) := by decide +kernel
theorem dL_law_1516 : decode cL_law 1516 = .ok (.aload_n 1, 1) := by decide +kernel
theorem dL_law_1517 : decode cL_law 1517 = .ok (.aload_n 0, 1) := by decide +kernel
theorem dL_law_1518 : decode cL_law 1518 = .ok (.iload 4, 2) := by decide +kernel
theorem dL_law_1520 : decode cL_law 1520 = .ok (.iconst 1, 1) := by decide +kernel
theorem dL_law_1521 : decode cL_law 1521 = .ok (.iadd, 1) := by decide +kernel
theorem dL_law_1522 : decode cL_law 1522 = .ok (.iaload, 1) := by decide +kernel
theorem dL_law_1523 : decode cL_law 1523 = .ok (.aload_n 0, 1) := by decide +kernel
theorem dL_law_1524 : decode cL_law 1524 = .ok (.iload 4, 2) := by decide +kernel
theorem dL_law_1526 : decode cL_law 1526 = .ok (.iconst 2, 1) := by decide +kernel
theorem dL_law_1527 : decode cL_law 1527 = .ok (.iadd, 1) := by decide +kernel
theorem dL_law_1528 : decode cL_law 1528 = .ok (.iaload, 1) := by decide +kernel
theorem dL_law_1529 : decode cL_law 1529 = .ok (.aload_n 0, 1) := by decide +kernel
theorem dL_law_1530 : decode cL_law 1530 = .ok (.iload 4, 2) := by decide +kernel
theorem dL_law_1532 : decode cL_law 1532 = .ok (.iconst 3, 1) := by decide +kernel
theorem dL_law_1533 : decode cL_law 1533 = .ok (.iadd, 1) := by decide +kernel
theorem dL_law_1534 : decode cL_law 1534 = .ok (.iaload, 1) := by decide +kernel
theorem dL_law_1535 : decode cL_law 1535 = .ok (.aload_n 0, 1) := by decide +kernel
theorem dL_law_1536 : decode cL_law 1536 = .ok (.iload 4, 2) := by decide +kernel
theorem dL_law_1538 : decode cL_law 1538 = .ok (.iconst 4, 1) := by decide +kernel
theorem dL_law_1539 : decode cL_law 1539 = .ok (.iadd, 1) := by decide +kernel
theorem dL_law_1540 : decode cL_law 1540 = .ok (.iaload, 1) := by decide +kernel
theorem dL_law_1541 : decode cL_law 1541 = .ok (.invokevirtual 134, 3) := by decide +kernel
theorem dL_law_1544 : decode cL_law 1544 = .ok (.aload_n 2, 1) := by decide +kernel
theorem dL_law_1545 : decode cL_law 1545 = .ok (.aload_n 0, 1) := by decide +kernel
theorem dL_law_1546 : decode cL_law 1546 = .ok (.iload 4, 2) := by decide +kernel
theorem dL_law_1548 : decode cL_law 1548 = .ok (.iconst 1, 1) := by decide +kernel
theorem dL_law_1549 : decode cL_law 1549 = .ok (.iadd, 1) := by decide +kernel
theorem dL_law_1550 : decode cL_law 1550 = .ok (.iaload, 1) := by decide +kernel
theorem dL_law_1551 : decode cL_law 1551 = .ok (.aload_n 0, 1) := by decide +kernel
theorem dL_law_1552 : decode cL_law 1552 = .ok (.iload 4, 2) := by decide +kernel
theorem dL_law_1554 : decode cL_law 1554 = .ok (.iconst 2, 1) := by decide +kernel
theorem dL_law_1555 : decode cL_law 1555 = .ok (.iadd, 1) := by decide +kernel
theorem dL_law_1556 : decode cL_law 1556 = .ok (.iaload, 1) := by decide +kernel
theorem dL_law_1557 : decode cL_law 1557 = .ok (.aload_n 0, 1) := by decide +kernel
theorem dL_law_1558 : decode cL_law 1558 = .ok (.iload 4, 2) := by decide +kernel
theorem dL_law_1560 : decode cL_law 1560 = .ok (.iconst 3, 1) := by decide +kernel
theorem dL_law_1561 : decode cL_law 1561 = .ok (.iadd, 1) := by decide +kernel
theorem dL_law_1562 : decode cL_law 1562 = .ok (.iaload, 1) := by decide +kernel
theorem dL_law_1563 : decode cL_law 1563 = .ok (.aload_n 0, 1) := by decide +kernel
theorem dL_law_1564 : decode cL_law 1564 = .ok (.iload 4, 2) := by decide +kernel
theorem dL_law_1566 : decode cL_law 1566 = .ok (.iconst 4, 1) := by decide +kernel
theorem dL_law_1567 : decode cL_law 1567 = .ok (.iadd, 1) := by decide +kernel
theorem dL_law_1568 : decode cL_law 1568 = .ok (.iaload, 1) := by decide +kernel
theorem dL_law_1569 : decode cL_law 1569 = .ok (.invokevirtual 137, 3) := by decide +kernel
theorem dL_law_1572 : decode cL_law 1572 = .ok (.if_icmp .eq 791, 3) := by decide +kernel
theorem dL_law_1575 : decode cL_law 1575 = .ok (.iconst 0, 1) := by decide +kernel
theorem dL_law_1576 : decode cL_law 1576 = .ok (.ireturn, 1) := by decide +kernel
theorem dL_law_1577 : decode cL_law 1577 = .ok (.aload_n 1, 1) := by decide +kernel
theorem dL_law_1578 : decode cL_law 1578 = .ok (.aload_n 0, 1) := by decide +kernel
theorem dL_law_1579 : decode cL_law 1579 = .ok (.iload 4, 2) := by decide +kernel
theorem dL_law_1581 : decode cL_law 1581 = .ok (.iconst 1, 1) := by decide +kernel
theorem dL_law_1582 : decode cL_law 1582 = .ok (.iadd, 1) := by decide +kernel
theorem dL_law_1583 : decode cL_law 1583 = .ok (.iaload, 1) := by decide +kernel
theorem dL_law_1584 : decode cL_law 1584 = .ok (.aload_n 0, 1) := by decide +kernel
theorem dL_law_1585 : decode cL_law 1585 = .ok (.iload 4, 2) := by decide +kernel
theorem dL_law_1587 : decode cL_law 1587 = .ok (.iconst 2, 1) := by decide +kernel
theorem dL_law_1588 : decode cL_law 1588 = .ok (.iadd, 1) := by decide +kernel
theorem dL_law_1589 : decode cL_law 1589 = .ok (.iaload, 1) := by decide +kernel
theorem dL_law_1590 : decode cL_law 1590 = .ok (.aload_n 0, 1) := by decide +kernel
theorem dL_law_1591 : decode cL_law 1591 = .ok (.iload 4, 2) := by decide +kernel
theorem dL_law_1593 : decode cL_law 1593 = .ok (.iconst 3, 1) := by decide +kernel
theorem dL_law_1594 : decode cL_law 1594 = .ok (.iadd, 1) := by decide +kernel
theorem dL_law_1595 : decode cL_law 1595 = .ok (.iaload, 1) := by decide +kernel
theorem dL_law_1596 : decode cL_law 1596 = .ok (.aload_n 0, 1) := by decide +kernel
theorem dL_law_1597 : decode cL_law 1597 = .ok (.iload 4, 2) := by decide +kernel
theorem dL_law_1599 : decode cL_law 1599 = .ok (.iconst 4, 1) := by decide +kernel
theorem dL_law_1600 : decode cL_law 1600 = .ok (.iadd, 1) := by decide +kernel
theorem dL_law_1601 : decode cL_law 1601 = .ok (.iaload, 1) := by decide +kernel
theorem dL_law_1602 : decode cL_law 1602 = .ok (.aload_n 0, 1) := by decide +kernel
theorem dL_law_1603 : decode cL_law 1603 = .ok (.iload 4, 2) := by decide +kernel
theorem dL_law_1605 : decode cL_law 1605 = .ok (.iconst 5, 1) := by decide +kernel
theorem dL_law_1606 : decode cL_law 1606 = .ok (.iadd, 1) := by decide +kernel
theorem dL_law_1607 : decode cL_law 1607 = .ok (.iaload, 1) := by decide +kernel
theorem dL_law_1608 : decode cL_law 1608 = .ok (.aload_n 0, 1) := by decide +kernel
theorem dL_law_1609 : decode cL_law 1609 = .ok (.iload 4, 2) := by decide +kernel
theorem dL_law_1611 : decode cL_law 1611 = .ok (.bipush 6, 2) := by decide +kernel
theorem dL_law_1613 : decode cL_law 1613 = .ok (.iadd, 1) := by decide +kernel
theorem dL_law_1614 : decode cL_law 1614 = .ok (.iaload, 1) := by decide +kernel
theorem dL_law_1615 : decode cL_law 1615 = .ok (.invokevirtual 138, 3) := by decide +kernel
theorem dL_law_1618 : decode cL_law 1618 = .ok (.aload_n 2, 1) := by decide +kernel
theorem dL_law_1619 : decode cL_law 1619 = .ok (.aload_n 0, 1) := by decide +kernel
theorem dL_law_1620 : decode cL_law 1620 = .ok (.iload 4, 2) := by decide +kernel
theorem dL_law_1622 : decode cL_law 1622 = .ok (.iconst 1, 1) := by decide +kernel
theorem dL_law_1623 : decode cL_law 1623 = .ok (.iadd, 1) := by decide +kernel
theorem dL_law_1624 : decode cL_law 1624 = .ok (.iaload, 1) := by decide +kernel
theorem dL_law_1625 : decode cL_law 1625 = .ok (.aload_n 0, 1) := by decide +kernel
theorem dL_law_1626 : decode cL_law 1626 = .ok (.iload 4, 2) := by decide +kernel
theorem dL_law_1628 : decode cL_law 1628 = .ok (.iconst 2, 1) := by decide +kernel
theorem dL_law_1629 : decode cL_law 1629 = .ok (.iadd, 1) := by decide +kernel
theorem dL_law_1630 : decode cL_law 1630 = .ok (.iaload, 1) := by decide +kernel
theorem dL_law_1631 : decode cL_law 1631 = .ok (.aload_n 0, 1) := by decide +kernel
theorem dL_law_1632 : decode cL_law 1632 = .ok (.iload 4, 2) := by decide +kernel
theorem dL_law_1634 : decode cL_law 1634 = .ok (.iconst 3, 1) := by decide +kernel
theorem dL_law_1635 : decode cL_law 1635 = .ok (.iadd, 1) := by decide +kernel
theorem dL_law_1636 : decode cL_law 1636 = .ok (.iaload, 1) := by decide +kernel
theorem dL_law_1637 : decode cL_law 1637 = .ok (.aload_n 0, 1) := by decide +kernel
theorem dL_law_1638 : decode cL_law 1638 = .ok (.iload 4, 2) := by decide +kernel
theorem dL_law_1640 : decode cL_law 1640 = .ok (.iconst 4, 1) := by decide +kernel
theorem dL_law_1641 : decode cL_law 1641 = .ok (.iadd, 1) := by decide +kernel
theorem dL_law_1642 : decode cL_law 1642 = .ok (.iaload, 1) := by decide +kernel
theorem dL_law_1643 : decode cL_law 1643 = .ok (.aload_n 0, 1) := by decide +kernel
theorem dL_law_1644 : decode cL_law 1644 = .ok (.iload 4, 2) := by decide +kernel
theorem dL_law_1646 : decode cL_law 1646 = .ok (.iconst 5, 1) := by decide +kernel
theorem dL_law_1647 : decode cL_law 1647 = .ok (.iadd, 1) := by decide +kernel
theorem dL_law_1648 : decode cL_law 1648 = .ok (.iaload, 1) := by decide +kernel
theorem dL_law_1649 : decode cL_law 1649 = .ok (.aload_n 0, 1) := by decide +kernel
theorem dL_law_1650 : decode cL_law 1650 = .ok (.iload 4, 2) := by decide +kernel
theorem dL_law_1652 : decode cL_law 1652 = .ok (.bipush 6, 2) := by decide +kernel
theorem dL_law_1654 : decode cL_law 1654 = .ok (.iadd, 1) := by decide +kernel
theorem dL_law_1655 : decode cL_law 1655 = .ok (.iaload, 1) := by decide +kernel
theorem dL_law_1656 : decode cL_law 1656 = .ok (.invokevirtual 141, 3) := by decide +kernel
theorem dL_law_1659 : decode cL_law 1659 = .ok (.if_icmp .eq 704, 3) := by decide +kernel
theorem dL_law_1662 : decode cL_law 1662 = .ok (.iconst 0, 1) := by decide +kernel
theorem dL_law_1663 : decode cL_law 1663 = .ok (.ireturn, 1) := by decide +kernel
theorem dL_law_1664 : decode cL_law 1664 = .ok (.aload_n 1, 1) := by decide +kernel
theorem dL_law_1665 : decode cL_law 1665 = .ok (.aload_n 0, 1) := by decide +kernel
theorem dL_law_1666 : decode cL_law 1666 = .ok (.iload 4, 2) := by decide +kernel
theorem dL_law_1668 : decode cL_law 1668 = .ok (.iconst 1, 1) := by decide +kernel
theorem dL_law_1669 : decode cL_law 1669 = .ok (.iadd, 1) := by decide +kernel
theorem dL_law_1670 : decode cL_law 1670 = .ok (.iaload, 1) := by decide +kernel
theorem dL_law_1671 : decode cL_law 1671 = .ok (.aload_n 0, 1) := by decide +kernel
theorem dL_law_1672 : decode cL_law 1672 = .ok (.iload 4, 2) := by decide +kernel
theorem dL_law_1674 : decode cL_law 1674 = .ok (.iconst 2, 1) := by decide +kernel
theorem dL_law_1675 : decode cL_law 1675 = .ok (.iadd, 1) := by decide +kernel
theorem dL_law_1676 : decode cL_law 1676 = .ok (.iaload, 1) := by decide +kernel
theorem dL_law_1677 : decode cL_law 1677 = .ok (.aload_n 0, 1) := by decide +kernel
theorem dL_law_1678 : decode cL_law 1678 = .ok (.iload 4, 2) := by decide +kernel
theorem dL_law_1680 : decode cL_law 1680 = .ok (.iconst 3, 1) := by decide +kernel
theorem dL_law_1681 : decode cL_law 1681 = .ok (.iadd, 1) := by decide +kernel
theorem dL_law_1682 : decode cL_law 1682 = .ok (.iaload, 1) := by decide +kernel
theorem dL_law_1683 : decode cL_law 1683 = .ok (.aload_n 0, 1) := by decide +kernel
theorem dL_law_1684 : decode cL_law 1684 = .ok (.iload 4, 2) := by decide +kernel
theorem dL_law_1686 : decode cL_law 1686 = .ok (.iconst 4, 1) := by decide +kernel
theorem dL_law_1687 : decode cL_law 1687 = .ok (.iadd, 1) := by decide +kernel
theorem dL_law_1688 : decode cL_law 1688 = .ok (.iaload, 1) := by decide +kernel
theorem dL_law_1689 : decode cL_law 1689 = .ok (.invokevirtual 142, 3) := by decide +kernel
theorem dL_law_1692 : decode cL_law 1692 = .ok (.aload_n 2, 1) := by decide +kernel
theorem dL_law_1693 : decode cL_law 1693 = .ok (.aload_n 0, 1) := by decide +kernel
theorem dL_law_1694 : decode cL_law 1694 = .ok (.iload 4, 2) := by decide +kernel
theorem dL_law_1696 : decode cL_law 1696 = .ok (.iconst 1, 1) := by decide +kernel
theorem dL_law_1697 : decode cL_law 1697 = .ok (.iadd, 1) := by decide +kernel
theorem dL_law_1698 : decode cL_law 1698 = .ok (.iaload, 1) := by decide +kernel
theorem dL_law_1699 : decode cL_law 1699 = .ok (.aload_n 0, 1) := by decide +kernel
theorem dL_law_1700 : decode cL_law 1700 = .ok (.iload 4, 2) := by decide +kernel
theorem dL_law_1702 : decode cL_law 1702 = .ok (.iconst 2, 1) := by decide +kernel
theorem dL_law_1703 : decode cL_law 1703 = .ok (.iadd, 1) := by decide +kernel
theorem dL_law_1704 : decode cL_law 1704 = .ok (.iaload, 1) := by decide +kernel
theorem dL_law_1705 : decode cL_law 1705 = .ok (.aload_n 0, 1) := by decide +kernel
theorem dL_law_1706 : decode cL_law 1706 = .ok (.iload 4, 2) := by decide +kernel
theorem dL_law_1708 : decode cL_law 1708 = .ok (.iconst 3, 1) := by decide +kernel
theorem dL_law_1709 : decode cL_law 1709 = .ok (.iadd, 1) := by decide +kernel
theorem dL_law_1710 : decode cL_law 1710 = .ok (.iaload, 1) := by decide +kernel
theorem dL_law_1711 : decode cL_law 1711 = .ok (.aload_n 0, 1) := by decide +kernel
theorem dL_law_1712 : decode cL_law 1712 = .ok (.iload 4, 2) := by decide +kernel
theorem dL_law_1714 : decode cL_law 1714 = .ok (.iconst 4, 1) := by decide +kernel
theorem dL_law_1715 : decode cL_law 1715 = .ok (.iadd, 1) := by decide +kernel
theorem dL_law_1716 : decode cL_law 1716 = .ok (.iaload, 1) := by decide +kernel
theorem dL_law_1717 : decode cL_law 1717 = .ok (.invokevirtual 145, 3) := by decide +kernel
theorem dL_law_1720 : decode cL_law 1720 = .ok (.if_icmp .eq 643, 3) := by decide +kernel
theorem dL_law_1723 : decode cL_law 1723 = .ok (.iconst 0, 1) := by decide +kernel
theorem dL_law_1724 : decode cL_law 1724 = .ok (.ireturn, 1) := by decide +kernel
theorem dL_law_1725 : decode cL_law 1725 = .ok (.aload_n 1, 1) := by decide +kernel
theorem dL_law_1726 : decode cL_law 1726 = .ok (.aload_n 0, 1) := by decide +kernel
theorem dL_law_1727 : decode cL_law 1727 = .ok (.iload 4, 2) := by decide +kernel
theorem dL_law_1729 : decode cL_law 1729 = .ok (.iconst 1, 1) := by decide +kernel
theorem dL_law_1730 : decode cL_law 1730 = .ok (.iadd, 1) := by decide +kernel
theorem dL_law_1731 : decode cL_law 1731 = .ok (.iaload, 1) := by decide +kernel
theorem dL_law_1732 : decode cL_law 1732 = .ok (.aload_n 0, 1) := by decide +kernel
theorem dL_law_1733 : decode cL_law 1733 = .ok (.iload 4, 2) := by decide +kernel
theorem dL_law_1735 : decode cL_law 1735 = .ok (.iconst 2, 1) := by decide +kernel
theorem dL_law_1736 : decode cL_law 1736 = .ok (.iadd, 1) := by decide +kernel
theorem dL_law_1737 : decode cL_law 1737 = .ok (.iaload, 1) := by decide +kernel
theorem dL_law_1738 : decode cL_law 1738 = .ok (.aload_n 0, 1) := by decide +kernel
theorem dL_law_1739 : decode cL_law 1739 = .ok (.iload 4, 2) := by decide +kernel
theorem dL_law_1741 : decode cL_law 1741 = .ok (.iconst 3, 1) := by decide +kernel
theorem dL_law_1742 : decode cL_law 1742 = .ok (.iadd, 1) := by decide +kernel
theorem dL_law_1743 : decode cL_law 1743 = .ok (.iaload, 1) := by decide +kernel
theorem dL_law_1744 : decode cL_law 1744 = .ok (.invokevirtual 146, 3) := by decide +kernel
theorem dL_law_1747 : decode cL_law 1747 = .ok (.aload_n 2, 1) := by decide +kernel
theorem dL_law_1748 : decode cL_law 1748 = .ok (.aload_n 0, 1) := by decide +kernel
theorem dL_law_1749 : decode cL_law 1749 = .ok (.iload 4, 2) := by decide +kernel
theorem dL_law_1751 : decode cL_law 1751 = .ok (.iconst 1, 1) := by decide +kernel
theorem dL_law_1752 : decode cL_law 1752 = .ok (.iadd, 1) := by decide +kernel
theorem dL_law_1753 : decode cL_law 1753 = .ok (.iaload, 1) := by decide +kernel
theorem dL_law_1754 : decode cL_law 1754 = .ok (.aload_n 0, 1) := by decide +kernel
theorem dL_law_1755 : decode cL_law 1755 = .ok (.iload 4, 2) := by decide +kernel
theorem dL_law_1757 : decode cL_law 1757 = .ok (.iconst 2, 1) := by decide +kernel
theorem dL_law_1758 : decode cL_law 1758 = .ok (.iadd, 1) := by decide +kernel
theorem dL_law_1759 : decode cL_law 1759 = .ok (.iaload, 1) := by decide +kernel
theorem dL_law_1760 : decode cL_law 1760 = .ok (.aload_n 0, 1) := by decide +kernel
theorem dL_law_1761 : decode cL_law 1761 = .ok (.iload 4, 2) := by decide +kernel
theorem dL_law_1763 : decode cL_law 1763 = .ok (.iconst 3, 1) := by decide +kernel
theorem dL_law_1764 : decode cL_law 1764 = .ok (.iadd, 1) := by decide +kernel
theorem dL_law_1765 : decode cL_law 1765 = .ok (.iaload, 1) := by decide +kernel
theorem dL_law_1766 : decode cL_law 1766 = .ok (.invokevirtual 149, 3) := by decide +kernel
theorem dL_law_1769 : decode cL_law 1769 = .ok (.if_icmp .eq 594, 3) := by decide +kernel
theorem dL_law_1772 : decode cL_law 1772 = .ok (.iconst 0, 1) := by decide +kernel
theorem dL_law_1773 : decode cL_law 1773 = .ok (.ireturn, 1) := by decide +kernel
theorem dL_law_1774 : decode cL_law 1774 = .ok (.aload_n 1, 1) := by decide +kernel
theorem dL_law_1775 : decode cL_law 1775 = .ok (.aload_n 0, 1) := by decide +kernel
theorem dL_law_1776 : decode cL_law 1776 = .ok (.iload 4, 2) := by decide +kernel
theorem dL_law_1778 : decode cL_law 1778 = .ok (.iconst 1, 1) := by decide +kernel
theorem dL_law_1779 : decode cL_law 1779 = .ok (.iadd, 1) := by decide +kernel
theorem dL_law_1780 : decode cL_law 1780 = .ok (.iaload, 1) := by decide +kernel
theorem dL_law_1781 : decode cL_law 1781 = .ok (.aload_n 0, 1) := by decide +kernel
theorem dL_law_1782 : decode cL_law 1782 = .ok (.iload 4, 2) := by decide +kernel
theorem dL_law_1784 : decode cL_law 1784 = .ok (.iconst 2, 1) := by decide +kernel
theorem dL_law_1785 : decode cL_law 1785 = .ok (.iadd, 1) := by decide +kernel
theorem dL_law_1786 : decode cL_law 1786 = .ok (.iaload, 1) := by decide +kernel
theorem dL_law_1787 : decode cL_law 1787 = .ok (.aload_n 0, 1) := by decide +kernel
theorem dL_law_1788 : decode cL_law 1788 = .ok (.iload 4, 2) := by decide +kernel
theorem dL_law_1790 : decode cL_law 1790 = .ok (.iconst 3, 1) := by decide +kernel
theorem dL_law_1791 : decode cL_law 1791 = .ok (.iadd, 1) := by decide +kernel
theorem dL_law_1792 : decode cL_law 1792 = .ok (.iaload, 1) := by decide +kernel
theorem dL_law_1793 : decode cL_law 1793 = .ok (.aload_n 0, 1) := by decide +kernel
theorem dL_law_1794 : decode cL_law 1794 = .ok (.iload 4, 2) := by decide +kernel
theorem dL_law_1796 : decode cL_law 1796 = .ok (.iconst 4, 1) := by decide +kernel
theorem dL_law_1797 : decode cL_law 1797 = .ok (.iadd, 1) := by decide +kernel
theorem dL_law_1798 : decode cL_law 1798 = .ok (.iaload, 1) := by decide +kernel
theorem dL_law_1799 : decode cL_law 1799 = .ok (.aload_n 0, 1) := by decide +kernel
theorem dL_law_1800 : decode cL_law 1800 = .ok (.iload 4, 2) := by decide +kernel
theorem dL_law_1802 : decode cL_law 1802 = .ok (.iconst 5, 1) := by decide +kernel
theorem dL_law_1803 : decode cL_law 1803 = .ok (.iadd, 1) := by decide +kernel
theorem dL_law_1804 : decode cL_law 1804 = .ok (.iaload, 1) := by decide +kernel
theorem dL_law_1805 : decode cL_law 1805 = .ok (.invokevirtual 150, 3) := by decide +kernel
theorem dL_law_1808 : decode cL_law 1808 = .ok (.aload_n 2, 1) := by decide +kernel
theorem dL_law_1809 : decode cL_law 1809 = .ok (.aload_n 0, 1) := by decide +kernel
theorem dL_law_1810 : decode cL_law 1810 = .ok (.iload 4, 2) := by decide +kernel
theorem dL_law_1812 : decode cL_law 1812 = .ok (.iconst 1, 1) := by decide +kernel
theorem dL_law_1813 : decode cL_law 1813 = .ok (.iadd, 1) := by decide +kernel
theorem dL_law_1814 : decode cL_law 1814 = .ok (.iaload, 1) := by decide +kernel
theorem dL_law_1815 : decode cL_law 1815 = .ok (.aload_n 0, 1) := by decide +kernel
theorem dL_law_1816 : decode cL_law 1816 = .ok (.iload 4, 2) := by decide +kernel
theorem dL_law_1818 : decode cL_law 1818 = .ok (.iconst 2, 1) := by decide +kernel
theorem dL_law_1819 : decode cL_law 1819 = .ok (.iadd, 1) := by decide +kernel
theorem dL_law_1820 : decode cL_law 1820 = .ok (.iaload, 1) := by decide +kernel
theorem dL_law_1821 : decode cL_law 1821 = .ok (.aload_n 0, 1) := by decide +kernel
theorem dL_law_1822 : decode cL_law 1822 = .ok (.iload 4, 2) := by decide +kernel
theorem dL_law_1824 : decode cL_law 1824 = .ok (.iconst 3, 1) := by decide +kernel
theorem dL_law_1825 : decode cL_law 1825 = .ok (.iadd, 1) := by decide +kernel
theorem dL_law_1826 : decode cL_law 1826 = .ok (.iaload, 1) := by decide +kernel
theorem dL_law_1827 : decode cL_law 1827 = .ok (.aload_n 0, 1) := by decide +kernel
theorem dL_law_1828 : decode cL_law 1828 = .ok (.iload 4, 2) := by decide +kernel
theorem dL_law_1830 : decode cL_law 1830 = .ok (.iconst 4, 1) := by decide +kernel
theorem dL_law_1831 : decode cL_law 1831 = .ok (.iadd, 1) := by decide +kernel
theorem dL_law_1832 : decode cL_law 1832 = .ok (.iaload, 1) := by decide +kernel
theorem dL_law_1833 : decode cL_law 1833 = .ok (.aload_n 0, 1) := by decide +kernel
theorem dL_law_1834 : decode cL_law 1834 = .ok (.iload 4, 2) := by decide +kernel
theorem dL_law_1836 : decode cL_law 1836 = .ok (.iconst 5, 1) := by decide +kernel
theorem dL_law_1837 : decode cL_law 1837 = .ok (.iadd, 1) := by decide +kernel
theorem dL_law_1838 : decode cL_law 1838 = .ok (.iaload, 1) := by decide +kernel
theorem dL_law_1839 : decode cL_law 1839 = .ok (.invokevirtual 153, 3) := by decide +kernel
theorem dL_law_1842 : decode cL_law 1842 = .ok (.if_icmp .eq 521, 3) := by decide +kernel
theorem dL_law_1845 : decode cL_law 1845 = .ok (.iconst 0, 1) := by decide +kernel
theorem dL_law_1846 : decode cL_law 1846 = .ok (.ireturn, 1) := by decide +kernel
theorem dL_law_1847 : decode cL_law 1847 = .ok (.aload_n 1, 1) := by decide +kernel
theorem dL_law_1848 : decode cL_law 1848 = .ok (.aload_n 0, 1) := by decide +kernel
theorem dL_law_1849 : decode cL_law 1849 = .ok (.iload 4, 2) := by decide +kernel
theorem dL_law_1851 : decode cL_law 1851 = .ok (.iconst 1, 1) := by decide +kernel
theorem dL_law_1852 : decode cL_law 1852 = .ok (.iadd, 1) := by decide +kernel
theorem dL_law_1853 : decode cL_law 1853 = .ok (.iaload, 1) := by decide +kernel
theorem dL_law_1854 : decode cL_law 1854 = .ok (.aload_n 0, 1) := by decide +kernel
theorem dL_law_1855 : decode cL_law 1855 = .ok (.iload 4, 2) := by decide +kernel
theorem dL_law_1857 : decode cL_law 1857 = .ok (.iconst 2, 1) := by decide +kernel
theorem dL_law_1858 : decode cL_law 1858 = .ok (.iadd, 1) := by decide +kernel
theorem dL_law_1859 : decode cL_law 1859 = .ok (.iaload, 1) := by decide +kernel
theorem dL_law_1860 : decode cL_law 1860 = .ok (.aload_n 0, 1) := by decide +kernel
theorem dL_law_1861 : decode cL_law 1861 = .ok (.iload 4, 2) := by decide +kernel
theorem dL_law_1863 : decode cL_law 1863 = .ok (.iconst 3, 1) := by decide +kernel
theorem dL_law_1864 : decode cL_law 1864 = .ok (.iadd, 1) := by decide +kernel
theorem dL_law_1865 : decode cL_law 1865 = .ok (.iaload, 1) := by decide +kernel
theorem dL_law_1866 : decode cL_law 1866 = .ok (.aload_n 0, 1) := by decide +kernel
theorem dL_law_1867 : decode cL_law 1867 = .ok (.iload 4, 2) := by decide +kernel
theorem dL_law_1869 : decode cL_law 1869 = .ok (.iconst 4, 1) := by decide +kernel
theorem dL_law_1870 : decode cL_law 1870 = .ok (.iadd, 1) := by decide +kernel
theorem dL_law_1871 : decode cL_law 1871 = .ok (.iaload, 1) := by decide +kernel
theorem dL_law_1872 : decode cL_law 1872 = .ok (.invokevirtual 154, 3) := by decide +kernel
theorem dL_law_1875 : decode cL_law 1875 = .ok (.aload_n 2, 1) := by decide +kernel
theorem dL_law_1876 : decode cL_law 1876 = .ok (.aload_n 0, 1) := by decide +kernel
theorem dL_law_1877 : decode cL_law 1877 = .ok (.iload 4, 2) := by decide +kernel
theorem dL_law_1879 : decode cL_law 1879 = .ok (.iconst 1, 1) := by decide +kernel
theorem dL_law_1880 : decode cL_law 1880 = .ok (.iadd, 1) := by decide +kernel
theorem dL_law_1881 : decode cL_law 1881 = .ok (.iaload, 1) := by decide +kernel
theorem dL_law_1882 : decode cL_law 1882 = .ok (.aload_n 0, 1) := by decide +kernel
theorem dL_law_1883 : decode cL_law 1883 = .ok (.iload 4, 2) := by decide +kernel
theorem dL_law_1885 : decode cL_law 1885 = .ok (.iconst 2, 1) := by decide +kernel
theorem dL_law_1886 : decode cL_law 1886 = .ok (.iadd, 1) := by decide +kernel
theorem dL_law_1887 : decode cL_law 1887 = .ok (.iaload, 1) := by decide +kernel
theorem dL_law_1888 : decode cL_law 1888 = .ok (.aload_n 0, 1) := by decide +kernel
theorem dL_law_1889 : decode cL_law 1889 = .ok (.iload 4, 2) := by decide +kernel
theorem dL_law_1891 : decode cL_law 1891 = .ok (.iconst 3, 1) := by decide +kernel
theorem dL_law_1892 : decode cL_law 1892 = .ok (.iadd, 1) := by decide +kernel
theorem dL_law_1893 : decode cL_law 1893 = .ok (.iaload, 1) := by decide +kernel
theorem dL_law_1894 : decode cL_law 1894 = .ok (.aload_n 0, 1) := by decide +kernel
theorem dL_law_1895 : decode cL_law 1895 = .ok (.iload 4, 2) := by decide +kernel
theorem dL_law_1897 : decode cL_law 1897 = .ok (.iconst 4, 1) := by decide +kernel
theorem dL_law_1898 : decode cL_law 1898 = .ok (.iadd, 1) := by decide +kernel
theorem dL_law_1899 : decode cL_law 1899 = .ok (.iaload, 1) := by decide +kernel
theorem dL_law_1900 : decode cL_law 1900 = .ok (.invokevirtual 157, 3) := by decide +kernel
theorem dL_law_1903 : decode cL_law 1903 = .ok (.if_icmp .eq 460, 3) := by decide +kernel
theorem dL_law_1906 : decode cL_law 1906 = .ok (.iconst 0, 1) := by decide +kernel
theorem dL_law_1907 : decode cL_law 1907 = .ok (.ireturn, 1) := by decide +kernel
theorem dL_law_1908 : decode cL_law 1908 = .ok (.aload_n 1, 1) := by decide +kernel
theorem dL_law_1909 : decode cL_law 1909 = .ok (.aload_n 0, 1) := by decide +kernel
theorem dL_law_1910 : decode cL_law 1910 = .ok (.iload 4, 2) := by decide +kernel
theorem dL_law_1912 : decode cL_law 1912 = .ok (.iconst 1, 1) := by decide +kernel
theorem dL_law_1913 : decode cL_law 1913 = .ok (.iadd, 1) := by decide +kernel
theorem dL_law_1914 : decode cL_law 1914 = .ok (.iaload, 1) := by decide +kernel
theorem dL_law_1915 : decode cL_law 1915 = .ok (.aload_n 0, 1) := by decide +kernel
theorem dL_law_1916 : decode cL_law 1916 = .ok (.iload 4, 2) := by decide +kernel
theorem dL_law_1918 : decode cL_law 1918 = .ok (.iconst 2, 1) := by decide +kernel
theorem dL_law_1919 : decode cL_law 1919 = .ok (.iadd, 1) := by decide +kernel
theorem dL_law_1920 : decode cL_law 1920 = .ok (.iaload, 1) := by decide +kernel
theorem dL_law_1921 : decode cL_law 1921 = .ok (.aload_n 0, 1) := by decide +kernel
theorem dL_law_1922 : decode cL_law 1922 = .ok (.iload 4, 2) := by decide +kernel
theorem dL_law_1924 : decode cL_law 1924 = .ok (.iconst 3, 1) := by decide +kernel
theorem dL_law_1925 : decode cL_law 1925 = .ok (.iadd, 1) := by decide +kernel
theorem dL_law_1926 : decode cL_law 1926 = .ok (.iaload, 1) := by decide +kernel
theorem dL_law_1927 : decode cL_law 1927 = .ok (.aload_n 0, 1) := by decide +kernel
theorem dL_law_1928 : decode cL_law 1928 = .ok (.iload 4, 2) := by decide +kernel
theorem dL_law_1930 : decode cL_law 1930 = .ok (.iconst 4, 1) := by decide +kernel
theorem dL_law_1931 : decode cL_law 1931 = .ok (.iadd, 1) := by decide +kernel
theorem dL_law_1932 : decode cL_law 1932 = .ok (.iaload, 1) := by decide +kernel
theorem dL_law_1933 : decode cL_law 1933 = .ok (.aload_n 0, 1) := by decide +kernel
theorem dL_law_1934 : decode cL_law 1934 = .ok (.iload 4, 2) := by decide +kernel
theorem dL_law_1936 : decode cL_law 1936 = .ok (.iconst 5, 1) := by decide +kernel
theorem dL_law_1937 : decode cL_law 1937 = .ok (.iadd, 1) := by decide +kernel
theorem dL_law_1938 : decode cL_law 1938 = .ok (.iaload, 1) := by decide +kernel
theorem dL_law_1939 : decode cL_law 1939 = .ok (.invokevirtual 158, 3) := by decide +kernel
theorem dL_law_1942 : decode cL_law 1942 = .ok (.aload_n 2, 1) := by decide +kernel
theorem dL_law_1943 : decode cL_law 1943 = .ok (.aload_n 0, 1) := by decide +kernel
theorem dL_law_1944 : decode cL_law 1944 = .ok (.iload 4, 2) := by decide +kernel
theorem dL_law_1946 : decode cL_law 1946 = .ok (.iconst 1, 1) := by decide +kernel
theorem dL_law_1947 : decode cL_law 1947 = .ok (.iadd, 1) := by decide +kernel
theorem dL_law_1948 : decode cL_law 1948 = .ok (.iaload, 1) := by decide +kernel
theorem dL_law_1949 : decode cL_law 1949 = .ok (.aload_n 0, 1) := by decide +kernel
theorem dL_law_1950 : decode cL_law 1950 = .ok (.iload 4, 2) := by decide +kernel
theorem dL_law_1952 : decode cL_law 1952 = .ok (.iconst 2, 1) := by decide +kernel
theorem dL_law_1953 : decode cL_law 1953 = .ok (.iadd, 1) := by decide +kernel
theorem dL_law_1954 : decode cL_law 1954 = .ok (.iaload, 1) := by decide +kernel
theorem dL_law_1955 : decode cL_law 1955 = .ok (.aload_n 0, 1) := by decide +kernel
theorem dL_law_1956 : decode cL_law 1956 = .ok (.iload 4, 2) := by decide +kernel
theorem dL_law_1958 : decode cL_law 1958 = .ok (.iconst 3, 1) := by decide +kernel
theorem dL_law_1959 : decode cL_law 1959 = .ok (.iadd, 1) := by decide +kernel
theorem dL_law_1960 : decode cL_law 1960 = .ok (.iaload, 1) := by decide +kernel
theorem dL_law_1961 : decode cL_law 1961 = .ok (.aload_n 0, 1) := by decide +kernel
theorem dL_law_1962 : decode cL_law 1962 = .ok (.iload 4, 2) := by decide +kernel
theorem dL_law_1964 : decode cL_law 1964 = .ok (.iconst 4, 1) := by decide +kernel
theorem dL_law_1965 : decode cL_law 1965 = .ok (.iadd, 1) := by decide +kernel
theorem dL_law_1966 : decode cL_law 1966 = .ok (.iaload, 1) := by decide +kernel
theorem dL_law_1967 : decode cL_law 1967 = .ok (.aload_n 0, 1) := by decide +kernel
theorem dL_law_1968 : decode cL_law 1968 = .ok (.iload 4, 2) := by decide +kernel
theorem dL_law_1970 : decode cL_law 1970 = .ok (.iconst 5, 1) := by decide +kernel
theorem dL_law_1971 : decode cL_law 1971 = .ok (.iadd, 1) := by decide +kernel
theorem dL_law_1972 : decode cL_law 1972 = .ok (.iaload, 1) := by decide +kernel
theorem dL_law_1973 : decode cL_law 1973 = .ok (.invokevirtual 161, 3) := by decide +kernel
theorem dL_law_1976 : decode cL_law 1976 = .ok (.if_icmp .eq 387, 3) := by decide +kernel
theorem dL_law_1979 : decode cL_law 1979 = .ok (.iconst 0, 1) := by decide +kernel
theorem dL_law_1980 : decode cL_law 1980 = .ok (.ireturn, 1) := by decide +kernel
theorem dL_law_1981 : decode cL_law 1981 = .ok (.aload_n 1, 1) := by decide +kernel
theorem dL_law_1982 : decode cL_law 1982 = .ok (.aload_n 0, 1) := by decide +kernel
theorem dL_law_1983 : decode cL_law 1983 = .ok (.iload 4, 2) := by decide +kernel
theorem dL_law_1985 : decode cL_law 1985 = .ok (.iconst 1, 1) := by decide +kernel
theorem dL_law_1986 : decode cL_law 1986 = .ok (.iadd, 1) := by decide +kernel
theorem dL_law_1987 : decode cL_law 1987 = .ok (.iaload, 1) := by decide +kernel
theorem dL_law_1988 : decode cL_law 1988 = .ok (.aload_n 0, 1) := by decide +kernel
theorem dL_law_1989 : decode cL_law 1989 = .ok (.iload 4, 2) := by decide +kernel
theorem dL_law_1991 : decode cL_law 1991 = .ok (.iconst 2, 1) := by decide +kernel
theorem dL_law_1992 : decode cL_law 1992 = .ok (.iadd, 1) := by decide +kernel
theorem dL_law_1993 : decode cL_law 1993 = .ok (.iaload, 1) := by decide +kernel
theorem dL_law_1994 : decode cL_law 1994 = .ok (.aload_n 0, 1) := by decide +kernel
theorem dL_law_1995 : decode cL_law 1995 = .ok (.iload 4, 2) := by decide +kernel
theorem dL_law_1997 : decode cL_law 1997 = .ok (.iconst 3, 1) := by decide +kernel
theorem dL_law_1998 : decode cL_law 1998 = .ok (.iadd, 1) := by decide +kernel
theorem dL_law_1999 : decode cL_law 1999 = .ok (.iaload, 1) := by decide +kernel
theorem dL_law_2000 : decode cL_law 2000 = .ok (.aload_n 0, 1) := by decide +kernel
theorem dL_law_2001 : decode cL_law 2001 = .ok (.iload 4, 2) := by decide +kernel
theorem dL_law_2003 : decode cL_law 2003 = .ok (.iconst 4, 1) := by decide +kernel
theorem dL_law_2004 : decode cL_law 2004 = .ok (.iadd, 1) := by decide +kernel
theorem dL_law_2005 : decode cL_law 2005 = .ok (.iaload, 1) := by decide +kernel
theorem dL_law_2006 : decode cL_law 2006 = .ok (.invokevirtual 162, 3) := by decide +kernel
theorem dL_law_2009 : decode cL_law 2009 = .ok (.aload_n 2, 1) := by decide +kernel
theorem dL_law_2010 : decode cL_law 2010 = .ok (.aload_n 0, 1) := by decide +kernel
theorem dL_law_2011 : decode cL_law 2011 = .ok (.iload 4, 2) := by decide +kernel
theorem dL_law_2013 : decode cL_law 2013 = .ok (.iconst 1, 1) := by decide +kernel
theorem dL_law_2014 : decode cL_law 2014 = .ok (.iadd, 1) := by decide +kernel
theorem dL_law_2015 : decode cL_law 2015 = .ok (.iaload, 1) := by decide +kernel
theorem dL_law_2016 : decode cL_law 2016 = .ok (.aload_n 0, 1) := by decide +kernel
theorem dL_law_2017 : decode cL_law 2017 = .ok (.iload 4, 2) := by decide +kernel
theorem dL_law_2019 : decode cL_law 2019 = .ok (.iconst 2, 1) := by decide +kernel
theorem dL_law_2020 : decode cL_law 2020 = .ok (.iadd, 1) := by decide +kernel
theorem dL_law_2021 : decode cL_law 2021 = .ok (.iaload, 1) := by decide +kernel
theorem dL_law_2022 : decode cL_law 2022 = .ok (.aload_n 0, 1) := by decide +kernel
theorem dL_law_2023 : decode cL_law 2023 = .ok (.iload 4, 2) := by decide +kernel
theorem dL_law_2025 : decode cL_law 2025 = .ok (.iconst 3, 1) := by decide +kernel
theorem dL_law_2026 : decode cL_law 2026 = .ok (.iadd, 1) := by decide +kernel
theorem dL_law_2027 : decode cL_law 2027 = .ok (.iaload, 1) := by decide +kernel
theorem dL_law_2028 : decode cL_law 2028 = .ok (.aload_n 0, 1) := by decide +kernel
theorem dL_law_2029 : decode cL_law 2029 = .ok (.iload 4, 2) := by decide +kernel
theorem dL_law_2031 : decode cL_law 2031 = .ok (.iconst 4, 1) := by decide +kernel
theorem dL_law_2032 : decode cL_law 2032 = .ok (.iadd, 1) := by decide +kernel
theorem dL_law_2033 : decode cL_law 2033 = .ok (.iaload, 1) := by decide +kernel
theorem dL_law_2034 : decode cL_law 2034 = .ok (.invokevirtual 165, 3) := by decide +kernel
theorem dL_law_2037 : decode cL_law 2037 = .ok (.if_icmp .eq 326, 3) := by decide +kernel
theorem dL_law_2040 : decode cL_law 2040 = .ok (.iconst 0, 1) := by decide +kernel
theorem dL_law_2041 : decode cL_law 2041 = .ok (.ireturn, 1) := by decide +kernel
theorem dL_law_2042 : decode cL_law 2042 = .ok (.aload_n 1, 1) := by decide +kernel
theorem dL_law_2043 : decode cL_law 2043 = .ok (.aload_n 0, 1) := by decide +kernel
theorem dL_law_2044 : decode cL_law 2044 = .ok (.iload 4, 2) := by decide +kernel
theorem dL_law_2046 : decode cL_law 2046 = .ok (.iconst 1, 1) := by decide +kernel
theorem dL_law_2047 : decode cL_law 2047 = .ok (.iadd, 1) := by decide +kernel
theorem dL_law_2048 : decode cL_law 2048 = .ok (.iaload, 1) := by decide +kernel
theorem dL_law_2049 : decode cL_law 2049 = .ok (.aload_n 0, 1) := by decide +kernel
theorem dL_law_2050 : decode cL_law 2050 = .ok (.iload 4, 2) := by decide +kernel
theorem dL_law_2052 : decode cL_law 2052 = .ok (.iconst 2, 1) := by decide +kernel
theorem dL_law_2053 : decode cL_law 2053 = .ok (.iadd, 1) := by decide +kernel
theorem dL_law_2054 : decode cL_law 2054 = .ok (.iaload, 1) := by decide +kernel
theorem dL_law_2055 : decode cL_law 2055 = .ok (.aload_n 0, 1) := by decide +kernel
theorem dL_law_2056 : decode cL_law 2056 = .ok (.iload 4, 2) := by decide +kernel
theorem dL_law_2058 : decode cL_law 2058 = .ok (.iconst 3, 1) := by decide +kernel
theorem dL_law_2059 : decode cL_law 2059 = .ok (.iadd, 1) := by decide +kernel
theorem dL_law_2060 : decode cL_law 2060 = .ok (.iaload, 1) := by decide +kernel
theorem dL_law_2061 : decode cL_law 2061 = .ok (.aload_n 0, 1) := by decide +kernel
theorem dL_law_2062 : decode cL_law 2062 = .ok (.iload 4, 2) := by decide +kernel
theorem dL_law_2064 : decode cL_law 2064 = .ok (.iconst 4, 1) := by decide +kernel
theorem dL_law_2065 : decode cL_law 2065 = .ok (.iadd, 1) := by decide +kernel
theorem dL_law_2066 : decode cL_law 2066 = .ok (.iaload, 1) := by decide +kernel
theorem dL_law_2067 : decode cL_law 2067 = .ok (.invokevirtual 166, 3) := by decide +kernel
theorem dL_law_2070 : decode cL_law 2070 = .ok (.aload_n 2, 1) := by decide +kernel
theorem dL_law_2071 : decode cL_law 2071 = .ok (.aload_n 0, 1) := by decide +kernel
theorem dL_law_2072 : decode cL_law 2072 = .ok (.iload 4, 2) := by decide +kernel
theorem dL_law_2074 : decode cL_law 2074 = .ok (.iconst 1, 1) := by decide +kernel
theorem dL_law_2075 : decode cL_law 2075 = .ok (.iadd, 1) := by decide +kernel
theorem dL_law_2076 : decode cL_law 2076 = .ok (.iaload, 1) := by decide +kernel
theorem dL_law_2077 : decode cL_law 2077 = .ok (.aload_n 0, 1) := by decide +kernel
theorem dL_law_2078 : decode cL_law 2078 = .ok (.iload 4, 2) := by decide +kernel
theorem dL_law_2080 : decode cL_law 2080 = .ok (.iconst 2, 1) := by decide +kernel
theorem dL_law_2081 : decode cL_law 2081 = .ok (.iadd, 1) := by decide +kernel
theorem dL_law_2082 : decode cL_law 2082 = .ok (.iaload, 1) := by decide +kernel
theorem dL_law_2083 : decode cL_law 2083 = .ok (.aload_n 0, 1) := by decide +kernel
theorem dL_law_2084 : decode cL_law 2084 = .ok (.iload 4, 2) := by decide +kernel
theorem dL_law_2086 : decode cL_law 2086 = .ok (.iconst 3, 1) := by decide +kernel
theorem dL_law_2087 : decode cL_law 2087 = .ok (.iadd, 1) := by decide +kernel
theorem dL_law_2088 : decode cL_law 2088 = .ok (.iaload, 1) := by decide +kernel
theorem dL_law_2089 : decode cL_law 2089 = .ok (.aload_n 0, 1) := by decide +kernel
theorem dL_law_2090 : decode cL_law 2090 = .ok (.iload 4, 2) := by decide +kernel
theorem dL_law_2092 : decode cL_law 2092 = .ok (.iconst 4, 1) := by decide +kernel
theorem dL_law_2093 : decode cL_law 2093 = .ok (.iadd, 1) := by decide +kernel
theorem dL_law_2094 : decode cL_law 2094 = .ok (.iaload, 1) := by decide +kernel
theorem dL_law_2095 : decode cL_law 2095 = .ok (.invokevirtual 169, 3) := by decide +kernel
theorem dL_law_2098 : decode cL_law 2098 = .ok (.if_icmp .eq 265, 3) := by decide +kernel
theorem dL_law_2101 : decode cL_law 2101 = .ok (.iconst 0, 1) := by decide +kernel
theorem dL_law_2102 : decode cL_law 2102 = .ok (.ireturn, 1) := by decide +kernel
theorem dL_law_2103 : decode cL_law 2103 = .ok (.aload_n 1, 1) := by decide +kernel
theorem dL_law_2104 : decode cL_law 2104 = .ok (.aload_n 0, 1) := by decide +kernel
theorem dL_law_2105 : decode cL_law 2105 = .ok (.iload 4, 2) := by decide +kernel
theorem dL_law_2107 : decode cL_law 2107 = .ok (.iconst 1, 1) := by decide +kernel
theorem dL_law_2108 : decode cL_law 2108 = .ok (.iadd, 1) := by decide +kernel
theorem dL_law_2109 : decode cL_law 2109 = .ok (.iaload, 1) := by decide +kernel
theorem dL_law_2110 : decode cL_law 2110 = .ok (.aload_n 0, 1) := by decide +kernel
theorem dL_law_2111 : decode cL_law 2111 = .ok (.iload 4, 2) := by decide +kernel
theorem dL_law_2113 : decode cL_law 2113 = .ok (.iconst 2, 1) := by decide +kernel
theorem dL_law_2114 : decode cL_law 2114 = .ok (.iadd, 1) := by decide +kernel
theorem dL_law_2115 : decode cL_law 2115 = .ok (.iaload, 1) := by decide +kernel
theorem dL_law_2116 : decode cL_law 2116 = .ok (.aload_n 0, 1) := by decide +kernel
theorem dL_law_2117 : decode cL_law 2117 = .ok (.iload 4, 2) := by decide +kernel
theorem dL_law_2119 : decode cL_law 2119 = .ok (.iconst 3, 1) := by decide +kernel
theorem dL_law_2120 : decode cL_law 2120 = .ok (.iadd, 1) := by decide +kernel
theorem dL_law_2121 : decode cL_law 2121 = .ok (.iaload, 1) := by decide +kernel
theorem dL_law_2122 : decode cL_law 2122 = .ok (.aload_n 0, 1) := by decide +kernel
theorem dL_law_2123 : decode cL_law 2123 = .ok (.iload 4, 2) := by decide +kernel
theorem dL_law_2125 : decode cL_law 2125 = .ok (.iconst 4, 1) := by decide +kernel
theorem dL_law_2126 : decode cL_law 2126 = .ok (.iadd, 1) := by decide +kernel
theorem dL_law_2127 : decode cL_law 2127 = .ok (.iaload, 1) := by decide +kernel
theorem dL_law_2128 : decode cL_law 2128 = .ok (.aload_n 0, 1) := by decide +kernel
theorem dL_law_2129 : decode cL_law 2129 = .ok (.iload 4, 2) := by decide +kernel
theorem dL_law_2131 : decode cL_law 2131 = .ok (.iconst 5, 1) := by decide +kernel
theorem dL_law_2132 : decode cL_law 2132 = .ok (.iadd, 1) := by decide +kernel
theorem dL_law_2133 : decode cL_law 2133 = .ok (.iaload, 1) := by decide +kernel
theorem dL_law_2134 : decode cL_law 2134 = .ok (.invokevirtual 170, 3) := by decide +kernel
theorem dL_law_2137 : decode cL_law 2137 = .ok (.aload_n 2, 1) := by decide +kernel
theorem dL_law_2138 : decode cL_law 2138 = .ok (.aload_n 0, 1) := by decide +kernel
theorem dL_law_2139 : decode cL_law 2139 = .ok (.iload 4, 2) := by decide +kernel
theorem dL_law_2141 : decode cL_law 2141 = .ok (.iconst 1, 1) := by decide +kernel
theorem dL_law_2142 : decode cL_law 2142 = .ok (.iadd, 1) := by decide +kernel
theorem dL_law_2143 : decode cL_law 2143 = .ok (.iaload, 1) := by decide +kernel
theorem dL_law_2144 : decode cL_law 2144 = .ok (.aload_n 0, 1) := by decide +kernel
theorem dL_law_2145 : decode cL_law 2145 = .ok (.iload 4, 2) := by decide +kernel
theorem dL_law_2147 : decode cL_law 2147 = .ok (.iconst 2, 1) := by decide +kernel
theorem dL_law_2148 : decode cL_law 2148 = .ok (.iadd, 1) := by decide +kernel
theorem dL_law_2149 : decode cL_law 2149 = .ok (.iaload, 1) := by decide +kernel
theorem dL_law_2150 : decode cL_law 2150 = .ok (.aload_n 0, 1) := by decide +kernel
theorem dL_law_2151 : decode cL_law 2151 = .ok (.iload 4, 2) := by decide +kernel
theorem dL_law_2153 : decode cL_law 2153 = .ok (.iconst 3, 1) := by decide +kernel
theorem dL_law_2154 : decode cL_law 2154 = .ok (.iadd, 1) := by decide +kernel
theorem dL_law_2155 : decode cL_law 2155 = .ok (.iaload, 1) := by decide +kernel
theorem dL_law_2156 : decode cL_law 2156 = .ok (.aload_n 0, 1) := by decide +kernel
theorem dL_law_2157 : decode cL_law 2157 = .ok (.iload 4, 2) := by decide +kernel
theorem dL_law_2159 : decode cL_law 2159 = .ok (.iconst 4, 1) := by decide +kernel
theorem dL_law_2160 : decode cL_law 2160 = .ok (.iadd, 1) := by decide +kernel
theorem dL_law_2161 : decode cL_law 2161 = .ok (.iaload, 1) := by decide +kernel
theorem dL_law_2162 : decode cL_law 2162 = .ok (.aload_n 0, 1) := by decide +kernel
theorem dL_law_2163 : decode cL_law 2163 = .ok (.iload 4, 2) := by decide +kernel
theorem dL_law_2165 : decode cL_law 2165 = .ok (.iconst 5, 1) := by decide +kernel
theorem dL_law_2166 : decode cL_law 2166 = .ok (.iadd, 1) := by decide +kernel
theorem dL_law_2167 : decode cL_law 2167 = .ok (.iaload, 1) := by decide +kernel
theorem dL_law_2168 : decode cL_law 2168 = .ok (.invokevirtual 173, 3) := by decide +kernel
theorem dL_law_2171 : decode cL_law 2171 = .ok (.if_icmp .eq 192, 3) := by decide +kernel
theorem dL_law_2174 : decode cL_law 2174 = .ok (.iconst 0, 1) := by decide +kernel
theorem dL_law_2175 : decode cL_law 2175 = .ok (.ireturn, 1) := by decide +kernel
theorem dL_law_2176 : decode cL_law 2176 = .ok (.aload_n 1, 1) := by decide +kernel
theorem dL_law_2177 : decode cL_law 2177 = .ok (.aload_n 0, 1) := by decide +kernel
theorem dL_law_2178 : decode cL_law 2178 = .ok (.iload 4, 2) := by decide +kernel
theorem dL_law_2180 : decode cL_law 2180 = .ok (.iconst 1, 1) := by decide +kernel
theorem dL_law_2181 : decode cL_law 2181 = .ok (.iadd, 1) := by decide +kernel
theorem dL_law_2182 : decode cL_law 2182 = .ok (.iaload, 1) := by decide +kernel
theorem dL_law_2183 : decode cL_law 2183 = .ok (.aload_n 0, 1) := by decide +kernel
theorem dL_law_2184 : decode cL_law 2184 = .ok (.iload 4, 2) := by decide +kernel
theorem dL_law_2186 : decode cL_law 2186 = .ok (.iconst 2, 1) := by decide +kernel
theorem dL_law_2187 : decode cL_law 2187 = .ok (.iadd, 1) := by decide +kernel
theorem dL_law_2188 : decode cL_law 2188 = .ok (.iaload, 1) := by decide +kernel
theorem dL_law_2189 : decode cL_law 2189 = .ok (.aload_n 0, 1) := by decide +kernel
theorem dL_law_2190 : decode cL_law 2190 = .ok (.iload 4, 2) := by decide +kernel
theorem dL_law_2192 : decode cL_law 2192 = .ok (.iconst 3, 1) := by decide +kernel
theorem dL_law_2193 : decode cL_law 2193 = .ok (.iadd, 1) := by decide +kernel
theorem dL_law_2194 : decode cL_law 2194 = .ok (.iaload, 1) := by decide +kernel
theorem dL_law_2195 : decode cL_law 2195 = .ok (.invokevirtual 174, 3) := by decide +kernel
theorem dL_law_2198 : decode cL_law 2198 = .ok (.aload_n 2, 1) := by decide +kernel
theorem dL_law_2199 : decode cL_law 2199 = .ok (.aload_n 0, 1) := by decide +kernel
theorem dL_law_2200 : decode cL_law 2200 = .ok (.iload 4, 2) := by decide +kernel
theorem dL_law_2202 : decode cL_law 2202 = .ok (.iconst 1, 1) := by decide +kernel
theorem dL_law_2203 : decode cL_law 2203 = .ok (.iadd, 1) := by decide +kernel
theorem dL_law_2204 : decode cL_law 2204 = .ok (.iaload, 1) := by decide +kernel
theorem dL_law_2205 : decode cL_law 2205 = .ok (.aload_n 0, 1) := by decide +kernel
theorem dL_law_2206 : decode cL_law 2206 = .ok (.iload 4, 2) := by decide +kernel
theorem dL_law_2208 : decode cL_law 2208 = .ok (.iconst 2, 1) := by decide +kernel
theorem dL_law_2209 : decode cL_law 2209 = .ok (.iadd, 1) := by decide +kernel
theorem dL_law_2210 : decode cL_law 2210 = .ok (.iaload, 1) := by decide +kernel
theorem dL_law_2211 : decode cL_law 2211 = .ok (.aload_n 0, 1) := by decide +kernel
theorem dL_law_2212 : decode cL_law 2212 = .ok (.iload 4, 2) := by decide +kernel
theorem dL_law_2214 : decode cL_law 2214 = .ok (.iconst 3, 1) := by decide +kernel
theorem dL_law_2215 : decode cL_law 2215 = .ok (.iadd, 1) := by decide +kernel
theorem dL_law_2216 : decode cL_law 2216 = .ok (.iaload, 1) := by decide +kernel
theorem dL_law_2217 : decode cL_law 2217 = .ok (.invokevirtual 177, 3) := by decide +kernel
theorem dL_law_2220 : decode cL_law 2220 = .ok (.if_icmp .eq 143, 3) := by decide +kernel
theorem dL_law_2223 : decode cL_law 2223 = .ok (.iconst 0, 1) := by decide +kernel
theorem dL_law_2224 : decode cL_law 2224 = .ok (.ireturn, 1) := by decide +kernel
theorem dL_law_2225 : decode cL_law 2225 = .ok (.aload_n 1, 1) := by decide +kernel
theorem dL_law_2226 : decode cL_law 2226 = .ok (.aload_n 0, 1) := by decide +kernel
theorem dL_law_2227 : decode cL_law 2227 = .ok (.iload 4, 2) := by decide +kernel
theorem dL_law_2229 : decode cL_law 2229 = .ok (.iconst 1, 1) := by decide +kernel
theorem dL_law_2230 : decode cL_law 2230 = .ok (.iadd, 1) := by decide +kernel
theorem dL_law_2231 : decode cL_law 2231 = .ok (.iaload, 1) := by decide +kernel
theorem dL_law_2232 : decode cL_law 2232 = .ok (.aload_n 0, 1) := by decide +kernel
theorem dL_law_2233 : decode cL_law 2233 = .ok (.iload 4, 2) := by decide +kernel
theorem dL_law_2235 : decode cL_law 2235 = .ok (.iconst 2, 1) := by decide +kernel
theorem dL_law_2236 : decode cL_law 2236 = .ok (.iadd, 1) := by decide +kernel
theorem dL_law_2237 : decode cL_law 2237 = .ok (.iaload, 1) := by decide +kernel
theorem dL_law_2238 : decode cL_law 2238 = .ok (.invokevirtual 178, 3) := by decide +kernel
theorem dL_law_2241 : decode cL_law 2241 = .ok (.aload_n 2, 1) := by decide +kernel
theorem dL_law_2242 : decode cL_law 2242 = .ok (.aload_n 0, 1) := by decide +kernel
theorem dL_law_2243 : decode cL_law 2243 = .ok (.iload 4, 2) := by decide +kernel
theorem dL_law_2245 : decode cL_law 2245 = .ok (.iconst 1, 1) := by decide +kernel
theorem dL_law_2246 : decode cL_law 2246 = .ok (.iadd, 1) := by decide +kernel
theorem dL_law_2247 : decode cL_law 2247 = .ok (.iaload, 1) := by decide +kernel
theorem dL_law_2248 : decode cL_law 2248 = .ok (.aload_n 0, 1) := by decide +kernel
theorem dL_law_2249 : decode cL_law 2249 = .ok (.iload 4, 2) := by decide +kernel
theorem dL_law_2251 : decode cL_law 2251 = .ok (.iconst 2, 1) := by decide +kernel
theorem dL_law_2252 : decode cL_law 2252 = .ok (.iadd, 1) := by decide +kernel
theorem dL_law_2253 : decode cL_law 2253 = .ok (.iaload, 1) := by decide +kernel
theorem dL_law_2254 : decode cL_law 2254 = .ok (.invokevirtual 181, 3) := by decide +kernel
theorem dL_law_2257 : decode cL_law 2257 = .ok (.if_icmp .eq 106, 3) := by decide +kernel
theorem dL_law_2260 : decode cL_law 2260 = .ok (.iconst 0, 1) := by decide +kernel
theorem dL_law_2261 : decode cL_law 2261 = .ok (.ireturn, 1) := by decide +kernel
theorem dL_law_2262 : decode cL_law 2262 = .ok (.aload_n 1, 1) := by decide +kernel
theorem dL_law_2263 : decode cL_law 2263 = .ok (.aload_n 0, 1) := by decide +kernel
theorem dL_law_2264 : decode cL_law 2264 = .ok (.iload 4, 2) := by decide +kernel
theorem dL_law_2266 : decode cL_law 2266 = .ok (.iconst 1, 1) := by decide +kernel
theorem dL_law_2267 : decode cL_law 2267 = .ok (.iadd, 1) := by decide +kernel
theorem dL_law_2268 : decode cL_law 2268 = .ok (.iaload, 1) := by decide +kernel
theorem dL_law_2269 : decode cL_law 2269 = .ok (.invokevirtual 182, 3) := by decide +kernel
theorem dL_law_2272 : decode cL_law 2272 = .ok (.aload_n 2, 1) := by decide +kernel
theorem dL_law_2273 : decode cL_law 2273 = .ok (.aload_n 0, 1) := by decide +kernel
theorem dL_law_2274 : decode cL_law 2274 = .ok (.iload 4, 2) := by decide +kernel
theorem dL_law_2276 : decode cL_law 2276 = .ok (.iconst 1, 1) := by decide +kernel
theorem dL_law_2277 : decode cL_law 2277 = .ok (.iadd, 1) := by decide +kernel
theorem dL_law_2278 : decode cL_law 2278 = .ok (.iaload, 1) := by decide +kernel
theorem dL_law_2279 : decode cL_law 2279 = .ok (.invokevirtual 185, 3) := by decide +kernel
theorem dL_law_2282 : decode cL_law 2282 = .ok (.if_icmp .eq 81, 3) := by decide +kernel
theorem dL_law_2285 : decode cL_law 2285 = .ok (.iconst 0, 1) := by decide +kernel
theorem dL_law_2286 : decode cL_law 2286 = .ok (.ireturn, 1) := by decide +kernel
theorem dL_law_2287 : decode cL_law 2287 = .ok (.aload_n 1, 1) := by decide +kernel
theorem dL_law_2288 : decode cL_law 2288 = .ok (.aload_n 0, 1) := by decide +kernel
theorem dL_law_2289 : decode cL_law 2289 = .ok (.iload 4, 2) := by decide +kernel
theorem dL_law_2291 : decode cL_law 2291 = .ok (.iconst 1, 1) := by decide +kernel
theorem dL_law_2292 : decode cL_law 2292 = .ok (.iadd, 1) := by decide +kernel
theorem dL_law_2293 : decode cL_law 2293 = .ok (.iaload, 1) := by decide +kernel
theorem dL_law_2294 : decode cL_law 2294 = .ok (.invokevirtual 186, 3) := by decide +kernel
theorem dL_law_2297 : decode cL_law 2297 = .ok (.aload_n 2, 1) := by decide +kernel
theorem dL_law_2298 : decode cL_law 2298 = .ok (.aload_n 0, 1) := by decide +kernel
theorem dL_law_2299 : decode cL_law 2299 = .ok (.iload 4, 2) := by decide +kernel
theorem dL_law_2301 : decode cL_law 2301 = .ok (.iconst 1, 1) := by decide +kernel
theorem dL_law_2302 : decode cL_law 2302 = .ok (.iadd, 1) := by decide +kernel
theorem dL_law_2303 : decode cL_law 2303 = .ok (.iaload, 1) := by decide +kernel
theorem dL_law_2304 : decode cL_law 2304 = .ok (.invokevirtual 189, 3) := by decide +kernel
theorem dL_law_2307 : decode cL_law 2307 = .ok (.if_icmp .eq 56, 3) := by decide +kernel
theorem dL_law_2310 : decode cL_law 2310 = .ok (.iconst 0, 1) := by decide +kernel
theorem dL_law_2311 : decode cL_law 2311 = .ok (.ireturn, 1) := by decide +kernel
theorem dL_law_2312 : decode cL_law 2312 = .ok (.aload_n 1, 1) := by decide +kernel
theorem dL_law_2313 : decode cL_law 2313 = .ok (.invokevirtual 190, 3) := by decide +kernel
theorem dL_law_2316 : decode cL_law 2316 = .ok (.aload_n 2, 1) := by decide +kernel
theorem dL_law_2317 : decode cL_law 2317 = .ok (.invokevirtual 193, 3) := by decide +kernel
theorem dL_law_2320 : decode cL_law 2320 = .ok (.if_icmp .eq 43, 3) := by decide +kernel
theorem dL_law_2323 : decode cL_law 2323 = .ok (.iconst 0, 1) := by decide +kernel
theorem dL_law_2324 : decode cL_law 2324 = .ok (.ireturn, 1) := by decide +kernel
theorem dL_law_2325 : decode cL_law 2325 = .ok (.aload_n 1, 1) := by decide +kernel
theorem dL_law_2326 : decode cL_law 2326 = .ok (.invokevirtual 194, 3) := by decide +kernel
theorem dL_law_2329 : decode cL_law 2329 = .ok (.aload_n 2, 1) := by decide +kernel
theorem dL_law_2330 : decode cL_law 2330 = .ok (.invokevirtual 197, 3) := by decide +kernel
theorem dL_law_2333 : decode cL_law 2333 = .ok (.if_icmp .eq 30, 3) := by decide +kernel
theorem dL_law_2336 : decode cL_law 2336 = .ok (.iconst 0, 1) := by decide +kernel
theorem dL_law_2337 : decode cL_law 2337 = .ok (.ireturn, 1) := by decide +kernel
theorem dL_law_2338 : decode cL_law 2338 = .ok (.aload_n 1, 1) := by decide +kernel
theorem dL_law_2339 : decode cL_law 2339 = .ok (.aload_n 0, 1) := by decide +kernel
theorem dL_law_2340 : decode cL_law 2340 = .ok (.iload 4, 2) := by decide +kernel
theorem dL_law_2342 : decode cL_law 2342 = .ok (.iconst 1, 1) := by decide +kernel
theorem dL_law_2343 : decode cL_law 2343 = .ok (.iadd, 1) := by decide +kernel
theorem dL_law_2344 : decode cL_law 2344 = .ok (.iaload, 1) := by decide +kernel
theorem dL_law_2345 : decode cL_law 2345 = .ok (.invokevirtual 198, 3) := by decide +kernel
theorem dL_law_2348 : decode cL_law 2348 = .ok (.aload_n 2, 1) := by decide +kernel
theorem dL_law_2349 : decode cL_law 2349 = .ok (.aload_n 0, 1) := by decide +kernel
theorem dL_law_2350 : decode cL_law 2350 = .ok (.iload 4, 2) := by decide +kernel
theorem dL_law_2352 : decode cL_law 2352 = .ok (.iconst 1, 1) := by decide +kernel
theorem dL_law_2353 : decode cL_law 2353 = .ok (.iadd, 1) := by decide +kernel
theorem dL_law_2354 : decode cL_law 2354 = .ok (.iaload, 1) := by decide +kernel
theorem dL_law_2355 : decode cL_law 2355 = .ok (.invokevirtual 201, 3) := by decide +kernel
theorem dL_law_2358 : decode cL_law 2358 = .ok (.if_icmp .eq 5, 3) := by decide +kernel
theorem dL_law_2361 : decode cL_law 2361 = .ok (.iconst 0, 1) := by decide +kernel
theorem dL_law_2362 : decode cL_law 2362 = .ok (.ireturn, 1) := by decide +kernel
theorem dL_law_2363 : decode cL_law 2363 = .ok (.iinc 4 7, 3) := by decide +kernel
theorem dL_law_2366 : decode cL_law 2366 = .ok (.goto (-2343), 3) := by decide +kernel
theorem dL_law_2369 : decode cL_law 2369 = .ok (.iconst 1, 1) := by decide +kernel
theorem dL_law_2370 : decode cL_law 2370 = .ok (.ireturn, 1) := by decide +kernel
theorem iX12_lend : Cond.instanceMethod yX12_lend ∈ gtbl := (tb_7 237 (by decide +kernel) rfl)
theorem eX12_lend : Cond.selects yX12_lend.cls yX12_lend yX12_lend ∈ gtbl := (tb_7 238 (by decide +kernel) rfl)
theorem sL_102 : xSite RL 102 yX12_lend cX12_lend 3 (some .int) 2 := ⟨(tb_7 236 (by decide +kernel) rfl), (tb_1 15 (by decide +kernel) rfl), (tb_7 239 (by decide +kernel) rfl), by decide +kernel, by decide⟩
theorem iX11_years : Cond.instanceMethod yX11_years ∈ gtbl := (tb_5 90 (by decide +kernel) rfl)
theorem eX11_years : Cond.selects yX11_years.cls yX11_years yX11_years ∈ gtbl := (tb_5 91 (by decide +kernel) rfl)
theorem sL_105 : xSite RL 105 yX11_years cX11_years 5 (some .int) 2 := ⟨(tb_5 89 (by decide +kernel) rfl), (tb_1 1 (by decide +kernel) rfl), (tb_5 92 (by decide +kernel) rfl), by decide +kernel, by decide⟩
theorem iX12_years : Cond.instanceMethod yX12_years ∈ gtbl := (tb_8 1 (by decide +kernel) rfl)
theorem eX12_years : Cond.selects yX12_years.cls yX12_years yX12_years ∈ gtbl := (tb_8 2 (by decide +kernel) rfl)
theorem sL_109 : xSite RL 109 yX12_years cX12_years 6 (some .int) 2 := ⟨(tb_8 0 (by decide +kernel) rfl), (tb_1 15 (by decide +kernel) rfl), (tb_8 3 (by decide +kernel) rfl), by decide +kernel, by decide⟩
theorem iX11_status : Cond.instanceMethod yX11_status ∈ gtbl := (tb_5 108 (by decide +kernel) rfl)
theorem eX11_status : Cond.selects yX11_status.cls yX11_status yX11_status ∈ gtbl := (tb_5 109 (by decide +kernel) rfl)
theorem sL_110 : xSite RL 110 yX11_status cX11_status 2 (some .int) 1 := ⟨(tb_5 107 (by decide +kernel) rfl), (tb_1 1 (by decide +kernel) rfl), (tb_5 110 (by decide +kernel) rfl), by decide +kernel, by decide⟩
theorem iX12_status : Cond.instanceMethod yX12_status ∈ gtbl := (tb_8 16 (by decide +kernel) rfl)
theorem eX12_status : Cond.selects yX12_status.cls yX12_status yX12_status ∈ gtbl := (tb_8 17 (by decide +kernel) rfl)
theorem sL_113 : xSite RL 113 yX12_status cX12_status 2 (some .int) 1 := ⟨(tb_8 15 (by decide +kernel) rfl), (tb_1 15 (by decide +kernel) rfl), (tb_8 18 (by decide +kernel) rfl), by decide +kernel, by decide⟩
theorem iX11_undo : Cond.instanceMethod yX11_undo ∈ gtbl := (tb_5 112 (by decide +kernel) rfl)
theorem eX11_undo : Cond.selects yX11_undo.cls yX11_undo yX11_undo ∈ gtbl := (tb_5 113 (by decide +kernel) rfl)
theorem sL_114 : xSite RL 114 yX11_undo cX11_undo 1 (some .int) 0 := ⟨(tb_5 111 (by decide +kernel) rfl), (tb_1 1 (by decide +kernel) rfl), (tb_5 114 (by decide +kernel) rfl), by decide +kernel, by decide⟩
theorem iX12_undo : Cond.instanceMethod yX12_undo ∈ gtbl := (tb_8 20 (by decide +kernel) rfl)
theorem eX12_undo : Cond.selects yX12_undo.cls yX12_undo yX12_undo ∈ gtbl := (tb_8 21 (by decide +kernel) rfl)
theorem sL_117 : xSite RL 117 yX12_undo cX12_undo 1 (some .int) 0 := ⟨(tb_8 19 (by decide +kernel) rfl), (tb_1 15 (by decide +kernel) rfl), (tb_8 22 (by decide +kernel) rfl), by decide +kernel, by decide⟩
theorem iX11_log : Cond.instanceMethod yX11_log ∈ gtbl := (tb_5 124 (by decide +kernel) rfl)
theorem eX11_log : Cond.selects yX11_log.cls yX11_log yX11_log ∈ gtbl := (tb_5 125 (by decide +kernel) rfl)
theorem sL_118 : xSite RL 118 yX11_log cX11_log 3 (some .int) 2 := ⟨(tb_5 123 (by decide +kernel) rfl), (tb_1 1 (by decide +kernel) rfl), (tb_5 126 (by decide +kernel) rfl), by decide +kernel, by decide⟩
theorem iX12_log : Cond.instanceMethod yX12_log ∈ gtbl := (tb_8 24 (by decide +kernel) rfl)
theorem eX12_log : Cond.selects yX12_log.cls yX12_log yX12_log ∈ gtbl := (tb_8 25 (by decide +kernel) rfl)
theorem sL_121 : xSite RL 121 yX12_log cX12_log 3 (some .int) 2 := ⟨(tb_8 23 (by decide +kernel) rfl), (tb_1 15 (by decide +kernel) rfl), (tb_8 26 (by decide +kernel) rfl), by decide +kernel, by decide⟩
theorem iX11_asOf : Cond.instanceMethod yX11_asOf ∈ gtbl := (tb_4 193 (by decide +kernel) rfl)
theorem eX11_asOf : Cond.selects yX11_asOf.cls yX11_asOf yX11_asOf ∈ gtbl := (tb_4 194 (by decide +kernel) rfl)
theorem sL_122 : xSite RL 122 yX11_asOf cX11_asOf 8 (some .int) 6 := ⟨(tb_4 192 (by decide +kernel) rfl), (tb_1 1 (by decide +kernel) rfl), (tb_4 195 (by decide +kernel) rfl), by decide +kernel, by decide⟩
theorem iX12_asOf : Cond.instanceMethod yX12_asOf ∈ gtbl := (tb_8 116 (by decide +kernel) rfl)
theorem eX12_asOf : Cond.selects yX12_asOf.cls yX12_asOf yX12_asOf ∈ gtbl := (tb_8 117 (by decide +kernel) rfl)
theorem sL_125 : xSite RL 125 yX12_asOf cX12_asOf 7 (some .int) 6 := ⟨(tb_8 115 (by decide +kernel) rfl), (tb_1 15 (by decide +kernel) rfl), (tb_8 118 (by decide +kernel) rfl), by decide +kernel, by decide⟩
theorem iX11_hire : Cond.instanceMethod yX11_hire ∈ gtbl := (tb_4 201 (by decide +kernel) rfl)
theorem eX11_hire : Cond.selects yX11_hire.cls yX11_hire yX11_hire ∈ gtbl := (tb_4 202 (by decide +kernel) rfl)
theorem sL_126 : xSite RL 126 yX11_hire cX11_hire 10 (some .int) 5 := ⟨(tb_4 200 (by decide +kernel) rfl), (tb_1 1 (by decide +kernel) rfl), (tb_4 203 (by decide +kernel) rfl), by decide +kernel, by decide⟩
theorem iX12_hire : Cond.instanceMethod yX12_hire ∈ gtbl := (tb_8 128 (by decide +kernel) rfl)
theorem eX12_hire : Cond.selects yX12_hire.cls yX12_hire yX12_hire ∈ gtbl := (tb_8 129 (by decide +kernel) rfl)
theorem sL_129 : xSite RL 129 yX12_hire cX12_hire 9 (some .int) 5 := ⟨(tb_8 127 (by decide +kernel) rfl), (tb_1 15 (by decide +kernel) rfl), (tb_8 130 (by decide +kernel) rfl), by decide +kernel, by decide⟩
theorem iX11_without : Cond.instanceMethod yX11_without ∈ gtbl := (tb_4 209 (by decide +kernel) rfl)
theorem eX11_without : Cond.selects yX11_without.cls yX11_without yX11_without ∈ gtbl := (tb_4 210 (by decide +kernel) rfl)
theorem sL_130 : xSite RL 130 yX11_without cX11_without 6 (some .int) 5 := ⟨(tb_4 208 (by decide +kernel) rfl), (tb_1 1 (by decide +kernel) rfl), (tb_4 211 (by decide +kernel) rfl), by decide +kernel, by decide⟩
theorem iX12_without : Cond.instanceMethod yX12_without ∈ gtbl := (tb_8 132 (by decide +kernel) rfl)
theorem eX12_without : Cond.selects yX12_without.cls yX12_without yX12_without ∈ gtbl := (tb_8 133 (by decide +kernel) rfl)
theorem sL_133 : xSite RL 133 yX12_without cX12_without 6 (some .int) 5 := ⟨(tb_8 131 (by decide +kernel) rfl), (tb_1 15 (by decide +kernel) rfl), (tb_8 134 (by decide +kernel) rfl), by decide +kernel, by decide⟩
theorem iX11_key : Cond.instanceMethod yX11_key ∈ gtbl := (tb_4 213 (by decide +kernel) rfl)
theorem eX11_key : Cond.selects yX11_key.cls yX11_key yX11_key ∈ gtbl := (tb_4 214 (by decide +kernel) rfl)
theorem sL_134 : xSite RL 134 yX11_key cX11_key 10 (some .int) 4 := ⟨(tb_4 212 (by decide +kernel) rfl), (tb_1 1 (by decide +kernel) rfl), (tb_4 215 (by decide +kernel) rfl), by decide +kernel, by decide⟩
theorem iX12_key : Cond.instanceMethod yX12_key ∈ gtbl := (tb_8 140 (by decide +kernel) rfl)
theorem eX12_key : Cond.selects yX12_key.cls yX12_key yX12_key ∈ gtbl := (tb_8 141 (by decide +kernel) rfl)
theorem sL_137 : xSite RL 137 yX12_key cX12_key 9 (some .int) 4 := ⟨(tb_8 139 (by decide +kernel) rfl), (tb_1 15 (by decide +kernel) rfl), (tb_8 142 (by decide +kernel) rfl), by decide +kernel, by decide⟩
theorem iX11_lapsed : Cond.instanceMethod yX11_lapsed ∈ gtbl := (tb_4 218 (by decide +kernel) rfl)
theorem eX11_lapsed : Cond.selects yX11_lapsed.cls yX11_lapsed yX11_lapsed ∈ gtbl := (tb_4 219 (by decide +kernel) rfl)
theorem sL_138 : xSite RL 138 yX11_lapsed cX11_lapsed 7 (some .int) 6 := ⟨(tb_4 217 (by decide +kernel) rfl), (tb_1 1 (by decide +kernel) rfl), (tb_4 220 (by decide +kernel) rfl), by decide +kernel, by decide⟩
theorem iX12_lapsed : Cond.instanceMethod yX12_lapsed ∈ gtbl := (tb_8 144 (by decide +kernel) rfl)
theorem eX12_lapsed : Cond.selects yX12_lapsed.cls yX12_lapsed yX12_lapsed ∈ gtbl := (tb_8 145 (by decide +kernel) rfl)
theorem sL_141 : xSite RL 141 yX12_lapsed cX12_lapsed 8 (some .int) 6 := ⟨(tb_8 143 (by decide +kernel) rfl), (tb_1 15 (by decide +kernel) rfl), (tb_8 146 (by decide +kernel) rfl), by decide +kernel, by decide⟩
theorem iX11_soon : Cond.instanceMethod yX11_soon ∈ gtbl := (tb_4 223 (by decide +kernel) rfl)
theorem eX11_soon : Cond.selects yX11_soon.cls yX11_soon yX11_soon ∈ gtbl := (tb_4 224 (by decide +kernel) rfl)
theorem sL_142 : xSite RL 142 yX11_soon cX11_soon 10 (some .int) 4 := ⟨(tb_4 222 (by decide +kernel) rfl), (tb_1 1 (by decide +kernel) rfl), (tb_4 225 (by decide +kernel) rfl), by decide +kernel, by decide⟩
theorem iX12_soon : Cond.instanceMethod yX12_soon ∈ gtbl := (tb_8 124 (by decide +kernel) rfl)
theorem eX12_soon : Cond.selects yX12_soon.cls yX12_soon yX12_soon ∈ gtbl := (tb_8 125 (by decide +kernel) rfl)
theorem sL_145 : xSite RL 145 yX12_soon cX12_soon 8 (some .int) 4 := ⟨(tb_8 123 (by decide +kernel) rfl), (tb_1 15 (by decide +kernel) rfl), (tb_8 126 (by decide +kernel) rfl), by decide +kernel, by decide⟩
theorem iX11_loops : Cond.instanceMethod yX11_loops ∈ gtbl := (tb_4 168 (by decide +kernel) rfl)
theorem eX11_loops : Cond.selects yX11_loops.cls yX11_loops yX11_loops ∈ gtbl := (tb_4 169 (by decide +kernel) rfl)
theorem sL_146 : xSite RL 146 yX11_loops cX11_loops 4 (some .int) 3 := ⟨(tb_4 167 (by decide +kernel) rfl), (tb_1 1 (by decide +kernel) rfl), (tb_4 170 (by decide +kernel) rfl), by decide +kernel, by decide⟩
theorem iX12_loops : Cond.instanceMethod yX12_loops ∈ gtbl := (tb_8 148 (by decide +kernel) rfl)
theorem eX12_loops : Cond.selects yX12_loops.cls yX12_loops yX12_loops ∈ gtbl := (tb_8 149 (by decide +kernel) rfl)
theorem sL_149 : xSite RL 149 yX12_loops cX12_loops 5 (some .int) 3 := ⟨(tb_8 147 (by decide +kernel) rfl), (tb_1 15 (by decide +kernel) rfl), (tb_8 150 (by decide +kernel) rfl), by decide +kernel, by decide⟩
theorem iX11_least : Cond.instanceMethod yX11_least ∈ gtbl := (tb_4 172 (by decide +kernel) rfl)
theorem eX11_least : Cond.selects yX11_least.cls yX11_least yX11_least ∈ gtbl := (tb_4 173 (by decide +kernel) rfl)
theorem sL_150 : xSite RL 150 yX11_least cX11_least 6 (some .int) 5 := ⟨(tb_4 171 (by decide +kernel) rfl), (tb_1 1 (by decide +kernel) rfl), (tb_4 174 (by decide +kernel) rfl), by decide +kernel, by decide⟩
theorem iX12_least : Cond.instanceMethod yX12_least ∈ gtbl := (tb_8 152 (by decide +kernel) rfl)
theorem eX12_least : Cond.selects yX12_least.cls yX12_least yX12_least ∈ gtbl := (tb_8 153 (by decide +kernel) rfl)
theorem sL_153 : xSite RL 153 yX12_least cX12_least 6 (some .int) 5 := ⟨(tb_8 151 (by decide +kernel) rfl), (tb_1 15 (by decide +kernel) rfl), (tb_8 154 (by decide +kernel) rfl), by decide +kernel, by decide⟩
theorem iX11_direct : Cond.instanceMethod yX11_direct ∈ gtbl := (tb_4 181 (by decide +kernel) rfl)
theorem eX11_direct : Cond.selects yX11_direct.cls yX11_direct yX11_direct ∈ gtbl := (tb_4 182 (by decide +kernel) rfl)
theorem sL_154 : xSite RL 154 yX11_direct cX11_direct 6 (some .int) 4 := ⟨(tb_4 180 (by decide +kernel) rfl), (tb_1 1 (by decide +kernel) rfl), (tb_4 183 (by decide +kernel) rfl), by decide +kernel, by decide⟩
theorem iX12_direct : Cond.instanceMethod yX12_direct ∈ gtbl := (tb_8 156 (by decide +kernel) rfl)
theorem eX12_direct : Cond.selects yX12_direct.cls yX12_direct yX12_direct ∈ gtbl := (tb_8 157 (by decide +kernel) rfl)
theorem sL_157 : xSite RL 157 yX12_direct cX12_direct 5 (some .int) 4 := ⟨(tb_8 155 (by decide +kernel) rfl), (tb_1 15 (by decide +kernel) rfl), (tb_8 158 (by decide +kernel) rfl), by decide +kernel, by decide⟩
theorem iX11_take : Cond.instanceMethod yX11_take ∈ gtbl := (tb_4 185 (by decide +kernel) rfl)
theorem eX11_take : Cond.selects yX11_take.cls yX11_take yX11_take ∈ gtbl := (tb_4 186 (by decide +kernel) rfl)
theorem sL_158 : xSite RL 158 yX11_take cX11_take 6 (some .int) 5 := ⟨(tb_4 184 (by decide +kernel) rfl), (tb_1 1 (by decide +kernel) rfl), (tb_4 187 (by decide +kernel) rfl), by decide +kernel, by decide⟩
theorem iX12_take : Cond.instanceMethod yX12_take ∈ gtbl := (tb_8 160 (by decide +kernel) rfl)
theorem eX12_take : Cond.selects yX12_take.cls yX12_take yX12_take ∈ gtbl := (tb_8 161 (by decide +kernel) rfl)
theorem sL_161 : xSite RL 161 yX12_take cX12_take 8 (some .int) 5 := ⟨(tb_8 159 (by decide +kernel) rfl), (tb_1 15 (by decide +kernel) rfl), (tb_8 162 (by decide +kernel) rfl), by decide +kernel, by decide⟩
theorem iX11_twice : Cond.instanceMethod yX11_twice ∈ gtbl := (tb_4 228 (by decide +kernel) rfl)
theorem eX11_twice : Cond.selects yX11_twice.cls yX11_twice yX11_twice ∈ gtbl := (tb_4 229 (by decide +kernel) rfl)
theorem sL_162 : xSite RL 162 yX11_twice cX11_twice 6 (some .int) 4 := ⟨(tb_4 227 (by decide +kernel) rfl), (tb_1 1 (by decide +kernel) rfl), (tb_4 230 (by decide +kernel) rfl), by decide +kernel, by decide⟩
theorem iX12_twice : Cond.instanceMethod yX12_twice ∈ gtbl := (tb_8 164 (by decide +kernel) rfl)
theorem eX12_twice : Cond.selects yX12_twice.cls yX12_twice yX12_twice ∈ gtbl := (tb_8 165 (by decide +kernel) rfl)
theorem sL_165 : xSite RL 165 yX12_twice cX12_twice 6 (some .int) 4 := ⟨(tb_8 163 (by decide +kernel) rfl), (tb_1 15 (by decide +kernel) rfl), (tb_8 166 (by decide +kernel) rfl), by decide +kernel, by decide⟩
theorem iX11_gross : Cond.instanceMethod yX11_gross ∈ gtbl := (tb_4 237 (by decide +kernel) rfl)
theorem eX11_gross : Cond.selects yX11_gross.cls yX11_gross yX11_gross ∈ gtbl := (tb_4 238 (by decide +kernel) rfl)
theorem sL_166 : xSite RL 166 yX11_gross cX11_gross 9 (some .int) 4 := ⟨(tb_4 236 (by decide +kernel) rfl), (tb_1 1 (by decide +kernel) rfl), (tb_4 239 (by decide +kernel) rfl), by decide +kernel, by decide⟩
theorem iX12_gross : Cond.instanceMethod yX12_gross ∈ gtbl := (tb_8 168 (by decide +kernel) rfl)
theorem eX12_gross : Cond.selects yX12_gross.cls yX12_gross yX12_gross ∈ gtbl := (tb_8 169 (by decide +kernel) rfl)
theorem sL_169 : xSite RL 169 yX12_gross cX12_gross 8 (some .int) 4 := ⟨(tb_8 167 (by decide +kernel) rfl), (tb_1 15 (by decide +kernel) rfl), (tb_8 170 (by decide +kernel) rfl), by decide +kernel, by decide⟩
theorem iX11_worth : Cond.instanceMethod yX11_worth ∈ gtbl := (tb_5 1 (by decide +kernel) rfl)
theorem eX11_worth : Cond.selects yX11_worth.cls yX11_worth yX11_worth ∈ gtbl := (tb_5 2 (by decide +kernel) rfl)
theorem sL_170 : xSite RL 170 yX11_worth cX11_worth 7 (some .int) 5 := ⟨(tb_5 0 (by decide +kernel) rfl), (tb_1 1 (by decide +kernel) rfl), (tb_5 3 (by decide +kernel) rfl), by decide +kernel, by decide⟩
theorem iX12_worth : Cond.instanceMethod yX12_worth ∈ gtbl := (tb_8 177 (by decide +kernel) rfl)
theorem eX12_worth : Cond.selects yX12_worth.cls yX12_worth yX12_worth ∈ gtbl := (tb_8 178 (by decide +kernel) rfl)
theorem sL_173 : xSite RL 173 yX12_worth cX12_worth 7 (some .int) 5 := ⟨(tb_8 176 (by decide +kernel) rfl), (tb_1 15 (by decide +kernel) rfl), (tb_8 179 (by decide +kernel) rfl), by decide +kernel, by decide⟩
theorem iX11_step : Cond.instanceMethod yX11_step ∈ gtbl := (tb_5 132 (by decide +kernel) rfl)
theorem eX11_step : Cond.selects yX11_step.cls yX11_step yX11_step ∈ gtbl := (tb_5 133 (by decide +kernel) rfl)
theorem sL_174 : xSite RL 174 yX11_step cX11_step 4 (some .int) 3 := ⟨(tb_5 131 (by decide +kernel) rfl), (tb_1 1 (by decide +kernel) rfl), (tb_5 134 (by decide +kernel) rfl), by decide +kernel, by decide⟩
theorem iX12_step : Cond.instanceMethod yX12_step ∈ gtbl := (tb_8 181 (by decide +kernel) rfl)
theorem eX12_step : Cond.selects yX12_step.cls yX12_step yX12_step ∈ gtbl := (tb_8 182 (by decide +kernel) rfl)
theorem sL_177 : xSite RL 177 yX12_step cX12_step 4 (some .int) 3 := ⟨(tb_8 180 (by decide +kernel) rfl), (tb_1 15 (by decide +kernel) rfl), (tb_8 183 (by decide +kernel) rfl), by decide +kernel, by decide⟩
theorem iX11_run : Cond.instanceMethod yX11_run ∈ gtbl := (tb_5 140 (by decide +kernel) rfl)
theorem eX11_run : Cond.selects yX11_run.cls yX11_run yX11_run ∈ gtbl := (tb_5 141 (by decide +kernel) rfl)
theorem sL_178 : xSite RL 178 yX11_run cX11_run 4 (some .int) 2 := ⟨(tb_5 139 (by decide +kernel) rfl), (tb_1 1 (by decide +kernel) rfl), (tb_5 142 (by decide +kernel) rfl), by decide +kernel, by decide⟩
theorem iX12_run : Cond.instanceMethod yX12_run ∈ gtbl := (tb_8 189 (by decide +kernel) rfl)
theorem eX12_run : Cond.selects yX12_run.cls yX12_run yX12_run ∈ gtbl := (tb_8 190 (by decide +kernel) rfl)
theorem sL_181 : xSite RL 181 yX12_run cX12_run 6 (some .int) 2 := ⟨(tb_8 188 (by decide +kernel) rfl), (tb_1 15 (by decide +kernel) rfl), (tb_8 191 (by decide +kernel) rfl), by decide +kernel, by decide⟩
theorem iX11_perform : Cond.instanceMethod yX11_perform ∈ gtbl := (tb_5 148 (by decide +kernel) rfl)
theorem eX11_perform : Cond.selects yX11_perform.cls yX11_perform yX11_perform ∈ gtbl := (tb_5 149 (by decide +kernel) rfl)
theorem sL_182 : xSite RL 182 yX11_perform cX11_perform 4 (some .int) 1 := ⟨(tb_5 147 (by decide +kernel) rfl), (tb_1 1 (by decide +kernel) rfl), (tb_5 150 (by decide +kernel) rfl), by decide +kernel, by decide⟩
theorem iX12_perform : Cond.instanceMethod yX12_perform ∈ gtbl := (tb_8 196 (by decide +kernel) rfl)
theorem eX12_perform : Cond.selects yX12_perform.cls yX12_perform yX12_perform ∈ gtbl := (tb_8 197 (by decide +kernel) rfl)
theorem sL_185 : xSite RL 185 yX12_perform cX12_perform 5 (some .int) 1 := ⟨(tb_8 195 (by decide +kernel) rfl), (tb_1 15 (by decide +kernel) rfl), (tb_8 198 (by decide +kernel) rfl), by decide +kernel, by decide⟩
theorem iX11_all : Cond.instanceMethod yX11_all ∈ gtbl := (tb_3 113 (by decide +kernel) rfl)
theorem eX11_all : Cond.selects yX11_all.cls yX11_all yX11_all ∈ gtbl := (tb_3 114 (by decide +kernel) rfl)
theorem sL_186 : xSite RL 186 yX11_all cX11_all 2 (some .int) 1 := ⟨(tb_3 112 (by decide +kernel) rfl), (tb_1 1 (by decide +kernel) rfl), (tb_3 115 (by decide +kernel) rfl), by decide +kernel, by decide⟩
theorem iX12_all : Cond.instanceMethod yX12_all ∈ gtbl := (tb_8 200 (by decide +kernel) rfl)
theorem eX12_all : Cond.selects yX12_all.cls yX12_all yX12_all ∈ gtbl := (tb_8 201 (by decide +kernel) rfl)
theorem sL_189 : xSite RL 189 yX12_all cX12_all 2 (some .int) 1 := ⟨(tb_8 199 (by decide +kernel) rfl), (tb_1 15 (by decide +kernel) rfl), (tb_8 202 (by decide +kernel) rfl), by decide +kernel, by decide⟩
theorem iX11_feed : Cond.instanceMethod yX11_feed ∈ gtbl := (tb_2 129 (by decide +kernel) rfl)
theorem eX11_feed : Cond.selects yX11_feed.cls yX11_feed yX11_feed ∈ gtbl := (tb_2 130 (by decide +kernel) rfl)
theorem sL_19 : xSite RL 19 yX11_feed cX11_feed 7 (some .int) 5 := ⟨(tb_2 128 (by decide +kernel) rfl), (tb_1 1 (by decide +kernel) rfl), (tb_2 131 (by decide +kernel) rfl), by decide +kernel, by decide⟩
theorem iX11_image : Cond.instanceMethod yX11_image ∈ gtbl := (tb_5 152 (by decide +kernel) rfl)
theorem eX11_image : Cond.selects yX11_image.cls yX11_image yX11_image ∈ gtbl := (tb_5 153 (by decide +kernel) rfl)
theorem sL_190 : xSite RL 190 yX11_image cX11_image 1 (some .int) 0 := ⟨(tb_5 151 (by decide +kernel) rfl), (tb_1 1 (by decide +kernel) rfl), (tb_5 154 (by decide +kernel) rfl), by decide +kernel, by decide⟩
theorem iX12_image : Cond.instanceMethod yX12_image ∈ gtbl := (tb_8 30 (by decide +kernel) rfl)
theorem eX12_image : Cond.selects yX12_image.cls yX12_image yX12_image ∈ gtbl := (tb_8 31 (by decide +kernel) rfl)
theorem sL_193 : xSite RL 193 yX12_image cX12_image 1 (some .int) 0 := ⟨(tb_8 29 (by decide +kernel) rfl), (tb_1 15 (by decide +kernel) rfl), (tb_8 32 (by decide +kernel) rfl), by decide +kernel, by decide⟩
theorem iX11_back : Cond.instanceMethod yX11_back ∈ gtbl := (tb_5 161 (by decide +kernel) rfl)
theorem eX11_back : Cond.selects yX11_back.cls yX11_back yX11_back ∈ gtbl := (tb_5 162 (by decide +kernel) rfl)
theorem sL_194 : xSite RL 194 yX11_back cX11_back 1 (some .int) 0 := ⟨(tb_5 160 (by decide +kernel) rfl), (tb_1 1 (by decide +kernel) rfl), (tb_5 163 (by decide +kernel) rfl), by decide +kernel, by decide⟩
theorem iX12_back : Cond.instanceMethod yX12_back ∈ gtbl := (tb_8 34 (by decide +kernel) rfl)
theorem eX12_back : Cond.selects yX12_back.cls yX12_back yX12_back ∈ gtbl := (tb_8 35 (by decide +kernel) rfl)
theorem sL_197 : xSite RL 197 yX12_back cX12_back 1 (some .int) 0 := ⟨(tb_8 33 (by decide +kernel) rfl), (tb_1 15 (by decide +kernel) rfl), (tb_8 36 (by decide +kernel) rfl), by decide +kernel, by decide⟩
theorem iX11_count : Cond.instanceMethod yX11_count ∈ gtbl := (tb_3 139 (by decide +kernel) rfl)
theorem eX11_count : Cond.selects yX11_count.cls yX11_count yX11_count ∈ gtbl := (tb_3 140 (by decide +kernel) rfl)
theorem sL_198 : xSite RL 198 yX11_count cX11_count 2 (some .int) 1 := ⟨(tb_3 138 (by decide +kernel) rfl), (tb_1 1 (by decide +kernel) rfl), (tb_3 141 (by decide +kernel) rfl), by decide +kernel, by decide⟩
theorem iX12_count : Cond.instanceMethod yX12_count ∈ gtbl := (tb_8 220 (by decide +kernel) rfl)
theorem eX12_count : Cond.selects yX12_count.cls yX12_count yX12_count ∈ gtbl := (tb_8 221 (by decide +kernel) rfl)
theorem sL_201 : xSite RL 201 yX12_count cX12_count 2 (some .int) 1 := ⟨(tb_8 219 (by decide +kernel) rfl), (tb_1 15 (by decide +kernel) rfl), (tb_8 222 (by decide +kernel) rfl), by decide +kernel, by decide⟩
theorem iX12_feed : Cond.instanceMethod yX12_feed ∈ gtbl := (tb_6 204 (by decide +kernel) rfl)
theorem eX12_feed : Cond.selects yX12_feed.cls yX12_feed yX12_feed ∈ gtbl := (tb_6 205 (by decide +kernel) rfl)
theorem sL_23 : xSite RL 23 yX12_feed cX12_feed 6 (some .int) 5 := ⟨(tb_6 203 (by decide +kernel) rfl), (tb_1 15 (by decide +kernel) rfl), (tb_6 206 (by decide +kernel) rfl), by decide +kernel, by decide⟩
theorem iX11_end : Cond.instanceMethod yX11_end ∈ gtbl := (tb_2 140 (by decide +kernel) rfl)
theorem eX11_end : Cond.selects yX11_end.cls yX11_end yX11_end ∈ gtbl := (tb_2 141 (by decide +kernel) rfl)
theorem sL_24 : xSite RL 24 yX11_end cX11_end 2 (some .boolean) 1 := ⟨(tb_2 139 (by decide +kernel) rfl), (tb_1 1 (by decide +kernel) rfl), (tb_2 142 (by decide +kernel) rfl), by decide +kernel, by decide⟩
theorem iX12_end : Cond.instanceMethod yX12_end ∈ gtbl := (tb_6 215 (by decide +kernel) rfl)
theorem eX12_end : Cond.selects yX12_end.cls yX12_end yX12_end ∈ gtbl := (tb_6 216 (by decide +kernel) rfl)
theorem sL_28 : xSite RL 28 yX12_end cX12_end 2 (some .boolean) 1 := ⟨(tb_6 214 (by decide +kernel) rfl), (tb_1 15 (by decide +kernel) rfl), (tb_6 217 (by decide +kernel) rfl), by decide +kernel, by decide⟩
theorem iX11_fault : Cond.instanceMethod yX11_fault ∈ gtbl := (tb_2 144 (by decide +kernel) rfl)
theorem eX11_fault : Cond.selects yX11_fault.cls yX11_fault yX11_fault ∈ gtbl := (tb_2 145 (by decide +kernel) rfl)
theorem sL_29 : xSite RL 29 yX11_fault cX11_fault 2 (some .int) 1 := ⟨(tb_2 143 (by decide +kernel) rfl), (tb_1 1 (by decide +kernel) rfl), (tb_2 146 (by decide +kernel) rfl), by decide +kernel, by decide⟩
theorem sL_33 : xSite RL 33 yX12_fault cX12_fault 2 (some .int) 1 := ⟨(tb_6 218 (by decide +kernel) rfl), (tb_1 15 (by decide +kernel) rfl), (tb_6 221 (by decide +kernel) rfl), by decide +kernel, by decide⟩
theorem iX11_text : Cond.instanceMethod yX11_text ∈ gtbl := (tb_3 19 (by decide +kernel) rfl)
theorem eX11_text : Cond.selects yX11_text.cls yX11_text yX11_text ∈ gtbl := (tb_3 20 (by decide +kernel) rfl)
theorem sL_34 : xSite RL 34 yX11_text cX11_text 2 (some .int) 1 := ⟨(tb_3 18 (by decide +kernel) rfl), (tb_1 1 (by decide +kernel) rfl), (tb_3 21 (by decide +kernel) rfl), by decide +kernel, by decide⟩
theorem iX12_text : Cond.instanceMethod yX12_text ∈ gtbl := (tb_7 91 (by decide +kernel) rfl)
theorem eX12_text : Cond.selects yX12_text.cls yX12_text yX12_text ∈ gtbl := (tb_7 92 (by decide +kernel) rfl)
theorem sL_37 : xSite RL 37 yX12_text cX12_text 4 (some .int) 1 := ⟨(tb_7 90 (by decide +kernel) rfl), (tb_1 15 (by decide +kernel) rfl), (tb_7 93 (by decide +kernel) rfl), by decide +kernel, by decide⟩
theorem iX11_land : Cond.instanceMethod yX11_land ∈ gtbl := (tb_3 50 (by decide +kernel) rfl)
theorem eX11_land : Cond.selects yX11_land.cls yX11_land yX11_land ∈ gtbl := (tb_3 51 (by decide +kernel) rfl)
theorem sL_38 : xSite RL 38 yX11_land cX11_land 3 (some .int) 2 := ⟨(tb_3 49 (by decide +kernel) rfl), (tb_1 1 (by decide +kernel) rfl), (tb_3 52 (by decide +kernel) rfl), by decide +kernel, by decide⟩
theorem iX12_land : Cond.instanceMethod yX12_land ∈ gtbl := (tb_8 38 (by decide +kernel) rfl)
theorem eX12_land : Cond.selects yX12_land.cls yX12_land yX12_land ∈ gtbl := (tb_8 39 (by decide +kernel) rfl)
theorem sL_41 : xSite RL 41 yX12_land cX12_land 3 (some .int) 2 := ⟨(tb_8 37 (by decide +kernel) rfl), (tb_1 15 (by decide +kernel) rfl), (tb_8 40 (by decide +kernel) rfl), by decide +kernel, by decide⟩
theorem iX12_firm : Cond.instanceMethod yX12_firm ∈ gtbl := (tb_8 46 (by decide +kernel) rfl)
theorem eX12_firm : Cond.selects yX12_firm.cls yX12_firm yX12_firm ∈ gtbl := (tb_8 47 (by decide +kernel) rfl)
theorem sL_47 : xSite RL 47 yX12_firm cX12_firm 3 (some .int) 2 := ⟨(tb_8 45 (by decide +kernel) rfl), (tb_1 15 (by decide +kernel) rfl), (tb_8 48 (by decide +kernel) rfl), by decide +kernel, by decide⟩
theorem iX12_thrown : Cond.instanceMethod yX12_thrown ∈ gtbl := (tb_6 200 (by decide +kernel) rfl)
theorem eX12_thrown : Cond.selects yX12_thrown.cls yX12_thrown yX12_thrown ∈ gtbl := (tb_6 201 (by decide +kernel) rfl)
theorem sL_48 : xSite RL 48 yX12_thrown cX12_thrown 1 (some .int) 0 := ⟨(tb_6 199 (by decide +kernel) rfl), (tb_1 15 (by decide +kernel) rfl), (tb_6 202 (by decide +kernel) rfl), by decide +kernel, by decide⟩
theorem iX11_name : Cond.instanceMethod yX11_name ∈ gtbl := (tb_3 58 (by decide +kernel) rfl)
theorem eX11_name : Cond.selects yX11_name.cls yX11_name yX11_name ∈ gtbl := (tb_3 59 (by decide +kernel) rfl)
theorem sL_52 : xSite RL 52 yX11_name cX11_name 4 (some .int) 3 := ⟨(tb_3 57 (by decide +kernel) rfl), (tb_1 1 (by decide +kernel) rfl), (tb_3 60 (by decide +kernel) rfl), by decide +kernel, by decide⟩
theorem iX12_name : Cond.instanceMethod yX12_name ∈ gtbl := (tb_8 55 (by decide +kernel) rfl)
theorem eX12_name : Cond.selects yX12_name.cls yX12_name yX12_name ∈ gtbl := (tb_8 56 (by decide +kernel) rfl)
theorem sL_56 : xSite RL 56 yX12_name cX12_name 6 (some .int) 3 := ⟨(tb_8 54 (by decide +kernel) rfl), (tb_1 15 (by decide +kernel) rfl), (tb_8 57 (by decide +kernel) rfl), by decide +kernel, by decide⟩
theorem iX11_link : Cond.instanceMethod yX11_link ∈ gtbl := (tb_3 70 (by decide +kernel) rfl)
theorem eX11_link : Cond.selects yX11_link.cls yX11_link yX11_link ∈ gtbl := (tb_3 71 (by decide +kernel) rfl)
theorem sL_57 : xSite RL 57 yX11_link cX11_link 3 (some .int) 2 := ⟨(tb_3 69 (by decide +kernel) rfl), (tb_1 1 (by decide +kernel) rfl), (tb_3 72 (by decide +kernel) rfl), by decide +kernel, by decide⟩
theorem iX12_link : Cond.instanceMethod yX12_link ∈ gtbl := (tb_8 66 (by decide +kernel) rfl)
theorem eX12_link : Cond.selects yX12_link.cls yX12_link yX12_link ∈ gtbl := (tb_8 67 (by decide +kernel) rfl)
theorem sL_60 : xSite RL 60 yX12_link cX12_link 3 (some .int) 2 := ⟨(tb_8 65 (by decide +kernel) rfl), (tb_1 15 (by decide +kernel) rfl), (tb_8 68 (by decide +kernel) rfl), by decide +kernel, by decide⟩
theorem iX11_treaty : Cond.instanceMethod yX11_treaty ∈ gtbl := (tb_3 78 (by decide +kernel) rfl)
theorem eX11_treaty : Cond.selects yX11_treaty.cls yX11_treaty yX11_treaty ∈ gtbl := (tb_3 79 (by decide +kernel) rfl)
theorem sL_61 : xSite RL 61 yX11_treaty cX11_treaty 6 (some .int) 4 := ⟨(tb_3 77 (by decide +kernel) rfl), (tb_1 1 (by decide +kernel) rfl), (tb_3 80 (by decide +kernel) rfl), by decide +kernel, by decide⟩
theorem iX12_treaty : Cond.instanceMethod yX12_treaty ∈ gtbl := (tb_8 70 (by decide +kernel) rfl)
theorem eX12_treaty : Cond.selects yX12_treaty.cls yX12_treaty yX12_treaty ∈ gtbl := (tb_8 71 (by decide +kernel) rfl)
theorem sL_65 : xSite RL 65 yX12_treaty cX12_treaty 6 (some .int) 4 := ⟨(tb_8 69 (by decide +kernel) rfl), (tb_1 15 (by decide +kernel) rfl), (tb_8 72 (by decide +kernel) rfl), by decide +kernel, by decide⟩
theorem iX11_hop : Cond.instanceMethod yX11_hop ∈ gtbl := (tb_3 89 (by decide +kernel) rfl)
theorem eX11_hop : Cond.selects yX11_hop.cls yX11_hop yX11_hop ∈ gtbl := (tb_3 90 (by decide +kernel) rfl)
theorem sL_66 : xSite RL 66 yX11_hop cX11_hop 7 (some .int) 5 := ⟨(tb_3 88 (by decide +kernel) rfl), (tb_1 1 (by decide +kernel) rfl), (tb_3 91 (by decide +kernel) rfl), by decide +kernel, by decide⟩
theorem iX12_hop : Cond.instanceMethod yX12_hop ∈ gtbl := (tb_8 76 (by decide +kernel) rfl)
theorem eX12_hop : Cond.selects yX12_hop.cls yX12_hop yX12_hop ∈ gtbl := (tb_8 77 (by decide +kernel) rfl)
theorem sL_69 : xSite RL 69 yX12_hop cX12_hop 7 (some .int) 5 := ⟨(tb_8 75 (by decide +kernel) rfl), (tb_1 15 (by decide +kernel) rfl), (tb_8 78 (by decide +kernel) rfl), by decide +kernel, by decide⟩
theorem iX11_best : Cond.instanceMethod yX11_best ∈ gtbl := (tb_3 148 (by decide +kernel) rfl)
theorem eX11_best : Cond.selects yX11_best.cls yX11_best yX11_best ∈ gtbl := (tb_3 149 (by decide +kernel) rfl)
theorem sL_70 : xSite RL 70 yX11_best cX11_best 6 (some .int) 5 := ⟨(tb_3 147 (by decide +kernel) rfl), (tb_1 1 (by decide +kernel) rfl), (tb_3 150 (by decide +kernel) rfl), by decide +kernel, by decide⟩
theorem iX12_best : Cond.instanceMethod yX12_best ∈ gtbl := (tb_8 80 (by decide +kernel) rfl)
theorem eX12_best : Cond.selects yX12_best.cls yX12_best yX12_best ∈ gtbl := (tb_8 81 (by decide +kernel) rfl)
theorem sL_73 : xSite RL 73 yX12_best cX12_best 6 (some .int) 5 := ⟨(tb_8 79 (by decide +kernel) rfl), (tb_1 15 (by decide +kernel) rfl), (tb_8 82 (by decide +kernel) rfl), by decide +kernel, by decide⟩
theorem iX11_stop : Cond.instanceMethod yX11_stop ∈ gtbl := (tb_3 189 (by decide +kernel) rfl)
theorem eX11_stop : Cond.selects yX11_stop.cls yX11_stop yX11_stop ∈ gtbl := (tb_3 190 (by decide +kernel) rfl)
theorem sL_74 : xSite RL 74 yX11_stop cX11_stop 7 (some .int) 6 := ⟨(tb_3 188 (by decide +kernel) rfl), (tb_1 1 (by decide +kernel) rfl), (tb_3 191 (by decide +kernel) rfl), by decide +kernel, by decide⟩
theorem iX12_stop : Cond.instanceMethod yX12_stop ∈ gtbl := (tb_8 92 (by decide +kernel) rfl)
theorem eX12_stop : Cond.selects yX12_stop.cls yX12_stop yX12_stop ∈ gtbl := (tb_8 93 (by decide +kernel) rfl)
theorem sL_78 : xSite RL 78 yX12_stop cX12_stop 7 (some .int) 6 := ⟨(tb_8 91 (by decide +kernel) rfl), (tb_1 15 (by decide +kernel) rfl), (tb_8 94 (by decide +kernel) rfl), by decide +kernel, by decide⟩
theorem iX11_spell : Cond.instanceMethod yX11_spell ∈ gtbl := (tb_3 193 (by decide +kernel) rfl)
theorem eX11_spell : Cond.selects yX11_spell.cls yX11_spell yX11_spell ∈ gtbl := (tb_3 194 (by decide +kernel) rfl)
theorem sL_79 : xSite RL 79 yX11_spell cX11_spell 6 (some .int) 5 := ⟨(tb_3 192 (by decide +kernel) rfl), (tb_1 1 (by decide +kernel) rfl), (tb_3 195 (by decide +kernel) rfl), by decide +kernel, by decide⟩
theorem iX12_spell : Cond.instanceMethod yX12_spell ∈ gtbl := (tb_8 96 (by decide +kernel) rfl)
theorem eX12_spell : Cond.selects yX12_spell.cls yX12_spell yX12_spell ∈ gtbl := (tb_8 97 (by decide +kernel) rfl)
theorem sL_82 : xSite RL 82 yX12_spell cX12_spell 6 (some .int) 5 := ⟨(tb_8 95 (by decide +kernel) rfl), (tb_1 15 (by decide +kernel) rfl), (tb_8 98 (by decide +kernel) rfl), by decide +kernel, by decide⟩
theorem iX11_pay : Cond.instanceMethod yX11_pay ∈ gtbl := (tb_5 11 (by decide +kernel) rfl)
theorem eX11_pay : Cond.selects yX11_pay.cls yX11_pay yX11_pay ∈ gtbl := (tb_5 12 (by decide +kernel) rfl)
theorem sL_83 : xSite RL 83 yX11_pay cX11_pay 5 (some .int) 4 := ⟨(tb_5 10 (by decide +kernel) rfl), (tb_1 1 (by decide +kernel) rfl), (tb_5 13 (by decide +kernel) rfl), by decide +kernel, by decide⟩
theorem iX12_pay : Cond.instanceMethod yX12_pay ∈ gtbl := (tb_7 103 (by decide +kernel) rfl)
theorem eX12_pay : Cond.selects yX12_pay.cls yX12_pay yX12_pay ∈ gtbl := (tb_7 104 (by decide +kernel) rfl)
theorem sL_86 : xSite RL 86 yX12_pay cX12_pay 5 (some .int) 4 := ⟨(tb_7 102 (by decide +kernel) rfl), (tb_1 15 (by decide +kernel) rfl), (tb_7 105 (by decide +kernel) rfl), by decide +kernel, by decide⟩
theorem iX11_pass : Cond.instanceMethod yX11_pass ∈ gtbl := (tb_5 74 (by decide +kernel) rfl)
theorem eX11_pass : Cond.selects yX11_pass.cls yX11_pass yX11_pass ∈ gtbl := (tb_5 75 (by decide +kernel) rfl)
theorem sL_87 : xSite RL 87 yX11_pass cX11_pass 2 (some .int) 1 := ⟨(tb_5 73 (by decide +kernel) rfl), (tb_1 1 (by decide +kernel) rfl), (tb_5 76 (by decide +kernel) rfl), by decide +kernel, by decide⟩
theorem iX12_pass : Cond.instanceMethod yX12_pass ∈ gtbl := (tb_7 225 (by decide +kernel) rfl)
theorem eX12_pass : Cond.selects yX12_pass.cls yX12_pass yX12_pass ∈ gtbl := (tb_7 226 (by decide +kernel) rfl)
theorem sL_90 : xSite RL 90 yX12_pass cX12_pass 2 (some .int) 1 := ⟨(tb_7 224 (by decide +kernel) rfl), (tb_1 15 (by decide +kernel) rfl), (tb_7 227 (by decide +kernel) rfl), by decide +kernel, by decide⟩
theorem iX11_staff : Cond.instanceMethod yX11_staff ∈ gtbl := (tb_5 78 (by decide +kernel) rfl)
theorem eX11_staff : Cond.selects yX11_staff.cls yX11_staff yX11_staff ∈ gtbl := (tb_5 79 (by decide +kernel) rfl)
theorem sL_91 : xSite RL 91 yX11_staff cX11_staff 3 (some .int) 2 := ⟨(tb_5 77 (by decide +kernel) rfl), (tb_1 1 (by decide +kernel) rfl), (tb_5 80 (by decide +kernel) rfl), by decide +kernel, by decide⟩
theorem iX12_staff : Cond.instanceMethod yX12_staff ∈ gtbl := (tb_7 229 (by decide +kernel) rfl)
theorem eX12_staff : Cond.selects yX12_staff.cls yX12_staff yX12_staff ∈ gtbl := (tb_7 230 (by decide +kernel) rfl)
theorem sL_94 : xSite RL 94 yX12_staff cX12_staff 3 (some .int) 2 := ⟨(tb_7 228 (by decide +kernel) rfl), (tb_1 15 (by decide +kernel) rfl), (tb_7 231 (by decide +kernel) rfl), by decide +kernel, by decide⟩
theorem iX11_own : Cond.instanceMethod yX11_own ∈ gtbl := (tb_5 82 (by decide +kernel) rfl)
theorem eX11_own : Cond.selects yX11_own.cls yX11_own yX11_own ∈ gtbl := (tb_5 83 (by decide +kernel) rfl)
theorem sL_95 : xSite RL 95 yX11_own cX11_own 4 (some .int) 3 := ⟨(tb_5 81 (by decide +kernel) rfl), (tb_1 1 (by decide +kernel) rfl), (tb_5 84 (by decide +kernel) rfl), by decide +kernel, by decide⟩
theorem iX12_own : Cond.instanceMethod yX12_own ∈ gtbl := (tb_7 233 (by decide +kernel) rfl)
theorem eX12_own : Cond.selects yX12_own.cls yX12_own yX12_own ∈ gtbl := (tb_7 234 (by decide +kernel) rfl)
theorem sL_98 : xSite RL 98 yX12_own cX12_own 4 (some .int) 3 := ⟨(tb_7 232 (by decide +kernel) rfl), (tb_1 15 (by decide +kernel) rfl), (tb_7 235 (by decide +kernel) rfl), by decide +kernel, by decide⟩
theorem iX11_lend : Cond.instanceMethod yX11_lend ∈ gtbl := (tb_5 86 (by decide +kernel) rfl)
theorem eX11_lend : Cond.selects yX11_lend.cls yX11_lend yX11_lend ∈ gtbl := (tb_5 87 (by decide +kernel) rfl)
theorem sL_99 : xSite RL 99 yX11_lend cX11_lend 3 (some .int) 2 := ⟨(tb_5 85 (by decide +kernel) rfl), (tb_1 1 (by decide +kernel) rfl), (tb_5 88 (by decide +kernel) rfl), by decide +kernel, by decide⟩
theorem kL_103 : Jvm.Cond.constantLong RL 103 4294967295 ∈ gtbl := (tb_8 223 (by decide +kernel) rfl)
