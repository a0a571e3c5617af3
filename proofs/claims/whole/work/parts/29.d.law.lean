theorem dL_law_0 : decode code 0 = .ok (.new 8, 3) := by decide +kernel
theorem dL_law_3 : decode code 3 = .ok (.dup, 1) := by decide +kernel
theorem dL_law_4 : decode code 4 = .ok (.invokespecial 119, 3) := by decide +kernel
theorem dL_law_7 : decode code 7 = .ok (.astore_n 1, 1) := by decide +kernel
theorem dL_law_8 : decode code 8 = .ok (.new 120, 3) := by decide +kernel
theorem dL_law_11 : decode code 11 = .ok (.dup, 1) := by decide +kernel
theorem dL_law_12 : decode code 12 = .ok (.invokespecial 122, 3) := by decide +kernel
theorem dL_law_15 : decode code 15 = .ok (.astore_n 2, 1) := by decide +kernel
theorem dL_law_16 : decode code 16 = .ok (.iconst 1, 1) := by decide +kernel
theorem dL_law_17 : decode code 17 = .ok (.newarray .long, 2) := by decide +kernel
theorem dL_law_19 : decode code 19 = .ok (.astore_n 3, 1) := by decide +kernel
theorem dL_law_20 : decode code 20 = .ok (.iconst 0, 1) := by decide +kernel
theorem dL_law_21 : decode code 21 = .ok (.istore 4, 2) := by decide +kernel
theorem dL_law_23 : decode code 23 = .ok (.iload 4, 2) := by decide +kernel
theorem dL_law_25 : decode code 25 = .ok (.aload_n 0, 1) := by decide +kernel
theorem dL_law_26 : decode code 26 = .ok (.arraylength, 1) := by decide +kernel
theorem dL_law_27 : decode code 27 = .ok (.iconst 4, 1) := by decide +kernel
theorem dL_law_28 : decode code 28 = .ok (.isub, 1) := by decide +kernel
theorem dL_law_29 : decode code 29 = .ok (.if_icmp .gt 2385, 3) := by decide +kernel
theorem dL_law_32 : decode code 32 = .ok (.aload_n 0, 1) := by decide +kernel
theorem dL_law_33 : decode code 33 = .ok (.iload 4, 2) := by decide +kernel
theorem dL_law_35 : decode code 35 = .ok (.iaload, 1) := by decide +kernel
theorem dL_law_36 : decode code 36 = .ok (.bipush 63, 2) := by decide +kernel
theorem dL_law_38 : decode code 38 = .ok (.iand, 1) := by decide +kernel
theorem dL_law_39 : decode code 39 = .ok (.tableswitch 2369 0 41 #[181, 237, 305, 385, 398, 482, 495, 508, 592, 605, 661, 717, 773, 829, 842, 886, 942, 998, 1054, 1110, 1166, 1222, 1266, 1329, 1385, 1481, 1537, 1593, 1677, 1761, 1824, 1880, 1955, 2011, 2024, 2092, 2148, 2161, 2217, 2258, 2342, 2355], 181) := by decide +kernel
theorem dL_law_220 : decode code 220 = .ok (.aload_n 1, 1) := by decide +kernel
theorem dL_law_221 : decode code 221 = .ok (.aload_n 0, 1) := by decide +kernel
theorem dL_law_222 : decode code 222 = .ok (.iload 4, 2) := by decide +kernel
theorem dL_law_224 : decode code 224 = .ok (.iconst 1, 1) := by decide +kernel
theorem dL_law_225 : decode code 225 = .ok (.iadd, 1) := by decide +kernel
theorem dL_law_226 : decode code 226 = .ok (.iaload, 1) := by decide +kernel
theorem dL_law_227 : decode code 227 = .ok (.aload_n 3, 1) := by decide +kernel
theorem dL_law_228 : decode code 228 = .ok (.invokestatic 123, 3) := by decide +kernel
theorem dL_law_231 : decode code 231 = .ok (.istore 5, 2) := by decide +kernel
theorem dL_law_233 : decode code 233 = .ok (.aload_n 2, 1) := by decide +kernel
theorem dL_law_234 : decode code 234 = .ok (.aload_n 0, 1) := by decide +kernel
theorem dL_law_235 : decode code 235 = .ok (.iload 4, 2) := by decide +kernel
theorem dL_law_237 : decode code 237 = .ok (.iconst 1, 1) := by decide +kernel
theorem dL_law_238 : decode code 238 = .ok (.iadd, 1) := by decide +kernel
theorem dL_law_239 : decode code 239 = .ok (.iaload, 1) := by decide +kernel
theorem dL_law_240 : decode code 240 = .ok (.invokevirtual 128, 3) := by decide +kernel
theorem dL_law_243 : decode code 243 = .ok (.istore 6, 2) := by decide +kernel
theorem dL_law_245 : decode code 245 = .ok (.aload_n 2, 1) := by decide +kernel
theorem dL_law_246 : decode code 246 = .ok (.invokevirtual 129, 3) := by decide +kernel
theorem dL_law_249 : decode code 249 = .ok (.iload 5, 2) := by decide +kernel
theorem dL_law_251 : decode code 251 = .ok (.if_icmp .eq 5, 3) := by decide +kernel
theorem dL_law_254 : decode code 254 = .ok (.iconst 0, 1) := by decide +kernel
theorem dL_law_255 : decode code 255 = .ok (.ireturn, 1) := by decide +kernel
theorem dL_law_256 : decode code 256 = .ok (.iload 5, 2) := by decide +kernel
theorem dL_law_258 : decode code 258 = .ok (.ifCond .ne 15, 3) := by decide +kernel
theorem dL_law_261 : decode code 261 = .ok (.aload_n 3, 1) := by decide +kernel
theorem dL_law_262 : decode code 262 = .ok (.iconst 0, 1) := by decide +kernel
theorem dL_law_263 : decode code 263 = .ok (.laload, 1) := by decide +kernel
theorem dL_law_264 : decode code 264 = .ok (.iload 6, 2) := by decide +kernel
theorem dL_law_266 : decode code 266 = .ok (.i2l, 1) := by decide +kernel
theorem dL_law_267 : decode code 267 = .ok (.lcmp, 1) := by decide +kernel
theorem dL_law_268 : decode code 268 = .ok (.ifCond .eq 5, 3) := by decide +kernel
theorem dL_law_271 : decode code 271 = .ok (.iconst 0, 1) := by decide +kernel
theorem dL_law_272 : decode code 272 = .ok (.ireturn, 1) := by decide +kernel
theorem dL_law_273 : decode code 273 = .ok (.goto 2135, 3) := by decide +kernel
theorem dL_law_276 : decode code 276 = .ok (.aload_n 1, 1) := by decide +kernel
theorem dL_law_277 : decode code 277 = .ok (.aload_n 0, 1) := by decide +kernel
theorem dL_law_278 : decode code 278 = .ok (.iload 4, 2) := by decide +kernel
theorem dL_law_280 : decode code 280 = .ok (.iconst 1, 1) := by decide +kernel
theorem dL_law_281 : decode code 281 = .ok (.iadd, 1) := by decide +kernel
theorem dL_law_282 : decode code 282 = .ok (.iaload, 1) := by decide +kernel
theorem dL_law_283 : decode code 283 = .ok (.aload_n 0, 1) := by decide +kernel
theorem dL_law_284 : decode code 284 = .ok (.iload 4, 2) := by decide +kernel
theorem dL_law_286 : decode code 286 = .ok (.iconst 2, 1) := by decide +kernel
theorem dL_law_287 : decode code 287 = .ok (.iadd, 1) := by decide +kernel
theorem dL_law_288 : decode code 288 = .ok (.iaload, 1) := by decide +kernel
theorem dL_law_289 : decode code 289 = .ok (.aload_n 3, 1) := by decide +kernel
theorem dL_law_290 : decode code 290 = .ok (.invokestatic 132, 3) := by decide +kernel
theorem dL_law_293 : decode code 293 = .ok (.istore 5, 2) := by decide +kernel
theorem dL_law_295 : decode code 295 = .ok (.aload_n 2, 1) := by decide +kernel
theorem dL_law_296 : decode code 296 = .ok (.aload_n 0, 1) := by decide +kernel
theorem dL_law_297 : decode code 297 = .ok (.iload 4, 2) := by decide +kernel
theorem dL_law_299 : decode code 299 = .ok (.iconst 1, 1) := by decide +kernel
theorem dL_law_300 : decode code 300 = .ok (.iadd, 1) := by decide +kernel
theorem dL_law_301 : decode code 301 = .ok (.iaload, 1) := by decide +kernel
theorem dL_law_302 : decode code 302 = .ok (.aload_n 0, 1) := by decide +kernel
theorem dL_law_303 : decode code 303 = .ok (.iload 4, 2) := by decide +kernel
theorem dL_law_305 : decode code 305 = .ok (.iconst 2, 1) := by decide +kernel
theorem dL_law_306 : decode code 306 = .ok (.iadd, 1) := by decide +kernel
theorem dL_law_307 : decode code 307 = .ok (.iaload, 1) := by decide +kernel
theorem dL_law_308 : decode code 308 = .ok (.invokevirtual 135, 3) := by decide +kernel
theorem dL_law_311 : decode code 311 = .ok (.istore 6, 2) := by decide +kernel
theorem dL_law_313 : decode code 313 = .ok (.aload_n 2, 1) := by decide +kernel
theorem dL_law_314 : decode code 314 = .ok (.invokevirtual 129, 3) := by decide +kernel
theorem dL_law_317 : decode code 317 = .ok (.iload 5, 2) := by decide +kernel
theorem dL_law_319 : decode code 319 = .ok (.if_icmp .eq 5, 3) := by decide +kernel
theorem dL_law_322 : decode code 322 = .ok (.iconst 0, 1) := by decide +kernel
theorem dL_law_323 : decode code 323 = .ok (.ireturn, 1) := by decide +kernel
theorem dL_law_324 : decode code 324 = .ok (.iload 5, 2) := by decide +kernel
theorem dL_law_326 : decode code 326 = .ok (.ifCond .ne 15, 3) := by decide +kernel
theorem dL_law_329 : decode code 329 = .ok (.aload_n 3, 1) := by decide +kernel
theorem dL_law_330 : decode code 330 = .ok (.iconst 0, 1) := by decide +kernel
theorem dL_law_331 : decode code 331 = .ok (.laload, 1) := by decide +kernel
theorem dL_law_332 : decode code 332 = .ok (.iload 6, 2) := by decide +kernel
theorem dL_law_334 : decode code 334 = .ok (.i2l, 1) := by decide +kernel
theorem dL_law_335 : decode code 335 = .ok (.lcmp, 1) := by decide +kernel
theorem dL_law_336 : decode code 336 = .ok (.ifCond .eq 5, 3) := by decide +kernel
theorem dL_law_339 : decode code 339 = .ok (.iconst 0, 1) := by decide +kernel
theorem dL_law_340 : decode code 340 = .ok (.ireturn, 1) := by decide +kernel
theorem dL_law_341 : decode code 341 = .ok (.goto 2067, 3) := by decide +kernel
theorem dL_law_344 : decode code 344 = .ok (.aload_n 1, 1) := by decide +kernel
theorem dL_law_345 : decode code 345 = .ok (.aload_n 0, 1) := by decide +kernel
theorem dL_law_346 : decode code 346 = .ok (.iload 4, 2) := by decide +kernel
theorem dL_law_348 : decode code 348 = .ok (.iconst 1, 1) := by decide +kernel
theorem dL_law_349 : decode code 349 = .ok (.iadd, 1) := by decide +kernel
theorem dL_law_350 : decode code 350 = .ok (.iaload, 1) := by decide +kernel
theorem dL_law_351 : decode code 351 = .ok (.aload_n 0, 1) := by decide +kernel
theorem dL_law_352 : decode code 352 = .ok (.iload 4, 2) := by decide +kernel
theorem dL_law_354 : decode code 354 = .ok (.iconst 2, 1) := by decide +kernel
theorem dL_law_355 : decode code 355 = .ok (.iadd, 1) := by decide +kernel
theorem dL_law_356 : decode code 356 = .ok (.iaload, 1) := by decide +kernel
theorem dL_law_357 : decode code 357 = .ok (.aload_n 0, 1) := by decide +kernel
theorem dL_law_358 : decode code 358 = .ok (.iload 4, 2) := by decide +kernel
theorem dL_law_360 : decode code 360 = .ok (.iconst 3, 1) := by decide +kernel
theorem dL_law_361 : decode code 361 = .ok (.iadd, 1) := by decide +kernel
theorem dL_law_362 : decode code 362 = .ok (.iaload, 1) := by decide +kernel
theorem dL_law_363 : decode code 363 = .ok (.aload_n 3, 1) := by decide +kernel
theorem dL_law_364 : decode code 364 = .ok (.invokestatic 136, 3) := by decide +kernel
theorem dL_law_367 : decode code 367 = .ok (.istore 5, 2) := by decide +kernel
theorem dL_law_369 : decode code 369 = .ok (.aload_n 2, 1) := by decide +kernel
theorem dL_law_370 : decode code 370 = .ok (.aload_n 0, 1) := by decide +kernel
theorem dL_law_371 : decode code 371 = .ok (.iload 4, 2) := by decide +kernel
theorem dL_law_373 : decode code 373 = .ok (.iconst 1, 1) := by decide +kernel
theorem dL_law_374 : decode code 374 = .ok (.iadd, 1) := by decide +kernel
theorem dL_law_375 : decode code 375 = .ok (.iaload, 1) := by decide +kernel
theorem dL_law_376 : decode code 376 = .ok (.aload_n 0, 1) := by decide +kernel
theorem dL_law_377 : decode code 377 = .ok (.iload 4, 2) := by decide +kernel
theorem dL_law_379 : decode code 379 = .ok (.iconst 2, 1) := by decide +kernel
theorem dL_law_380 : decode code 380 = .ok (.iadd, 1) := by decide +kernel
theorem dL_law_381 : decode code 381 = .ok (.iaload, 1) := by decide +kernel
theorem dL_law_382 : decode code 382 = .ok (.aload_n 0, 1) := by decide +kernel
theorem dL_law_383 : decode code 383 = .ok (.iload 4, 2) := by decide +kernel
theorem dL_law_385 : decode code 385 = .ok (.iconst 3, 1) := by decide +kernel
theorem dL_law_386 : decode code 386 = .ok (.iadd, 1) := by decide +kernel
theorem dL_law_387 : decode code 387 = .ok (.iaload, 1) := by decide +kernel
theorem dL_law_388 : decode code 388 = .ok (.invokevirtual 139, 3) := by decide +kernel
theorem dL_law_391 : decode code 391 = .ok (.istore 6, 2) := by decide +kernel
theorem dL_law_393 : decode code 393 = .ok (.aload_n 2, 1) := by decide +kernel
theorem dL_law_394 : decode code 394 = .ok (.invokevirtual 129, 3) := by decide +kernel
theorem dL_law_397 : decode code 397 = .ok (.iload 5, 2) := by decide +kernel
theorem dL_law_399 : decode code 399 = .ok (.if_icmp .eq 5, 3) := by decide +kernel
theorem dL_law_402 : decode code 402 = .ok (.iconst 0, 1) := by decide +kernel
theorem dL_law_403 : decode code 403 = .ok (.ireturn, 1) := by decide +kernel
theorem dL_law_404 : decode code 404 = .ok (.iload 5, 2) := by decide +kernel
theorem dL_law_406 : decode code 406 = .ok (.ifCond .ne 15, 3) := by decide +kernel
theorem dL_law_409 : decode code 409 = .ok (.aload_n 3, 1) := by decide +kernel
theorem dL_law_410 : decode code 410 = .ok (.iconst 0, 1) := by decide +kernel
theorem dL_law_411 : decode code 411 = .ok (.laload, 1) := by decide +kernel
theorem dL_law_412 : decode code 412 = .ok (.iload 6, 2) := by decide +kernel
theorem dL_law_414 : decode code 414 = .ok (.i2l, 1) := by decide +kernel
theorem dL_law_415 : decode code 415 = .ok (.lcmp, 1) := by decide +kernel
theorem dL_law_416 : decode code 416 = .ok (.ifCond .eq 5, 3) := by decide +kernel
theorem dL_law_419 : decode code 419 = .ok (.iconst 0, 1) := by decide +kernel
theorem dL_law_420 : decode code 420 = .ok (.ireturn, 1) := by decide +kernel
theorem dL_law_421 : decode code 421 = .ok (.goto 1987, 3) := by decide +kernel
theorem dL_law_424 : decode code 424 = .ok (.aload_n 1, 1) := by decide +kernel
theorem dL_law_425 : decode code 425 = .ok (.invokevirtual 140, 3) := by decide +kernel
theorem dL_law_428 : decode code 428 = .ok (.aload_n 2, 1) := by decide +kernel
theorem dL_law_429 : decode code 429 = .ok (.invokevirtual 143, 3) := by decide +kernel
theorem dL_law_432 : decode code 432 = .ok (.if_icmp .eq 1976, 3) := by decide +kernel
theorem dL_law_435 : decode code 435 = .ok (.iconst 0, 1) := by decide +kernel
theorem dL_law_436 : decode code 436 = .ok (.ireturn, 1) := by decide +kernel
theorem dL_law_437 : decode code 437 = .ok (.aload_n 1, 1) := by decide +kernel
theorem dL_law_438 : decode code 438 = .ok (.aload_n 0, 1) := by decide +kernel
theorem dL_law_439 : decode code 439 = .ok (.iload 4, 2) := by decide +kernel
theorem dL_law_441 : decode code 441 = .ok (.iconst 1, 1) := by decide +kernel
theorem dL_law_442 : decode code 442 = .ok (.iadd, 1) := by decide +kernel
theorem dL_law_443 : decode code 443 = .ok (.iaload, 1) := by decide +kernel
theorem dL_law_444 : decode code 444 = .ok (.aload_n 0, 1) := by decide +kernel
theorem dL_law_445 : decode code 445 = .ok (.iload 4, 2) := by decide +kernel
theorem dL_law_447 : decode code 447 = .ok (.iconst 2, 1) := by decide +kernel
theorem dL_law_448 : decode code 448 = .ok (.iadd, 1) := by decide +kernel
theorem dL_law_449 : decode code 449 = .ok (.iaload, 1) := by decide +kernel
theorem dL_law_450 : decode code 450 = .ok (.ifCond .eq 7, 3) := by decide +kernel
theorem dL_law_453 : decode code 453 = .ok (.iconst 1, 1) := by decide +kernel
theorem dL_law_454 : decode code 454 = .ok (.goto 4, 3) := by decide +kernel
theorem dL_law_457 : decode code 457 = .ok (.iconst 0, 1) := by decide +kernel
theorem dL_law_458 : decode code 458 = .ok (.aload_n 3, 1) := by decide +kernel
theorem dL_law_459 : decode code 459 = .ok (.invokestatic 144, 3) := by decide +kernel
theorem dL_law_462 : decode code 462 = .ok (.istore 5, 2) := by decide +kernel
theorem dL_law_464 : decode code 464 = .ok (.aload_n 2, 1) := by decide +kernel
theorem dL_law_465 : decode code 465 = .ok (.aload_n 0, 1) := by decide +kernel
theorem dL_law_466 : decode code 466 = .ok (.iload 4, 2) := by decide +kernel
theorem dL_law_468 : decode code 468 = .ok (.iconst 1, 1) := by decide +kernel
theorem dL_law_469 : decode code 469 = .ok (.iadd, 1) := by decide +kernel
theorem dL_law_470 : decode code 470 = .ok (.iaload, 1) := by decide +kernel
theorem dL_law_471 : decode code 471 = .ok (.aload_n 0, 1) := by decide +kernel
theorem dL_law_472 : decode code 472 = .ok (.iload 4, 2) := by decide +kernel
theorem dL_law_474 : decode code 474 = .ok (.iconst 2, 1) := by decide +kernel
theorem dL_law_475 : decode code 475 = .ok (.iadd, 1) := by decide +kernel
theorem dL_law_476 : decode code 476 = .ok (.iaload, 1) := by decide +kernel
theorem dL_law_477 : decode code 477 = .ok (.ifCond .eq 7, 3) := by decide +kernel
theorem dL_law_480 : decode code 480 = .ok (.iconst 1, 1) := by decide +kernel
theorem dL_law_481 : decode code 481 = .ok (.goto 4, 3) := by decide +kernel
theorem dL_law_484 : decode code 484 = .ok (.iconst 0, 1) := by decide +kernel
theorem dL_law_485 : decode code 485 = .ok (.invokevirtual 147, 3) := by decide +kernel
theorem dL_law_488 : decode code 488 = .ok (.istore 6, 2) := by decide +kernel
theorem dL_law_490 : decode code 490 = .ok (.aload_n 2, 1) := by decide +kernel
theorem dL_law_491 : decode code 491 = .ok (.invokevirtual 129, 3) := by decide +kernel
theorem dL_law_494 : decode code 494 = .ok (.iload 5, 2) := by decide +kernel
theorem dL_law_496 : decode code 496 = .ok (.if_icmp .eq 5, 3) := by decide +kernel
theorem dL_law_499 : decode code 499 = .ok (.iconst 0, 1) := by decide +kernel
theorem dL_law_500 : decode code 500 = .ok (.ireturn, 1) := by decide +kernel
theorem dL_law_501 : decode code 501 = .ok (.iload 5, 2) := by decide +kernel
theorem dL_law_503 : decode code 503 = .ok (.ifCond .ne 15, 3) := by decide +kernel
theorem dL_law_506 : decode code 506 = .ok (.aload_n 3, 1) := by decide +kernel
theorem dL_law_507 : decode code 507 = .ok (.iconst 0, 1) := by decide +kernel
theorem dL_law_508 : decode code 508 = .ok (.laload, 1) := by decide +kernel
theorem dL_law_509 : decode code 509 = .ok (.iload 6, 2) := by decide +kernel
theorem dL_law_511 : decode code 511 = .ok (.i2l, 1) := by decide +kernel
theorem dL_law_512 : decode code 512 = .ok (.lcmp, 1) := by decide +kernel
theorem dL_law_513 : decode code 513 = .ok (.ifCond .eq 5, 3) := by decide +kernel
theorem dL_law_516 : decode code 516 = .ok (.iconst 0, 1) := by decide +kernel
theorem dL_law_517 : decode code 517 = .ok (.ireturn, 1) := by decide +kernel
theorem dL_law_518 : decode code 518 = .ok (.goto 1890, 3) := by decide +kernel
theorem dL_law_521 : decode code 521 = .ok (.aload_n 1, 1) := by decide +kernel
theorem dL_law_522 : decode code 522 = .ok (.invokevirtual 148, 3) := by decide +kernel
theorem dL_law_525 : decode code 525 = .ok (.aload_n 2, 1) := by decide +kernel
theorem dL_law_526 : decode code 526 = .ok (.invokevirtual 151, 3) := by decide +kernel
theorem dL_law_529 : decode code 529 = .ok (.if_icmp .eq 1879, 3) := by decide +kernel
theorem dL_law_532 : decode code 532 = .ok (.iconst 0, 1) := by decide +kernel
theorem dL_law_533 : decode code 533 = .ok (.ireturn, 1) := by decide +kernel
theorem dL_law_534 : decode code 534 = .ok (.aload_n 1, 1) := by decide +kernel
theorem dL_law_535 : decode code 535 = .ok (.invokevirtual 152, 3) := by decide +kernel
theorem dL_law_538 : decode code 538 = .ok (.aload_n 2, 1) := by decide +kernel
theorem dL_law_539 : decode code 539 = .ok (.invokevirtual 155, 3) := by decide +kernel
theorem dL_law_542 : decode code 542 = .ok (.if_icmp .eq 1866, 3) := by decide +kernel
theorem dL_law_545 : decode code 545 = .ok (.iconst 0, 1) := by decide +kernel
theorem dL_law_546 : decode code 546 = .ok (.ireturn, 1) := by decide +kernel
theorem dL_law_547 : decode code 547 = .ok (.aload_n 1, 1) := by decide +kernel
theorem dL_law_548 : decode code 548 = .ok (.aload_n 0, 1) := by decide +kernel
theorem dL_law_549 : decode code 549 = .ok (.iload 4, 2) := by decide +kernel
theorem dL_law_551 : decode code 551 = .ok (.iconst 1, 1) := by decide +kernel
theorem dL_law_552 : decode code 552 = .ok (.iadd, 1) := by decide +kernel
theorem dL_law_553 : decode code 553 = .ok (.iaload, 1) := by decide +kernel
theorem dL_law_554 : decode code 554 = .ok (.aload_n 0, 1) := by decide +kernel
theorem dL_law_555 : decode code 555 = .ok (.iload 4, 2) := by decide +kernel
theorem dL_law_557 : decode code 557 = .ok (.iconst 2, 1) := by decide +kernel
theorem dL_law_558 : decode code 558 = .ok (.iadd, 1) := by decide +kernel
theorem dL_law_559 : decode code 559 = .ok (.iaload, 1) := by decide +kernel
theorem dL_law_560 : decode code 560 = .ok (.ifCond .eq 7, 3) := by decide +kernel
theorem dL_law_563 : decode code 563 = .ok (.iconst 1, 1) := by decide +kernel
theorem dL_law_564 : decode code 564 = .ok (.goto 4, 3) := by decide +kernel
theorem dL_law_567 : decode code 567 = .ok (.iconst 0, 1) := by decide +kernel
theorem dL_law_568 : decode code 568 = .ok (.aload_n 3, 1) := by decide +kernel
theorem dL_law_569 : decode code 569 = .ok (.invokestatic 156, 3) := by decide +kernel
theorem dL_law_572 : decode code 572 = .ok (.istore 5, 2) := by decide +kernel
theorem dL_law_574 : decode code 574 = .ok (.aload_n 2, 1) := by decide +kernel
theorem dL_law_575 : decode code 575 = .ok (.aload_n 0, 1) := by decide +kernel
theorem dL_law_576 : decode code 576 = .ok (.iload 4, 2) := by decide +kernel
theorem dL_law_578 : decode code 578 = .ok (.iconst 1, 1) := by decide +kernel
theorem dL_law_579 : decode code 579 = .ok (.iadd, 1) := by decide +kernel
theorem dL_law_580 : decode code 580 = .ok (.iaload, 1) := by decide +kernel
theorem dL_law_581 : decode code 581 = .ok (.aload_n 0, 1) := by decide +kernel
theorem dL_law_582 : decode code 582 = .ok (.iload 4, 2) := by decide +kernel
theorem dL_law_584 : decode code 584 = .ok (.iconst 2, 1) := by decide +kernel
theorem dL_law_585 : decode code 585 = .ok (.iadd, 1) := by decide +kernel
theorem dL_law_586 : decode code 586 = .ok (.iaload, 1) := by decide +kernel
theorem dL_law_587 : decode code 587 = .ok (.ifCond .eq 7, 3) := by decide +kernel
theorem dL_law_590 : decode code 590 = .ok (.iconst 1, 1) := by decide +kernel
theorem dL_law_591 : decode code 591 = .ok (.goto 4, 3) := by decide +kernel
theorem dL_law_594 : decode code 594 = .ok (.iconst 0, 1) := by decide +kernel
theorem dL_law_595 : decode code 595 = .ok (.invokevirtual 158, 3) := by decide +kernel
theorem dL_law_598 : decode code 598 = .ok (.istore 6, 2) := by decide +kernel
theorem dL_law_600 : decode code 600 = .ok (.aload_n 2, 1) := by decide +kernel
theorem dL_law_601 : decode code 601 = .ok (.invokevirtual 129, 3) := by decide +kernel
theorem dL_law_604 : decode code 604 = .ok (.iload 5, 2) := by decide +kernel
theorem dL_law_606 : decode code 606 = .ok (.if_icmp .eq 5, 3) := by decide +kernel
theorem dL_law_609 : decode code 609 = .ok (.iconst 0, 1) := by decide +kernel
theorem dL_law_610 : decode code 610 = .ok (.ireturn, 1) := by decide +kernel
theorem dL_law_611 : decode code 611 = .ok (.iload 5, 2) := by decide +kernel
theorem dL_law_613 : decode code 613 = .ok (.ifCond .ne 15, 3) := by decide +kernel
theorem dL_law_616 : decode code 616 = .ok (.aload_n 3, 1) := by decide +kernel
theorem dL_law_617 : decode code 617 = .ok (.iconst 0, 1) := by decide +kernel
theorem dL_law_618 : decode code 618 = .ok (.laload, 1) := by decide +kernel
theorem dL_law_619 : decode code 619 = .ok (.iload 6, 2) := by decide +kernel
theorem dL_law_621 : decode code 621 = .ok (.i2l, 1) := by decide +kernel
theorem dL_law_622 : decode code 622 = .ok (.lcmp, 1) := by decide +kernel
theorem dL_law_623 : decode code 623 = .ok (.ifCond .eq 5, 3) := by decide +kernel
theorem dL_law_626 : decode code 626 = .ok (.iconst 0, 1) := by decide +kernel
theorem dL_law_627 : decode code 627 = .ok (.ireturn, 1) := by decide +kernel
theorem dL_law_628 : decode code 628 = .ok (.goto 1780, 3) := by decide +kernel
theorem dL_law_631 : decode code 631 = .ok (.aload_n 1, 1) := by decide +kernel
theorem dL_law_632 : decode code 632 = .ok (.invokevirtual 159, 3) := by decide +kernel
theorem dL_law_635 : decode code 635 = .ok (.aload_n 2, 1) := by decide +kernel
theorem dL_law_636 : decode code 636 = .ok (.invokevirtual 163, 3) := by decide +kernel
theorem dL_law_639 : decode code 639 = .ok (.if_icmp .eq 1769, 3) := by decide +kernel
theorem dL_law_642 : decode code 642 = .ok (.iconst 0, 1) := by decide +kernel
theorem dL_law_643 : decode code 643 = .ok (.ireturn, 1) := by decide +kernel
theorem dL_law_644 : decode code 644 = .ok (.aload_n 1, 1) := by decide +kernel
theorem dL_law_645 : decode code 645 = .ok (.aload_n 0, 1) := by decide +kernel
theorem dL_law_646 : decode code 646 = .ok (.iload 4, 2) := by decide +kernel
theorem dL_law_648 : decode code 648 = .ok (.iconst 1, 1) := by decide +kernel
theorem dL_law_649 : decode code 649 = .ok (.iadd, 1) := by decide +kernel
theorem dL_law_650 : decode code 650 = .ok (.iaload, 1) := by decide +kernel
theorem dL_law_651 : decode code 651 = .ok (.aload_n 3, 1) := by decide +kernel
theorem dL_law_652 : decode code 652 = .ok (.invokestatic 164, 3) := by decide +kernel
theorem dL_law_655 : decode code 655 = .ok (.istore 5, 2) := by decide +kernel
theorem dL_law_657 : decode code 657 = .ok (.aload_n 2, 1) := by decide +kernel
theorem dL_law_658 : decode code 658 = .ok (.aload_n 0, 1) := by decide +kernel
theorem dL_law_659 : decode code 659 = .ok (.iload 4, 2) := by decide +kernel
theorem dL_law_661 : decode code 661 = .ok (.iconst 1, 1) := by decide +kernel
theorem dL_law_662 : decode code 662 = .ok (.iadd, 1) := by decide +kernel
theorem dL_law_663 : decode code 663 = .ok (.iaload, 1) := by decide +kernel
theorem dL_law_664 : decode code 664 = .ok (.invokevirtual 166, 3) := by decide +kernel
theorem dL_law_667 : decode code 667 = .ok (.istore 6, 2) := by decide +kernel
theorem dL_law_669 : decode code 669 = .ok (.aload_n 2, 1) := by decide +kernel
theorem dL_law_670 : decode code 670 = .ok (.invokevirtual 129, 3) := by decide +kernel
theorem dL_law_673 : decode code 673 = .ok (.iload 5, 2) := by decide +kernel
theorem dL_law_675 : decode code 675 = .ok (.if_icmp .eq 5, 3) := by decide +kernel
theorem dL_law_678 : decode code 678 = .ok (.iconst 0, 1) := by decide +kernel
theorem dL_law_679 : decode code 679 = .ok (.ireturn, 1) := by decide +kernel
theorem dL_law_680 : decode code 680 = .ok (.iload 5, 2) := by decide +kernel
theorem dL_law_682 : decode code 682 = .ok (.ifCond .ne 15, 3) := by decide +kernel
theorem dL_law_685 : decode code 685 = .ok (.aload_n 3, 1) := by decide +kernel
theorem dL_law_686 : decode code 686 = .ok (.iconst 0, 1) := by decide +kernel
theorem dL_law_687 : decode code 687 = .ok (.laload, 1) := by decide +kernel
theorem dL_law_688 : decode code 688 = .ok (.iload 6, 2) := by decide +kernel
theorem dL_law_690 : decode code 690 = .ok (.i2l, 1) := by decide +kernel
theorem dL_law_691 : decode code 691 = .ok (.lcmp, 1) := by decide +kernel
theorem dL_law_692 : decode code 692 = .ok (.ifCond .eq 5, 3) := by decide +kernel
theorem dL_law_695 : decode code 695 = .ok (.iconst 0, 1) := by decide +kernel
theorem dL_law_696 : decode code 696 = .ok (.ireturn, 1) := by decide +kernel
theorem dL_law_697 : decode code 697 = .ok (.goto 1711, 3) := by decide +kernel
theorem dL_law_700 : decode code 700 = .ok (.aload_n 1, 1) := by decide +kernel
theorem dL_law_701 : decode code 701 = .ok (.aload_n 0, 1) := by decide +kernel
theorem dL_law_702 : decode code 702 = .ok (.iload 4, 2) := by decide +kernel
theorem dL_law_704 : decode code 704 = .ok (.iconst 1, 1) := by decide +kernel
theorem dL_law_705 : decode code 705 = .ok (.iadd, 1) := by decide +kernel
theorem dL_law_706 : decode code 706 = .ok (.iaload, 1) := by decide +kernel
theorem dL_law_707 : decode code 707 = .ok (.aload_n 3, 1) := by decide +kernel
theorem dL_law_708 : decode code 708 = .ok (.invokestatic 167, 3) := by decide +kernel
theorem dL_law_711 : decode code 711 = .ok (.istore 5, 2) := by decide +kernel
theorem dL_law_713 : decode code 713 = .ok (.aload_n 2, 1) := by decide +kernel
theorem dL_law_714 : decode code 714 = .ok (.aload_n 0, 1) := by decide +kernel
theorem dL_law_715 : decode code 715 = .ok (.iload 4, 2) := by decide +kernel
theorem dL_law_717 : decode code 717 = .ok (.iconst 1, 1) := by decide +kernel
theorem dL_law_718 : decode code 718 = .ok (.iadd, 1) := by decide +kernel
theorem dL_law_719 : decode code 719 = .ok (.iaload, 1) := by decide +kernel
theorem dL_law_720 : decode code 720 = .ok (.invokevirtual 169, 3) := by decide +kernel
theorem dL_law_723 : decode code 723 = .ok (.istore 6, 2) := by decide +kernel
theorem dL_law_725 : decode code 725 = .ok (.aload_n 2, 1) := by decide +kernel
theorem dL_law_726 : decode code 726 = .ok (.invokevirtual 129, 3) := by decide +kernel
theorem dL_law_729 : decode code 729 = .ok (.iload 5, 2) := by decide +kernel
theorem dL_law_731 : decode code 731 = .ok (.if_icmp .eq 5, 3) := by decide +kernel
theorem dL_law_734 : decode code 734 = .ok (.iconst 0, 1) := by decide +kernel
theorem dL_law_735 : decode code 735 = .ok (.ireturn, 1) := by decide +kernel
theorem dL_law_736 : decode code 736 = .ok (.iload 5, 2) := by decide +kernel
theorem dL_law_738 : decode code 738 = .ok (.ifCond .ne 15, 3) := by decide +kernel
theorem dL_law_741 : decode code 741 = .ok (.aload_n 3, 1) := by decide +kernel
theorem dL_law_742 : decode code 742 = .ok (.iconst 0, 1) := by decide +kernel
theorem dL_law_743 : decode code 743 = .ok (.laload, 1) := by decide +kernel
theorem dL_law_744 : decode code 744 = .ok (.iload 6, 2) := by decide +kernel
theorem dL_law_746 : decode code 746 = .ok (.i2l, 1) := by decide +kernel
theorem dL_law_747 : decode code 747 = .ok (.lcmp, 1) := by decide +kernel
theorem dL_law_748 : decode code 748 = .ok (.ifCond .eq 5, 3) := by decide +kernel
theorem dL_law_751 : decode code 751 = .ok (.iconst 0, 1) := by decide +kernel
theorem dL_law_752 : decode code 752 = .ok (.ireturn, 1) := by decide +kernel
theorem dL_law_753 : decode code 753 = .ok (.goto 1655, 3) := by decide +kernel
theorem dL_law_756 : decode code 756 = .ok (.aload_n 1, 1) := by decide +kernel
theorem dL_law_757 : decode code 757 = .ok (.aload_n 0, 1) := by decide +kernel
theorem dL_law_758 : decode code 758 = .ok (.iload 4, 2) := by decide +kernel
theorem dL_law_760 : decode code 760 = .ok (.iconst 1, 1) := by decide +kernel
theorem dL_law_761 : decode code 761 = .ok (.iadd, 1) := by decide +kernel
theorem dL_law_762 : decode code 762 = .ok (.iaload, 1) := by decide +kernel
theorem dL_law_763 : decode code 763 = .ok (.aload_n 3, 1) := by decide +kernel
theorem dL_law_764 : decode code 764 = .ok (.invokestatic 170, 3) := by decide +kernel
theorem dL_law_767 : decode code 767 = .ok (.istore 5, 2) := by decide +kernel
theorem dL_law_769 : decode code 769 = .ok (.aload_n 2, 1) := by decide +kernel
theorem dL_law_770 : decode code 770 = .ok (.aload_n 0, 1) := by decide +kernel
theorem dL_law_771 : decode code 771 = .ok (.iload 4, 2) := by decide +kernel
theorem dL_law_773 : decode code 773 = .ok (.iconst 1, 1) := by decide +kernel
theorem dL_law_774 : decode code 774 = .ok (.iadd, 1) := by decide +kernel
theorem dL_law_775 : decode code 775 = .ok (.iaload, 1) := by decide +kernel
theorem dL_law_776 : decode code 776 = .ok (.invokevirtual 172, 3) := by decide +kernel
theorem dL_law_779 : decode code 779 = .ok (.istore 6, 2) := by decide +kernel
theorem dL_law_781 : decode code 781 = .ok (.aload_n 2, 1) := by decide +kernel
theorem dL_law_782 : decode code 782 = .ok (.invokevirtual 129, 3) := by decide +kernel
theorem dL_law_785 : decode code 785 = .ok (.iload 5, 2) := by decide +kernel
theorem dL_law_787 : decode code 787 = .ok (.if_icmp .eq 5, 3) := by decide +kernel
theorem dL_law_790 : decode code 790 = .ok (.iconst 0, 1) := by decide +kernel
theorem dL_law_791 : decode code 791 = .ok (.ireturn, 1) := by decide +kernel
theorem dL_law_792 : decode code 792 = .ok (.iload 5, 2) := by decide +kernel
theorem dL_law_794 : decode code 794 = .ok (.ifCond .ne 15, 3) := by decide +kernel
theorem dL_law_797 : decode code 797 = .ok (.aload_n 3, 1) := by decide +kernel
theorem dL_law_798 : decode code 798 = .ok (.iconst 0, 1) := by decide +kernel
theorem dL_law_799 : decode code 799 = .ok (.laload, 1) := by decide +kernel
theorem dL_law_800 : decode code 800 = .ok (.iload 6, 2) := by decide +kernel
theorem dL_law_802 : decode code 802 = .ok (.i2l, 1) := by decide +kernel
theorem dL_law_803 : decode code 803 = .ok (.lcmp, 1) := by decide +kernel
theorem dL_law_804 : decode code 804 = .ok (.ifCond .eq 5, 3) := by decide +kernel
theorem dL_law_807 : decode code 807 = .ok (.iconst 0, 1) := by decide +kernel
theorem dL_law_808 : decode code 808 = .ok (.ireturn, 1) := by decide +kernel
theorem dL_law_809 : decode code 809 = .ok (.goto 1599, 3) := by decide +kernel
theorem dL_law_812 : decode code 812 = .ok (.aload_n 1, 1) := by decide +kernel
theorem dL_law_813 : decode code 813 = .ok (.aload_n 0, 1) := by decide +kernel
theorem dL_law_814 : decode code 814 = .ok (.iload 4, 2) := by decide +kernel
theorem dL_law_816 : decode code 816 = .ok (.iconst 1, 1) := by decide +kernel
theorem dL_law_817 : decode code 817 = .ok (.iadd, 1) := by decide +kernel
theorem dL_law_818 : decode code 818 = .ok (.iaload, 1) := by decide +kernel
theorem dL_law_819 : decode code 819 = .ok (.aload_n 3, 1) := by decide +kernel
theorem dL_law_820 : decode code 820 = .ok (.invokestatic 173, 3) := by decide +kernel
theorem dL_law_823 : decode code 823 = .ok (.istore 5, 2) := by decide +kernel
theorem dL_law_825 : decode code 825 = .ok (.aload_n 2, 1) := by decide +kernel
theorem dL_law_826 : decode code 826 = .ok (.aload_n 0, 1) := by decide +kernel
theorem dL_law_827 : decode code 827 = .ok (.iload 4, 2) := by decide +kernel
theorem dL_law_829 : decode code 829 = .ok (.iconst 1, 1) := by decide +kernel
theorem dL_law_830 : decode code 830 = .ok (.iadd, 1) := by decide +kernel
theorem dL_law_831 : decode code 831 = .ok (.iaload, 1) := by decide +kernel
theorem dL_law_832 : decode code 832 = .ok (.invokevirtual 175, 3) := by decide +kernel
theorem dL_law_835 : decode code 835 = .ok (.istore 6, 2) := by decide +kernel
theorem dL_law_837 : decode code 837 = .ok (.aload_n 2, 1) := by decide +kernel
theorem dL_law_838 : decode code 838 = .ok (.invokevirtual 129, 3) := by decide +kernel
theorem dL_law_841 : decode code 841 = .ok (.iload 5, 2) := by decide +kernel
theorem dL_law_843 : decode code 843 = .ok (.if_icmp .eq 5, 3) := by decide +kernel
theorem dL_law_846 : decode code 846 = .ok (.iconst 0, 1) := by decide +kernel
theorem dL_law_847 : decode code 847 = .ok (.ireturn, 1) := by decide +kernel
theorem dL_law_848 : decode code 848 = .ok (.iload 5, 2) := by decide +kernel
theorem dL_law_850 : decode code 850 = .ok (.ifCond .ne 15, 3) := by decide +kernel
theorem dL_law_853 : decode code 853 = .ok (.aload_n 3, 1) := by decide +kernel
theorem dL_law_854 : decode code 854 = .ok (.iconst 0, 1) := by decide +kernel
theorem dL_law_855 : decode code 855 = .ok (.laload, 1) := by decide +kernel
theorem dL_law_856 : decode code 856 = .ok (.iload 6, 2) := by decide +kernel
theorem dL_law_858 : decode code 858 = .ok (.i2l, 1) := by decide +kernel
theorem dL_law_859 : decode code 859 = .ok (.lcmp, 1) := by decide +kernel
theorem dL_law_860 : decode code 860 = .ok (.ifCond .eq 5, 3) := by decide +kernel
theorem dL_law_863 : decode code 863 = .ok (.iconst 0, 1) := by decide +kernel
theorem dL_law_864 : decode code 864 = .ok (.ireturn, 1) := by decide +kernel
theorem dL_law_865 : decode code 865 = .ok (.goto 1543, 3) := by decide +kernel
theorem dL_law_868 : decode code 868 = .ok (.aload_n 1, 1) := by decide +kernel
theorem dL_law_869 : decode code 869 = .ok (.invokevirtual 176, 3) := by decide +kernel
theorem dL_law_872 : decode code 872 = .ok (.aload_n 2, 1) := by decide +kernel
theorem dL_law_873 : decode code 873 = .ok (.invokevirtual 179, 3) := by decide +kernel
theorem dL_law_876 : decode code 876 = .ok (.if_icmp .eq 1532, 3) := by decide +kernel
theorem dL_law_879 : decode code 879 = .ok (.iconst 0, 1) := by decide +kernel
theorem dL_law_880 : decode code 880 = .ok (.ireturn, 1) := by decide +kernel
theorem dL_law_881 : decode code 881 = .ok (.aload_n 1, 1) := by decide +kernel
theorem dL_law_882 : decode code 882 = .ok (.aload_n 3, 1) := by decide +kernel
theorem dL_law_883 : decode code 883 = .ok (.invokestatic 180, 3) := by decide +kernel
theorem dL_law_886 : decode code 886 = .ok (.istore 5, 2) := by decide +kernel
theorem dL_law_888 : decode code 888 = .ok (.aload_n 2, 1) := by decide +kernel
theorem dL_law_889 : decode code 889 = .ok (.invokevirtual 183, 3) := by decide +kernel
theorem dL_law_892 : decode code 892 = .ok (.istore 6, 2) := by decide +kernel
theorem dL_law_894 : decode code 894 = .ok (.aload_n 2, 1) := by decide +kernel
theorem dL_law_895 : decode code 895 = .ok (.invokevirtual 129, 3) := by decide +kernel
theorem dL_law_898 : decode code 898 = .ok (.iload 5, 2) := by decide +kernel
theorem dL_law_900 : decode code 900 = .ok (.if_icmp .eq 5, 3) := by decide +kernel
theorem dL_law_903 : decode code 903 = .ok (.iconst 0, 1) := by decide +kernel
theorem dL_law_904 : decode code 904 = .ok (.ireturn, 1) := by decide +kernel
theorem dL_law_905 : decode code 905 = .ok (.iload 5, 2) := by decide +kernel
theorem dL_law_907 : decode code 907 = .ok (.ifCond .ne 15, 3) := by decide +kernel
theorem dL_law_910 : decode code 910 = .ok (.aload_n 3, 1) := by decide +kernel
theorem dL_law_911 : decode code 911 = .ok (.iconst 0, 1) := by decide +kernel
theorem dL_law_912 : decode code 912 = .ok (.laload, 1) := by decide +kernel
theorem dL_law_913 : decode code 913 = .ok (.iload 6, 2) := by decide +kernel
theorem dL_law_915 : decode code 915 = .ok (.i2l, 1) := by decide +kernel
theorem dL_law_916 : decode code 916 = .ok (.lcmp, 1) := by decide +kernel
theorem dL_law_917 : decode code 917 = .ok (.ifCond .eq 5, 3) := by decide +kernel
theorem dL_law_920 : decode code 920 = .ok (.iconst 0, 1) := by decide +kernel
theorem dL_law_921 : decode code 921 = .ok (.ireturn, 1) := by decide +kernel
theorem dL_law_922 : decode code 922 = .ok (.goto 1486, 3) := by decide +kernel
theorem dL_law_925 : decode code 925 = .ok (.aload_n 1, 1) := by decide +kernel
theorem dL_law_926 : decode code 926 = .ok (.aload_n 0, 1) := by decide +kernel
theorem dL_law_927 : decode code 927 = .ok (.iload 4, 2) := by decide +kernel
theorem dL_law_929 : decode code 929 = .ok (.iconst 1, 1) := by decide +kernel
theorem dL_law_930 : decode code 930 = .ok (.iadd, 1) := by decide +kernel
theorem dL_law_931 : decode code 931 = .ok (.iaload, 1) := by decide +kernel
theorem dL_law_932 : decode code 932 = .ok (.aload_n 3, 1) := by decide +kernel
theorem dL_law_933 : decode code 933 = .ok (.invokestatic 184, 3) := by decide +kernel
theorem dL_law_936 : decode code 936 = .ok (.istore 5, 2) := by decide +kernel
theorem dL_law_938 : decode code 938 = .ok (.aload_n 2, 1) := by decide +kernel
theorem dL_law_939 : decode code 939 = .ok (.aload_n 0, 1) := by decide +kernel
theorem dL_law_940 : decode code 940 = .ok (.iload 4, 2) := by decide +kernel
theorem dL_law_942 : decode code 942 = .ok (.iconst 1, 1) := by decide +kernel
theorem dL_law_943 : decode code 943 = .ok (.iadd, 1) := by decide +kernel
theorem dL_law_944 : decode code 944 = .ok (.iaload, 1) := by decide +kernel
theorem dL_law_945 : decode code 945 = .ok (.invokevirtual 186, 3) := by decide +kernel
theorem dL_law_948 : decode code 948 = .ok (.istore 6, 2) := by decide +kernel
theorem dL_law_950 : decode code 950 = .ok (.aload_n 2, 1) := by decide +kernel
theorem dL_law_951 : decode code 951 = .ok (.invokevirtual 129, 3) := by decide +kernel
theorem dL_law_954 : decode code 954 = .ok (.iload 5, 2) := by decide +kernel
theorem dL_law_956 : decode code 956 = .ok (.if_icmp .eq 5, 3) := by decide +kernel
theorem dL_law_959 : decode code 959 = .ok (.iconst 0, 1) := by decide +kernel
theorem dL_law_960 : decode code 960 = .ok (.ireturn, 1) := by decide +kernel
theorem dL_law_961 : decode code 961 = .ok (.iload 5, 2) := by decide +kernel
theorem dL_law_963 : decode code 963 = .ok (.ifCond .ne 15, 3) := by decide +kernel
theorem dL_law_966 : decode code 966 = .ok (.aload_n 3, 1) := by decide +kernel
theorem dL_law_967 : decode code 967 = .ok (.iconst 0, 1) := by decide +kernel
theorem dL_law_968 : decode code 968 = .ok (.laload, 1) := by decide +kernel
theorem dL_law_969 : decode code 969 = .ok (.iload 6, 2) := by decide +kernel
theorem dL_law_971 : decode code 971 = .ok (.i2l, 1) := by decide +kernel
theorem dL_law_972 : decode code 972 = .ok (.lcmp, 1) := by decide +kernel
theorem dL_law_973 : decode code 973 = .ok (.ifCond .eq 5, 3) := by decide +kernel
theorem dL_law_976 : decode code 976 = .ok (.iconst 0, 1) := by decide +kernel
theorem dL_law_977 : decode code 977 = .ok (.ireturn, 1) := by decide +kernel
theorem dL_law_978 : decode code 978 = .ok (.goto 1430, 3) := by decide +kernel
theorem dL_law_981 : decode code 981 = .ok (.aload_n 1, 1) := by decide +kernel
theorem dL_law_982 : decode code 982 = .ok (.aload_n 0, 1) := by decide +kernel
theorem dL_law_983 : decode code 983 = .ok (.iload 4, 2) := by decide +kernel
theorem dL_law_985 : decode code 985 = .ok (.iconst 1, 1) := by decide +kernel
theorem dL_law_986 : decode code 986 = .ok (.iadd, 1) := by decide +kernel
theorem dL_law_987 : decode code 987 = .ok (.iaload, 1) := by decide +kernel
theorem dL_law_988 : decode code 988 = .ok (.aload_n 3, 1) := by decide +kernel
theorem dL_law_989 : decode code 989 = .ok (.invokestatic 187, 3) := by decide +kernel
theorem dL_law_992 : decode code 992 = .ok (.istore 5, 2) := by decide +kernel
theorem dL_law_994 : decode code 994 = .ok (.aload_n 2, 1) := by decide +kernel
theorem dL_law_995 : decode code 995 = .ok (.aload_n 0, 1) := by decide +kernel
theorem dL_law_996 : decode code 996 = .ok (.iload 4, 2) := by decide +kernel
theorem dL_law_998 : decode code 998 = .ok (.iconst 1, 1) := by decide +kernel
theorem dL_law_999 : decode code 999 = .ok (.iadd, 1) := by decide +kernel
theorem dL_law_1000 : decode code 1000 = .ok (.iaload, 1) := by decide +kernel
theorem dL_law_1001 : decode code 1001 = .ok (.invokevirtual 189, 3) := by decide +kernel
theorem dL_law_1004 : decode code 1004 = .ok (.istore 6, 2) := by decide +kernel
theorem dL_law_1006 : decode code 1006 = .ok (.aload_n 2, 1) := by decide +kernel
theorem dL_law_1007 : decode code 1007 = .ok (.invokevirtual 129, 3) := by decide +kernel
theorem dL_law_1010 : decode code 1010 = .ok (.iload 5, 2) := by decide +kernel
theorem dL_law_1012 : decode code 1012 = .ok (.if_icmp .eq 5, 3) := by decide +kernel
theorem dL_law_1015 : decode code 1015 = .ok (.iconst 0, 1) := by decide +kernel
theorem dL_law_1016 : decode code 1016 = .ok (.ireturn, 1) := by decide +kernel
theorem dL_law_1017 : decode code 1017 = .ok (.iload 5, 2) := by decide +kernel
theorem dL_law_1019 : decode code 1019 = .ok (.ifCond .ne 15, 3) := by decide +kernel
theorem dL_law_1022 : decode code 1022 = .ok (.aload_n 3, 1) := by decide +kernel
theorem dL_law_1023 : decode code 1023 = .ok (.iconst 0, 1) := by decide +kernel
theorem dL_law_1024 : decode code 1024 = .ok (.laload, 1) := by decide +kernel
theorem dL_law_1025 : decode code 1025 = .ok (.iload 6, 2) := by decide +kernel
theorem dL_law_1027 : decode code 1027 = .ok (.i2l, 1) := by decide +kernel
theorem dL_law_1028 : decode code 1028 = .ok (.lcmp, 1) := by decide +kernel
theorem dL_law_1029 : decode code 1029 = .ok (.ifCond .eq 5, 3) := by decide +kernel
theorem dL_law_1032 : decode code 1032 = .ok (.iconst 0, 1) := by decide +kernel
theorem dL_law_1033 : decode code 1033 = .ok (.ireturn, 1) := by decide +kernel
theorem dL_law_1034 : decode code 1034 = .ok (.goto 1374, 3) := by decide +kernel
theorem dL_law_1037 : decode code 1037 = .ok (.aload_n 1, 1) := by decide +kernel
theorem dL_law_1038 : decode code 1038 = .ok (.aload_n 0, 1) := by decide +kernel
theorem dL_law_1039 : decode code 1039 = .ok (.iload 4, 2) := by decide +kernel
theorem dL_law_1041 : decode code 1041 = .ok (.iconst 1, 1) := by decide +kernel
theorem dL_law_1042 : decode code 1042 = .ok (.iadd, 1) := by decide +kernel
theorem dL_law_1043 : decode code 1043 = .ok (.iaload, 1) := by decide +kernel
theorem dL_law_1044 : decode code 1044 = .ok (.aload_n 3, 1) := by decide +kernel
theorem dL_law_1045 : decode code 1045 = .ok (.invokestatic 190, 3) := by decide +kernel
theorem dL_law_1048 : decode code 1048 = .ok (.istore 5, 2) := by decide +kernel
theorem dL_law_1050 : decode code 1050 = .ok (.aload_n 2, 1) := by decide +kernel
theorem dL_law_1051 : decode code 1051 = .ok (.aload_n 0, 1) := by decide +kernel
theorem dL_law_1052 : decode code 1052 = .ok (.iload 4, 2) := by decide +kernel
theorem dL_law_1054 : decode code 1054 = .ok (.iconst 1, 1) := by decide +kernel
theorem dL_law_1055 : decode code 1055 = .ok (.iadd, 1) := by decide +kernel
theorem dL_law_1056 : decode code 1056 = .ok (.iaload, 1) := by decide +kernel
theorem dL_law_1057 : decode code 1057 = .ok (.invokevirtual 192, 3) := by decide +kernel
theorem dL_law_1060 : decode code 1060 = .ok (.istore 6, 2) := by decide +kernel
theorem dL_law_1062 : decode code 1062 = .ok (.aload_n 2, 1) := by decide +kernel
theorem dL_law_1063 : decode code 1063 = .ok (.invokevirtual 129, 3) := by decide +kernel
theorem dL_law_1066 : decode code 1066 = .ok (.iload 5, 2) := by decide +kernel
theorem dL_law_1068 : decode code 1068 = .ok (.if_icmp .eq 5, 3) := by decide +kernel
theorem dL_law_1071 : decode code 1071 = .ok (.iconst 0, 1) := by decide +kernel
theorem dL_law_1072 : decode code 1072 = .ok (.ireturn, 1) := by decide +kernel
theorem dL_law_1073 : decode code 1073 = .ok (.iload 5, 2) := by decide +kernel
theorem dL_law_1075 : decode code 1075 = .ok (.ifCond .ne 15, 3) := by decide +kernel
theorem dL_law_1078 : decode code 1078 = .ok (.aload_n 3, 1) := by decide +kernel
theorem dL_law_1079 : decode code 1079 = .ok (.iconst 0, 1) := by decide +kernel
theorem dL_law_1080 : decode code 1080 = .ok (.laload, 1) := by decide +kernel
theorem dL_law_1081 : decode code 1081 = .ok (.iload 6, 2) := by decide +kernel
theorem dL_law_1083 : decode code 1083 = .ok (.i2l, 1) := by decide +kernel
theorem dL_law_1084 : decode code 1084 = .ok (.lcmp, 1) := by decide +kernel
theorem dL_law_1085 : decode code 1085 = .ok (.ifCond .eq 5, 3) := by decide +kernel
theorem dL_law_1088 : decode code 1088 = .ok (.iconst 0, 1) := by decide +kernel
theorem dL_law_1089 : decode code 1089 = .ok (.ireturn, 1) := by decide +kernel
theorem dL_law_1090 : decode code 1090 = .ok (.goto 1318, 3) := by decide +kernel
theorem dL_law_1093 : decode code 1093 = .ok (.aload_n 1, 1) := by decide +kernel
theorem dL_law_1094 : decode code 1094 = .ok (.aload_n 0, 1) := by decide +kernel
theorem dL_law_1095 : decode code 1095 = .ok (.iload 4, 2) := by decide +kernel
theorem dL_law_1097 : decode code 1097 = .ok (.iconst 1, 1) := by decide +kernel
theorem dL_law_1098 : decode code 1098 = .ok (.iadd, 1) := by decide +kernel
theorem dL_law_1099 : decode code 1099 = .ok (.iaload, 1) := by decide +kernel
theorem dL_law_1100 : decode code 1100 = .ok (.aload_n 3, 1) := by decide +kernel
theorem dL_law_1101 : decode code 1101 = .ok (.invokestatic 193, 3) := by decide +kernel
theorem dL_law_1104 : decode code 1104 = .ok (.istore 5, 2) := by decide +kernel
theorem dL_law_1106 : decode code 1106 = .ok (.aload_n 2, 1) := by decide +kernel
theorem dL_law_1107 : decode code 1107 = .ok (.aload_n 0, 1) := by decide +kernel
theorem dL_law_1108 : decode code 1108 = .ok (.iload 4, 2) := by decide +kernel
theorem dL_law_1110 : decode code 1110 = .ok (.iconst 1, 1) := by decide +kernel
theorem dL_law_1111 : decode code 1111 = .ok (.iadd, 1) := by decide +kernel
theorem dL_law_1112 : decode code 1112 = .ok (.iaload, 1) := by decide +kernel
theorem dL_law_1113 : decode code 1113 = .ok (.invokevirtual 195, 3) := by decide +kernel
theorem dL_law_1116 : decode code 1116 = .ok (.istore 6, 2) := by decide +kernel
theorem dL_law_1118 : decode code 1118 = .ok (.aload_n 2, 1) := by decide +kernel
theorem dL_law_1119 : decode code 1119 = .ok (.invokevirtual 129, 3) := by decide +kernel
theorem dL_law_1122 : decode code 1122 = .ok (.iload 5, 2) := by decide +kernel
theorem dL_law_1124 : decode code 1124 = .ok (.if_icmp .eq 5, 3) := by decide +kernel
theorem dL_law_1127 : decode code 1127 = .ok (.iconst 0, 1) := by decide +kernel
theorem dL_law_1128 : decode code 1128 = .ok (.ireturn, 1) := by decide +kernel
theorem dL_law_1129 : decode code 1129 = .ok (.iload 5, 2) := by decide +kernel
theorem dL_law_1131 : decode code 1131 = .ok (.ifCond .ne 15, 3) := by decide +kernel
theorem dL_law_1134 : decode code 1134 = .ok (.aload_n 3, 1) := by decide +kernel
theorem dL_law_1135 : decode code 1135 = .ok (.iconst 0, 1) := by decide +kernel
theorem dL_law_1136 : decode code 1136 = .ok (.laload, 1) := by decide +kernel
theorem dL_law_1137 : decode code 1137 = .ok (.iload 6, 2) := by decide +kernel
theorem dL_law_1139 : decode code 1139 = .ok (.i2l, 1) := by decide +kernel
theorem dL_law_1140 : decode code 1140 = .ok (.lcmp, 1) := by decide +kernel
theorem dL_law_1141 : decode code 1141 = .ok (.ifCond .eq 5, 3) := by decide +kernel
theorem dL_law_1144 : decode code 1144 = .ok (.iconst 0, 1) := by decide +kernel
theorem dL_law_1145 : decode code 1145 = .ok (.ireturn, 1) := by decide +kernel
theorem dL_law_1146 : decode code 1146 = .ok (.goto 1262, 3) := by decide +kernel
theorem dL_law_1149 : decode code 1149 = .ok (.aload_n 1, 1) := by decide +kernel
theorem dL_law_1150 : decode code 1150 = .ok (.aload_n 0, 1) := by decide +kernel
theorem dL_law_1151 : decode code 1151 = .ok (.iload 4, 2) := by decide +kernel
theorem dL_law_1153 : decode code 1153 = .ok (.iconst 1, 1) := by decide +kernel
theorem dL_law_1154 : decode code 1154 = .ok (.iadd, 1) := by decide +kernel
theorem dL_law_1155 : decode code 1155 = .ok (.iaload, 1) := by decide +kernel
theorem dL_law_1156 : decode code 1156 = .ok (.aload_n 3, 1) := by decide +kernel
theorem dL_law_1157 : decode code 1157 = .ok (.invokestatic 196, 3) := by decide +kernel
theorem dL_law_1160 : decode code 1160 = .ok (.istore 5, 2) := by decide +kernel
theorem dL_law_1162 : decode code 1162 = .ok (.aload_n 2, 1) := by decide +kernel
theorem dL_law_1163 : decode code 1163 = .ok (.aload_n 0, 1) := by decide +kernel
theorem dL_law_1164 : decode code 1164 = .ok (.iload 4, 2) := by decide +kernel
theorem dL_law_1166 : decode code 1166 = .ok (.iconst 1, 1) := by decide +kernel
theorem dL_law_1167 : decode code 1167 = .ok (.iadd, 1) := by decide +kernel
theorem dL_law_1168 : decode code 1168 = .ok (.iaload, 1) := by decide +kernel
theorem dL_law_1169 : decode code 1169 = .ok (.invokevirtual 198, 3) := by decide +kernel
theorem dL_law_1172 : decode code 1172 = .ok (.istore 6, 2) := by decide +kernel
theorem dL_law_1174 : decode code 1174 = .ok (.aload_n 2, 1) := by decide +kernel
theorem dL_law_1175 : decode code 1175 = .ok (.invokevirtual 129, 3) := by decide +kernel
theorem dL_law_1178 : decode code 1178 = .ok (.iload 5, 2) := by decide +kernel
theorem dL_law_1180 : decode code 1180 = .ok (.if_icmp .eq 5, 3) := by decide +kernel
theorem dL_law_1183 : decode code 1183 = .ok (.iconst 0, 1) := by decide +kernel
theorem dL_law_1184 : decode code 1184 = .ok (.ireturn, 1) := by decide +kernel
theorem dL_law_1185 : decode code 1185 = .ok (.iload 5, 2) := by decide +kernel
theorem dL_law_1187 : decode code 1187 = .ok (.ifCond .ne 15, 3) := by decide +kernel
theorem dL_law_1190 : decode code 1190 = .ok (.aload_n 3, 1) := by decide +kernel
theorem dL_law_1191 : decode code 1191 = .ok (.iconst 0, 1) := by decide +kernel
theorem dL_law_1192 : decode code 1192 = .ok (.laload, 1) := by decide +kernel
theorem dL_law_1193 : decode code 1193 = .ok (.iload 6, 2) := by decide +kernel
theorem dL_law_1195 : decode code 1195 = .ok (.i2l, 1) := by decide +kernel
theorem dL_law_1196 : decode code 1196 = .ok (.lcmp, 1) := by decide +kernel
theorem dL_law_1197 : decode code 1197 = .ok (.ifCond .eq 5, 3) := by decide +kernel
theorem dL_law_1200 : decode code 1200 = .ok (.iconst 0, 1) := by decide +kernel
theorem dL_law_1201 : decode code 1201 = .ok (.ireturn, 1) := by decide +kernel
theorem dL_law_1202 : decode code 1202 = .ok (.goto 1206, 3) := by decide +kernel
theorem dL_law_1205 : decode code 1205 = .ok (.aload_n 1, 1) := by decide +kernel
theorem dL_law_1206 : decode code 1206 = .ok (.aload_n 0, 1) := by decide +kernel
theorem dL_law_1207 : decode code 1207 = .ok (.iload 4, 2) := by decide +kernel
theorem dL_law_1209 : decode code 1209 = .ok (.iconst 1, 1) := by decide +kernel
theorem dL_law_1210 : decode code 1210 = .ok (.iadd, 1) := by decide +kernel
theorem dL_law_1211 : decode code 1211 = .ok (.iaload, 1) := by decide +kernel
theorem dL_law_1212 : decode code 1212 = .ok (.aload_n 3, 1) := by decide +kernel
theorem dL_law_1213 : decode code 1213 = .ok (.invokestatic 199, 3) := by decide +kernel
theorem dL_law_1216 : decode code 1216 = .ok (.istore 5, 2) := by decide +kernel
theorem dL_law_1218 : decode code 1218 = .ok (.aload_n 2, 1) := by decide +kernel
theorem dL_law_1219 : decode code 1219 = .ok (.aload_n 0, 1) := by decide +kernel
theorem dL_law_1220 : decode code 1220 = .ok (.iload 4, 2) := by decide +kernel
theorem dL_law_1222 : decode code 1222 = .ok (.iconst 1, 1) := by decide +kernel
theorem dL_law_1223 : decode code 1223 = .ok (.iadd, 1) := by decide +kernel
theorem dL_law_1224 : decode code 1224 = .ok (.iaload, 1) := by decide +kernel
theorem dL_law_1225 : decode code 1225 = .ok (.invokevirtual 201, 3) := by decide +kernel
theorem dL_law_1228 : decode code 1228 = .ok (.istore 6, 2) := by decide +kernel
theorem dL_law_1230 : decode code 1230 = .ok (.aload_n 2, 1) := by decide +kernel
theorem dL_law_1231 : decode code 1231 = .ok (.invokevirtual 129, 3) := by decide +kernel
theorem dL_law_1234 : decode code 1234 = .ok (.iload 5, 2) := by decide +kernel
theorem dL_law_1236 : decode code 1236 = .ok (.if_icmp .eq 5, 3) := by decide +kernel
theorem dL_law_1239 : decode code 1239 = .ok (.iconst 0, 1) := by decide +kernel
theorem dL_law_1240 : decode code 1240 = .ok (.ireturn, 1) := by decide +kernel
theorem dL_law_1241 : decode code 1241 = .ok (.iload 5, 2) := by decide +kernel
theorem dL_law_1243 : decode code 1243 = .ok (.ifCond .ne 15, 3) := by decide +kernel
theorem dL_law_1246 : decode code 1246 = .ok (.aload_n 3, 1) := by decide +kernel
theorem dL_law_1247 : decode code 1247 = .ok (.iconst 0, 1) := by decide +kernel
theorem dL_law_1248 : decode code 1248 = .ok (.laload, 1) := by decide +kernel
theorem dL_law_1249 : decode code 1249 = .ok (.iload 6, 2) := by decide +kernel
theorem dL_law_1251 : decode code 1251 = .ok (.i2l, 1) := by decide +kernel
theorem dL_law_1252 : decode code 1252 = .ok (.lcmp, 1) := by decide +kernel
theorem dL_law_1253 : decode code 1253 = .ok (.ifCond .eq 5, 3) := by decide +kernel
theorem dL_law_1256 : decode code 1256 = .ok (.iconst 0, 1) := by decide +kernel
theorem dL_law_1257 : decode code 1257 = .ok (.ireturn, 1) := by decide +kernel
theorem dL_law_1258 : decode code 1258 = .ok (.goto 1150, 3) := by decide +kernel
theorem dL_law_1261 : decode code 1261 = .ok (.aload_n 1, 1) := by decide +kernel
theorem dL_law_1262 : decode code 1262 = .ok (.aload_n 3, 1) := by decide +kernel
theorem dL_law_1263 : decode code 1263 = .ok (.invokestatic 202, 3) := by decide +kernel
theorem dL_law_1266 : decode code 1266 = .ok (.istore 5, 2) := by decide +kernel
theorem dL_law_1268 : decode code 1268 = .ok (.aload_n 2, 1) := by decide +kernel
theorem dL_law_1269 : decode code 1269 = .ok (.invokevirtual 204, 3) := by decide +kernel
theorem dL_law_1272 : decode code 1272 = .ok (.istore 6, 2) := by decide +kernel
theorem dL_law_1274 : decode code 1274 = .ok (.aload_n 2, 1) := by decide +kernel
theorem dL_law_1275 : decode code 1275 = .ok (.invokevirtual 129, 3) := by decide +kernel
theorem dL_law_1278 : decode code 1278 = .ok (.iload 5, 2) := by decide +kernel
theorem dL_law_1280 : decode code 1280 = .ok (.if_icmp .eq 5, 3) := by decide +kernel
theorem dL_law_1283 : decode code 1283 = .ok (.iconst 0, 1) := by decide +kernel
theorem dL_law_1284 : decode code 1284 = .ok (.ireturn, 1) := by decide +kernel
theorem dL_law_1285 : decode code 1285 = .ok (.iload 5, 2) := by decide +kernel
theorem dL_law_1287 : decode code 1287 = .ok (.ifCond .ne 15, 3) := by decide +kernel
theorem dL_law_1290 : decode code 1290 = .ok (.aload_n 3, 1) := by decide +kernel
theorem dL_law_1291 : decode code 1291 = .ok (.iconst 0, 1) := by decide +kernel
theorem dL_law_1292 : decode code 1292 = .ok (.laload, 1) := by decide +kernel
theorem dL_law_1293 : decode code 1293 = .ok (.iload 6, 2) := by decide +kernel
theorem dL_law_1295 : decode code 1295 = .ok (.i2l, 1) := by decide +kernel
theorem dL_law_1296 : decode code 1296 = .ok (.lcmp, 1) := by decide +kernel
theorem dL_law_1297 : decode code 1297 = .ok (.ifCond .eq 5, 3) := by decide +kernel
theorem dL_law_1300 : decode code 1300 = .ok (.iconst 0, 1) := by decide +kernel
theorem dL_law_1301 : decode code 1301 = .ok (.ireturn, 1) := by decide +kernel
theorem dL_law_1302 : decode code 1302 = .ok (.goto 1106, 3) := by decide +kernel
theorem dL_law_1305 : decode code 1305 = .ok (.aload_n 1, 1) := by decide +kernel
theorem dL_law_1306 : decode code 1306 = .ok (.aload_n 0, 1) := by decide +kernel
theorem dL_law_1307 : decode code 1307 = .ok (.iload 4, 2) := by decide +kernel
theorem dL_law_1309 : decode code 1309 = .ok (.iconst 1, 1) := by decide +kernel
theorem dL_law_1310 : decode code 1310 = .ok (.iadd, 1) := by decide +kernel
theorem dL_law_1311 : decode code 1311 = .ok (.iaload, 1) := by decide +kernel
theorem dL_law_1312 : decode code 1312 = .ok (.aload_n 3, 1) := by decide +kernel
theorem dL_law_1313 : decode code 1313 = .ok (.invokestatic 205, 3) := by decide +kernel
theorem dL_law_1316 : decode code 1316 = .ok (.istore 5, 2) := by decide +kernel
theorem dL_law_1318 : decode code 1318 = .ok (.aload_n 2, 1) := by decide +kernel
theorem dL_law_1319 : decode code 1319 = .ok (.aload_n 0, 1) := by decide +kernel
theorem dL_law_1320 : decode code 1320 = .ok (.iload 4, 2) := by decide +kernel
theorem dL_law_1322 : decode code 1322 = .ok (.iconst 1, 1) := by decide +kernel
theorem dL_law_1323 : decode code 1323 = .ok (.iadd, 1) := by decide +kernel
theorem dL_law_1324 : decode code 1324 = .ok (.iaload, 1) := by decide +kernel
theorem dL_law_1325 : decode code 1325 = .ok (.invokevirtual 207, 3) := by decide +kernel
theorem dL_law_1328 : decode code 1328 = .ok (.istore 6, 2) := by decide +kernel
theorem dL_law_1330 : decode code 1330 = .ok (.aload_n 2, 1) := by decide +kernel
theorem dL_law_1331 : decode code 1331 = .ok (.invokevirtual 129, 3) := by decide +kernel
theorem dL_law_1334 : decode code 1334 = .ok (.iload 5, 2) := by decide +kernel
theorem dL_law_1336 : decode code 1336 = .ok (.if_icmp .eq 5, 3) := by decide +kernel
theorem dL_law_1339 : decode code 1339 = .ok (.iconst 0, 1) := by decide +kernel
theorem dL_law_1340 : decode code 1340 = .ok (.ireturn, 1) := by decide +kernel
theorem dL_law_1341 : decode code 1341 = .ok (.iload 5, 2) := by decide +kernel
theorem dL_law_1343 : decode code 1343 = .ok (.ifCond .ne 22, 3) := by decide +kernel
theorem dL_law_1346 : decode code 1346 = .ok (.aload_n 3, 1) := by decide +kernel
theorem dL_law_1347 : decode code 1347 = .ok (.iconst 0, 1) := by decide +kernel
theorem dL_law_1348 : decode code 1348 = .ok (.laload, 1) := by decide +kernel
theorem dL_law_1349 : decode code 1349 = .ok (.iload 6, 2) := by decide +kernel
theorem dL_law_1351 : decode code 1351 = .ok (.ifCond .eq 7, 3) := by decide +kernel
theorem dL_law_1354 : decode code 1354 = .ok (.lconst 1, 1) := by decide +kernel
theorem dL_law_1355 : decode code 1355 = .ok (.goto 4, 3) := by decide +kernel
theorem dL_law_1358 : decode code 1358 = .ok (.lconst 0, 1) := by decide +kernel
theorem dL_law_1359 : decode code 1359 = .ok (.lcmp, 1) := by decide +kernel
theorem dL_law_1360 : decode code 1360 = .ok (.ifCond .eq 5, 3) := by decide +kernel
theorem dL_law_1363 : decode code 1363 = .ok (.iconst 0, 1) := by decide +kernel
theorem dL_law_1364 : decode code 1364 = .ok (.ireturn, 1) := by decide +kernel
theorem dL_law_1365 : decode code 1365 = .ok (.goto 1043, 3) := by decide +kernel
theorem dL_law_1368 : decode code 1368 = .ok (.aload_n 1, 1) := by decide +kernel
theorem dL_law_1369 : decode code 1369 = .ok (.aload_n 0, 1) := by decide +kernel
theorem dL_law_1370 : decode code 1370 = .ok (.iload 4, 2) := by decide +kernel
theorem dL_law_1372 : decode code 1372 = .ok (.iconst 1, 1) := by decide +kernel
theorem dL_law_1373 : decode code 1373 = .ok (.iadd, 1) := by decide +kernel
theorem dL_law_1374 : decode code 1374 = .ok (.iaload, 1) := by decide +kernel
theorem dL_law_1375 : decode code 1375 = .ok (.aload_n 3, 1) := by decide +kernel
theorem dL_law_1376 : decode code 1376 = .ok (.invokestatic 208, 3) := by decide +kernel
theorem dL_law_1379 : decode code 1379 = .ok (.istore 5, 2) := by decide +kernel
theorem dL_law_1381 : decode code 1381 = .ok (.aload_n 2, 1) := by decide +kernel
theorem dL_law_1382 : decode code 1382 = .ok (.aload_n 0, 1) := by decide +kernel
theorem dL_law_1383 : decode code 1383 = .ok (.iload 4, 2) := by decide +kernel
theorem dL_law_1385 : decode code 1385 = .ok (.iconst 1, 1) := by decide +kernel
theorem dL_law_1386 : decode code 1386 = .ok (.iadd, 1) := by decide +kernel
theorem dL_law_1387 : decode code 1387 = .ok (.iaload, 1) := by decide +kernel
theorem dL_law_1388 : decode code 1388 = .ok (.invokevirtual 210, 3) := by decide +kernel
theorem dL_law_1391 : decode code 1391 = .ok (.istore 6, 2) := by decide +kernel
theorem dL_law_1393 : decode code 1393 = .ok (.aload_n 2, 1) := by decide +kernel
theorem dL_law_1394 : decode code 1394 = .ok (.invokevirtual 129, 3) := by decide +kernel
theorem dL_law_1397 : decode code 1397 = .ok (.iload 5, 2) := by decide +kernel
theorem dL_law_1399 : decode code 1399 = .ok (.if_icmp .eq 5, 3) := by decide +kernel
theorem dL_law_1402 : decode code 1402 = .ok (.iconst 0, 1) := by decide +kernel
theorem dL_law_1403 : decode code 1403 = .ok (.ireturn, 1) := by decide +kernel
theorem dL_law_1404 : decode code 1404 = .ok (.iload 5, 2) := by decide +kernel
theorem dL_law_1406 : decode code 1406 = .ok (.ifCond .ne 15, 3) := by decide +kernel
theorem dL_law_1409 : decode code 1409 = .ok (.aload_n 3, 1) := by decide +kernel
theorem dL_law_1410 : decode code 1410 = .ok (.iconst 0, 1) := by decide +kernel
theorem dL_law_1411 : decode code 1411 = .ok (.laload, 1) := by decide +kernel
theorem dL_law_1412 : decode code 1412 = .ok (.iload 6, 2) := by decide +kernel
theorem dL_law_1414 : decode code 1414 = .ok (.i2l, 1) := by decide +kernel
theorem dL_law_1415 : decode code 1415 = .ok (.lcmp, 1) := by decide +kernel
theorem dL_law_1416 : decode code 1416 = .ok (.ifCond .eq 5, 3) := by decide +kernel
theorem dL_law_1419 : decode code 1419 = .ok (.iconst 0, 1) := by decide +kernel
theorem dL_law_1420 : decode code 1420 = .ok (.ireturn, 1) := by decide +kernel
theorem dL_law_1421 : decode code 1421 = .ok (.goto 987, 3) := by decide +kernel
theorem dL_law_1424 : decode code 1424 = .ok (.aload_n 1, 1) := by decide +kernel
theorem dL_law_1425 : decode code 1425 = .ok (.aload_n 0, 1) := by decide +kernel
theorem dL_law_1426 : decode code 1426 = .ok (.iload 4, 2) := by decide +kernel
theorem dL_law_1428 : decode code 1428 = .ok (.iconst 1, 1) := by decide +kernel
theorem dL_law_1429 : decode code 1429 = .ok (.iadd, 1) := by decide +kernel
theorem dL_law_1430 : decode code 1430 = .ok (.iaload, 1) := by decide +kernel
theorem dL_law_1431 : decode code 1431 = .ok (.aload_n 0, 1) := by decide +kernel
theorem dL_law_1432 : decode code 1432 = .ok (.iload 4, 2) := by decide +kernel
theorem dL_law_1434 : decode code 1434 = .ok (.iconst 2, 1) := by decide +kernel
theorem dL_law_1435 : decode code 1435 = .ok (.iadd, 1) := by decide +kernel
theorem dL_law_1436 : decode code 1436 = .ok (.iaload, 1) := by decide +kernel
theorem dL_law_1437 : decode code 1437 = .ok (.aload_n 0, 1) := by decide +kernel
theorem dL_law_1438 : decode code 1438 = .ok (.iload 4, 2) := by decide +kernel
theorem dL_law_1440 : decode code 1440 = .ok (.iconst 3, 1) := by decide +kernel
theorem dL_law_1441 : decode code 1441 = .ok (.iadd, 1) := by decide +kernel
theorem dL_law_1442 : decode code 1442 = .ok (.iaload, 1) := by decide +kernel
theorem dL_law_1443 : decode code 1443 = .ok (.ifCond .eq 7, 3) := by decide +kernel
theorem dL_law_1446 : decode code 1446 = .ok (.iconst 1, 1) := by decide +kernel
theorem dL_law_1447 : decode code 1447 = .ok (.goto 4, 3) := by decide +kernel
theorem dL_law_1450 : decode code 1450 = .ok (.iconst 0, 1) := by decide +kernel
theorem dL_law_1451 : decode code 1451 = .ok (.aload_n 3, 1) := by decide +kernel
theorem dL_law_1452 : decode code 1452 = .ok (.invokestatic 211, 3) := by decide +kernel
theorem dL_law_1455 : decode code 1455 = .ok (.istore 5, 2) := by decide +kernel
theorem dL_law_1457 : decode code 1457 = .ok (.aload_n 2, 1) := by decide +kernel
theorem dL_law_1458 : decode code 1458 = .ok (.aload_n 0, 1) := by decide +kernel
theorem dL_law_1459 : decode code 1459 = .ok (.iload 4, 2) := by decide +kernel
theorem dL_law_1461 : decode code 1461 = .ok (.iconst 1, 1) := by decide +kernel
theorem dL_law_1462 : decode code 1462 = .ok (.iadd, 1) := by decide +kernel
theorem dL_law_1463 : decode code 1463 = .ok (.iaload, 1) := by decide +kernel
theorem dL_law_1464 : decode code 1464 = .ok (.aload_n 0, 1) := by decide +kernel
theorem dL_law_1465 : decode code 1465 = .ok (.iload 4, 2) := by decide +kernel
theorem dL_law_1467 : decode code 1467 = .ok (.iconst 2, 1) := by decide +kernel
theorem dL_law_1468 : decode code 1468 = .ok (.iadd, 1) := by decide +kernel
theorem dL_law_1469 : decode code 1469 = .ok (.iaload, 1) := by decide +kernel
theorem dL_law_1470 : decode code 1470 = .ok (.aload_n 0, 1) := by decide +kernel
theorem dL_law_1471 : decode code 1471 = .ok (.iload 4, 2) := by decide +kernel
theorem dL_law_1473 : decode code 1473 = .ok (.iconst 3, 1) := by decide +kernel
theorem dL_law_1474 : decode code 1474 = .ok (.iadd, 1) := by decide +kernel
theorem dL_law_1475 : decode code 1475 = .ok (.iaload, 1) := by decide +kernel
theorem dL_law_1476 : decode code 1476 = .ok (.ifCond .eq 7, 3) := by decide +kernel
theorem dL_law_1479 : decode code 1479 = .ok (.iconst 1, 1) := by decide +kernel
theorem dL_law_1480 : decode code 1480 = .ok (.goto 4, 3) := by decide +kernel
theorem dL_law_1483 : decode code 1483 = .ok (.iconst 0, 1) := by decide +kernel
theorem dL_law_1484 : decode code 1484 = .ok (.invokevirtual 214, 3) := by decide +kernel
theorem dL_law_1487 : decode code 1487 = .ok (.istore 6, 2) := by decide +kernel
theorem dL_law_1489 : decode code 1489 = .ok (.aload_n 2, 1) := by decide +kernel
theorem dL_law_1490 : decode code 1490 = .ok (.invokevirtual 129, 3) := by decide +kernel
theorem dL_law_1493 : decode code 1493 = .ok (.iload 5, 2) := by decide +kernel
theorem dL_law_1495 : decode code 1495 = .ok (.if_icmp .eq 5, 3) := by decide +kernel
theorem dL_law_1498 : decode code 1498 = .ok (.iconst 0, 1) := by decide +kernel
theorem dL_law_1499 : decode code 1499 = .ok (.ireturn, 1) := by decide +kernel
theorem dL_law_1500 : decode code 1500 = .ok (.iload 5, 2) := by decide +kernel
theorem dL_law_1502 : decode code 1502 = .ok (.ifCond .ne 15, 3) := by decide +kernel
theorem dL_law_1505 : decode code 1505 = .ok (.aload_n 3, 1) := by decide +kernel
theorem dL_law_1506 : decode code 1506 = .ok (.iconst 0, 1) := by decide +kernel
theorem dL_law_1507 : decode code 1507 = .ok (.laload, 1) := by decide +kernel
theorem dL_law_1508 : decode code 1508 = .ok (.iload 6, 2) := by decide +kernel
theorem dL_law_1510 : decode code 1510 = .ok (.i2l, 1) := by decide +kernel
theorem dL_law_1511 : decode code 1511 = .ok (.lcmp, 1) := by decide +kernel
theorem dL_law_1512 : decode code 1512 = .ok (.ifCond .eq 5, 3) := by decide +kernel
theorem dL_law_1515 : decode code 1515 = .ok (.iconst 0, 1) := by decide +kernel
theorem dL_law_1516 : decode code 1516 = .ok (.ireturn, 1) := by decide +kernel
theorem dL_law_1517 : decode code 1517 = .ok (.goto 891, 3) := by decide +kernel
theorem dL_law_1520 : decode code 1520 = .ok (.aload_n 1, 1) := by decide +kernel
theorem dL_law_1521 : decode code 1521 = .ok (.aload_n 0, 1) := by decide +kernel
theorem dL_law_1522 : decode code 1522 = .ok (.iload 4, 2) := by decide +kernel
theorem dL_law_1524 : decode code 1524 = .ok (.iconst 1, 1) := by decide +kernel
theorem dL_law_1525 : decode code 1525 = .ok (.iadd, 1) := by decide +kernel
theorem dL_law_1526 : decode code 1526 = .ok (.iaload, 1) := by decide +kernel
theorem dL_law_1527 : decode code 1527 = .ok (.aload_n 3, 1) := by decide +kernel
theorem dL_law_1528 : decode code 1528 = .ok (.invokestatic 215, 3) := by decide +kernel
theorem dL_law_1531 : decode code 1531 = .ok (.istore 5, 2) := by decide +kernel
theorem dL_law_1533 : decode code 1533 = .ok (.aload_n 2, 1) := by decide +kernel
theorem dL_law_1534 : decode code 1534 = .ok (.aload_n 0, 1) := by decide +kernel
theorem dL_law_1535 : decode code 1535 = .ok (.iload 4, 2) := by decide +kernel
theorem dL_law_1537 : decode code 1537 = .ok (.iconst 1, 1) := by decide +kernel
theorem dL_law_1538 : decode code 1538 = .ok (.iadd, 1) := by decide +kernel
theorem dL_law_1539 : decode code 1539 = .ok (.iaload, 1) := by decide +kernel
theorem dL_law_1540 : decode code 1540 = .ok (.invokevirtual 217, 3) := by decide +kernel
theorem dL_law_1543 : decode code 1543 = .ok (.istore 6, 2) := by decide +kernel
theorem dL_law_1545 : decode code 1545 = .ok (.aload_n 2, 1) := by decide +kernel
theorem dL_law_1546 : decode code 1546 = .ok (.invokevirtual 129, 3) := by decide +kernel
theorem dL_law_1549 : decode code 1549 = .ok (.iload 5, 2) := by decide +kernel
theorem dL_law_1551 : decode code 1551 = .ok (.if_icmp .eq 5, 3) := by decide +kernel
theorem dL_law_1554 : decode code 1554 = .ok (.iconst 0, 1) := by decide +kernel
theorem dL_law_1555 : decode code 1555 = .ok (.ireturn, 1) := by decide +kernel
theorem dL_law_1556 : decode code 1556 = .ok (.iload 5, 2) := by decide +kernel
theorem dL_law_1558 : decode code 1558 = .ok (.ifCond .ne 15, 3) := by decide +kernel
theorem dL_law_1561 : decode code 1561 = .ok (.aload_n 3, 1) := by decide +kernel
theorem dL_law_1562 : decode code 1562 = .ok (.iconst 0, 1) := by decide +kernel
theorem dL_law_1563 : decode code 1563 = .ok (.laload, 1) := by decide +kernel
theorem dL_law_1564 : decode code 1564 = .ok (.iload 6, 2) := by decide +kernel
theorem dL_law_1566 : decode code 1566 = .ok (.i2l, 1) := by decide +kernel
theorem dL_law_1567 : decode code 1567 = .ok (.lcmp, 1) := by decide +kernel
theorem dL_law_1568 : decode code 1568 = .ok (.ifCond .eq 5, 3) := by decide +kernel
theorem dL_law_1571 : decode code 1571 = .ok (.iconst 0, 1) := by decide +kernel
theorem dL_law_1572 : decode code 1572 = .ok (.ireturn, 1) := by decide +kernel
theorem dL_law_1573 : decode code 1573 = .ok (.goto 835, 3) := by decide +kernel
theorem dL_law_1576 : decode code 1576 = .ok (.aload_n 1, 1) := by decide +kernel
theorem dL_law_1577 : decode code 1577 = .ok (.aload_n 0, 1) := by decide +kernel
theorem dL_law_1578 : decode code 1578 = .ok (.iload 4, 2) := by decide +kernel
theorem dL_law_1580 : decode code 1580 = .ok (.iconst 1, 1) := by decide +kernel
theorem dL_law_1581 : decode code 1581 = .ok (.iadd, 1) := by decide +kernel
theorem dL_law_1582 : decode code 1582 = .ok (.iaload, 1) := by decide +kernel
theorem dL_law_1583 : decode code 1583 = .ok (.aload_n 3, 1) := by decide +kernel
theorem dL_law_1584 : decode code 1584 = .ok (.invokestatic 218, 3) := by decide +kernel
theorem dL_law_1587 : decode code 1587 = .ok (.istore 5, 2) := by decide +kernel
theorem dL_law_1589 : decode code 1589 = .ok (.aload_n 2, 1) := by decide +kernel
theorem dL_law_1590 : decode code 1590 = .ok (.aload_n 0, 1) := by decide +kernel
theorem dL_law_1591 : decode code 1591 = .ok (.iload 4, 2) := by decide +kernel
theorem dL_law_1593 : decode code 1593 = .ok (.iconst 1, 1) := by decide +kernel
theorem dL_law_1594 : decode code 1594 = .ok (.iadd, 1) := by decide +kernel
theorem dL_law_1595 : decode code 1595 = .ok (.iaload, 1) := by decide +kernel
theorem dL_law_1596 : decode code 1596 = .ok (.invokevirtual 220, 3) := by decide +kernel
theorem dL_law_1599 : decode code 1599 = .ok (.istore 6, 2) := by decide +kernel
theorem dL_law_1601 : decode code 1601 = .ok (.aload_n 2, 1) := by decide +kernel
theorem dL_law_1602 : decode code 1602 = .ok (.invokevirtual 129, 3) := by decide +kernel
theorem dL_law_1605 : decode code 1605 = .ok (.iload 5, 2) := by decide +kernel
theorem dL_law_1607 : decode code 1607 = .ok (.if_icmp .eq 5, 3) := by decide +kernel
theorem dL_law_1610 : decode code 1610 = .ok (.iconst 0, 1) := by decide +kernel
theorem dL_law_1611 : decode code 1611 = .ok (.ireturn, 1) := by decide +kernel
theorem dL_law_1612 : decode code 1612 = .ok (.iload 5, 2) := by decide +kernel
theorem dL_law_1614 : decode code 1614 = .ok (.ifCond .ne 15, 3) := by decide +kernel
theorem dL_law_1617 : decode code 1617 = .ok (.aload_n 3, 1) := by decide +kernel
theorem dL_law_1618 : decode code 1618 = .ok (.iconst 0, 1) := by decide +kernel
theorem dL_law_1619 : decode code 1619 = .ok (.laload, 1) := by decide +kernel
theorem dL_law_1620 : decode code 1620 = .ok (.iload 6, 2) := by decide +kernel
theorem dL_law_1622 : decode code 1622 = .ok (.i2l, 1) := by decide +kernel
theorem dL_law_1623 : decode code 1623 = .ok (.lcmp, 1) := by decide +kernel
theorem dL_law_1624 : decode code 1624 = .ok (.ifCond .eq 5, 3) := by decide +kernel
theorem dL_law_1627 : decode code 1627 = .ok (.iconst 0, 1) := by decide +kernel
theorem dL_law_1628 : decode code 1628 = .ok (.ireturn, 1) := by decide +kernel
theorem dL_law_1629 : decode code 1629 = .ok (.goto 779, 3) := by decide +kernel
theorem dL_law_1632 : decode code 1632 = .ok (.aload_n 1, 1) := by decide +kernel
theorem dL_law_1633 : decode code 1633 = .ok (.aload_n 0, 1) := by decide +kernel
theorem dL_law_1634 : decode code 1634 = .ok (.iload 4, 2) := by decide +kernel
theorem dL_law_1636 : decode code 1636 = .ok (.iconst 1, 1) := by decide +kernel
theorem dL_law_1637 : decode code 1637 = .ok (.iadd, 1) := by decide +kernel
theorem dL_law_1638 : decode code 1638 = .ok (.iaload, 1) := by decide +kernel
theorem dL_law_1639 : decode code 1639 = .ok (.aload_n 0, 1) := by decide +kernel
theorem dL_law_1640 : decode code 1640 = .ok (.iload 4, 2) := by decide +kernel
theorem dL_law_1642 : decode code 1642 = .ok (.iconst 2, 1) := by decide +kernel
theorem dL_law_1643 : decode code 1643 = .ok (.iadd, 1) := by decide +kernel
theorem dL_law_1644 : decode code 1644 = .ok (.iaload, 1) := by decide +kernel
theorem dL_law_1645 : decode code 1645 = .ok (.ifCond .eq 7, 3) := by decide +kernel
theorem dL_law_1648 : decode code 1648 = .ok (.iconst 1, 1) := by decide +kernel
theorem dL_law_1649 : decode code 1649 = .ok (.goto 4, 3) := by decide +kernel
theorem dL_law_1652 : decode code 1652 = .ok (.iconst 0, 1) := by decide +kernel
theorem dL_law_1653 : decode code 1653 = .ok (.aload_n 3, 1) := by decide +kernel
theorem dL_law_1654 : decode code 1654 = .ok (.invokestatic 221, 3) := by decide +kernel
theorem dL_law_1657 : decode code 1657 = .ok (.istore 5, 2) := by decide +kernel
theorem dL_law_1659 : decode code 1659 = .ok (.aload_n 2, 1) := by decide +kernel
theorem dL_law_1660 : decode code 1660 = .ok (.aload_n 0, 1) := by decide +kernel
theorem dL_law_1661 : decode code 1661 = .ok (.iload 4, 2) := by decide +kernel
theorem dL_law_1663 : decode code 1663 = .ok (.iconst 1, 1) := by decide +kernel
theorem dL_law_1664 : decode code 1664 = .ok (.iadd, 1) := by decide +kernel
theorem dL_law_1665 : decode code 1665 = .ok (.iaload, 1) := by decide +kernel
theorem dL_law_1666 : decode code 1666 = .ok (.aload_n 0, 1) := by decide +kernel
theorem dL_law_1667 : decode code 1667 = .ok (.iload 4, 2) := by decide +kernel
theorem dL_law_1669 : decode code 1669 = .ok (.iconst 2, 1) := by decide +kernel
theorem dL_law_1670 : decode code 1670 = .ok (.iadd, 1) := by decide +kernel
theorem dL_law_1671 : decode code 1671 = .ok (.iaload, 1) := by decide +kernel
theorem dL_law_1672 : decode code 1672 = .ok (.ifCond .eq 7, 3) := by decide +kernel
theorem dL_law_1675 : decode code 1675 = .ok (.iconst 1, 1) := by decide +kernel
theorem dL_law_1676 : decode code 1676 = .ok (.goto 4, 3) := by decide +kernel
theorem dL_law_1679 : decode code 1679 = .ok (.iconst 0, 1) := by decide +kernel
theorem dL_law_1680 : decode code 1680 = .ok (.invokevirtual 223, 3) := by decide +kernel
theorem dL_law_1683 : decode code 1683 = .ok (.istore 6, 2) := by decide +kernel
theorem dL_law_1685 : decode code 1685 = .ok (.aload_n 2, 1) := by decide +kernel
theorem dL_law_1686 : decode code 1686 = .ok (.invokevirtual 129, 3) := by decide +kernel
theorem dL_law_1689 : decode code 1689 = .ok (.iload 5, 2) := by decide +kernel
theorem dL_law_1691 : decode code 1691 = .ok (.if_icmp .eq 5, 3) := by decide +kernel
theorem dL_law_1694 : decode code 1694 = .ok (.iconst 0, 1) := by decide +kernel
theorem dL_law_1695 : decode code 1695 = .ok (.ireturn, 1) := by decide +kernel
theorem dL_law_1696 : decode code 1696 = .ok (.iload 5, 2) := by decide +kernel
theorem dL_law_1698 : decode code 1698 = .ok (.ifCond .ne 15, 3) := by decide +kernel
theorem dL_law_1701 : decode code 1701 = .ok (.aload_n 3, 1) := by decide +kernel
theorem dL_law_1702 : decode code 1702 = .ok (.iconst 0, 1) := by decide +kernel
theorem dL_law_1703 : decode code 1703 = .ok (.laload, 1) := by decide +kernel
theorem dL_law_1704 : decode code 1704 = .ok (.iload 6, 2) := by decide +kernel
theorem dL_law_1706 : decode code 1706 = .ok (.i2l, 1) := by decide +kernel
theorem dL_law_1707 : decode code 1707 = .ok (.lcmp, 1) := by decide +kernel
theorem dL_law_1708 : decode code 1708 = .ok (.ifCond .eq 5, 3) := by decide +kernel
theorem dL_law_1711 : decode code 1711 = .ok (.iconst 0, 1) := by decide +kernel
theorem dL_law_1712 : decode code 1712 = .ok (.ireturn, 1) := by decide +kernel
theorem dL_law_1713 : decode code 1713 = .ok (.goto 695, 3) := by decide +kernel
theorem dL_law_1716 : decode code 1716 = .ok (.aload_n 1, 1) := by decide +kernel
theorem dL_law_1717 : decode code 1717 = .ok (.aload_n 0, 1) := by decide +kernel
theorem dL_law_1718 : decode code 1718 = .ok (.iload 4, 2) := by decide +kernel
theorem dL_law_1720 : decode code 1720 = .ok (.iconst 1, 1) := by decide +kernel
theorem dL_law_1721 : decode code 1721 = .ok (.iadd, 1) := by decide +kernel
theorem dL_law_1722 : decode code 1722 = .ok (.iaload, 1) := by decide +kernel
theorem dL_law_1723 : decode code 1723 = .ok (.aload_n 0, 1) := by decide +kernel
theorem dL_law_1724 : decode code 1724 = .ok (.iload 4, 2) := by decide +kernel
theorem dL_law_1726 : decode code 1726 = .ok (.iconst 2, 1) := by decide +kernel
theorem dL_law_1727 : decode code 1727 = .ok (.iadd, 1) := by decide +kernel
theorem dL_law_1728 : decode code 1728 = .ok (.iaload, 1) := by decide +kernel
theorem dL_law_1729 : decode code 1729 = .ok (.ifCond .eq 7, 3) := by decide +kernel
theorem dL_law_1732 : decode code 1732 = .ok (.iconst 1, 1) := by decide +kernel
theorem dL_law_1733 : decode code 1733 = .ok (.goto 4, 3) := by decide +kernel
theorem dL_law_1736 : decode code 1736 = .ok (.iconst 0, 1) := by decide +kernel
theorem dL_law_1737 : decode code 1737 = .ok (.aload_n 3, 1) := by decide +kernel
theorem dL_law_1738 : decode code 1738 = .ok (.invokestatic 224, 3) := by decide +kernel
theorem dL_law_1741 : decode code 1741 = .ok (.istore 5, 2) := by decide +kernel
theorem dL_law_1743 : decode code 1743 = .ok (.aload_n 2, 1) := by decide +kernel
theorem dL_law_1744 : decode code 1744 = .ok (.aload_n 0, 1) := by decide +kernel
theorem dL_law_1745 : decode code 1745 = .ok (.iload 4, 2) := by decide +kernel
theorem dL_law_1747 : decode code 1747 = .ok (.iconst 1, 1) := by decide +kernel
theorem dL_law_1748 : decode code 1748 = .ok (.iadd, 1) := by decide +kernel
theorem dL_law_1749 : decode code 1749 = .ok (.iaload, 1) := by decide +kernel
theorem dL_law_1750 : decode code 1750 = .ok (.aload_n 0, 1) := by decide +kernel
theorem dL_law_1751 : decode code 1751 = .ok (.iload 4, 2) := by decide +kernel
theorem dL_law_1753 : decode code 1753 = .ok (.iconst 2, 1) := by decide +kernel
theorem dL_law_1754 : decode code 1754 = .ok (.iadd, 1) := by decide +kernel
theorem dL_law_1755 : decode code 1755 = .ok (.iaload, 1) := by decide +kernel
theorem dL_law_1756 : decode code 1756 = .ok (.ifCond .eq 7, 3) := by decide +kernel
theorem dL_law_1759 : decode code 1759 = .ok (.iconst 1, 1) := by decide +kernel
theorem dL_law_1760 : decode code 1760 = .ok (.goto 4, 3) := by decide +kernel
theorem dL_law_1763 : decode code 1763 = .ok (.iconst 0, 1) := by decide +kernel
theorem dL_law_1764 : decode code 1764 = .ok (.invokevirtual 226, 3) := by decide +kernel
theorem dL_law_1767 : decode code 1767 = .ok (.istore 6, 2) := by decide +kernel
theorem dL_law_1769 : decode code 1769 = .ok (.aload_n 2, 1) := by decide +kernel
theorem dL_law_1770 : decode code 1770 = .ok (.invokevirtual 129, 3) := by decide +kernel
theorem dL_law_1773 : decode code 1773 = .ok (.iload 5, 2) := by decide +kernel
theorem dL_law_1775 : decode code 1775 = .ok (.if_icmp .eq 5, 3) := by decide +kernel
theorem dL_law_1778 : decode code 1778 = .ok (.iconst 0, 1) := by decide +kernel
theorem dL_law_1779 : decode code 1779 = .ok (.ireturn, 1) := by decide +kernel
theorem dL_law_1780 : decode code 1780 = .ok (.iload 5, 2) := by decide +kernel
theorem dL_law_1782 : decode code 1782 = .ok (.ifCond .ne 15, 3) := by decide +kernel
theorem dL_law_1785 : decode code 1785 = .ok (.aload_n 3, 1) := by decide +kernel
theorem dL_law_1786 : decode code 1786 = .ok (.iconst 0, 1) := by decide +kernel
theorem dL_law_1787 : decode code 1787 = .ok (.laload, 1) := by decide +kernel
theorem dL_law_1788 : decode code 1788 = .ok (.iload 6, 2) := by decide +kernel
theorem dL_law_1790 : decode code 1790 = .ok (.i2l, 1) := by decide +kernel
theorem dL_law_1791 : decode code 1791 = .ok (.lcmp, 1) := by decide +kernel
theorem dL_law_1792 : decode code 1792 = .ok (.ifCond .eq 5, 3) := by decide +kernel
theorem dL_law_1795 : decode code 1795 = .ok (.iconst 0, 1) := by decide +kernel
theorem dL_law_1796 : decode code 1796 = .ok (.ireturn, 1) := by decide +kernel
theorem dL_law_1797 : decode code 1797 = .ok (.goto 611, 3) := by decide +kernel
theorem dL_law_1800 : decode code 1800 = .ok (.aload_n 1, 1) := by decide +kernel
theorem dL_law_1801 : decode code 1801 = .ok (.aload_n 0, 1) := by decide +kernel
theorem dL_law_1802 : decode code 1802 = .ok (.iload 4, 2) := by decide +kernel
theorem dL_law_1804 : decode code 1804 = .ok (.iconst 1, 1) := by decide +kernel
theorem dL_law_1805 : decode code 1805 = .ok (.iadd, 1) := by decide +kernel
theorem dL_law_1806 : decode code 1806 = .ok (.iaload, 1) := by decide +kernel
theorem dL_law_1807 : decode code 1807 = .ok (.aload_n 3, 1) := by decide +kernel
theorem dL_law_1808 : decode code 1808 = .ok (.invokestatic 227, 3) := by decide +kernel
theorem dL_law_1811 : decode code 1811 = .ok (.istore 5, 2) := by decide +kernel
theorem dL_law_1813 : decode code 1813 = .ok (.aload_n 2, 1) := by decide +kernel
theorem dL_law_1814 : decode code 1814 = .ok (.aload_n 0, 1) := by decide +kernel
theorem dL_law_1815 : decode code 1815 = .ok (.iload 4, 2) := by decide +kernel
theorem dL_law_1817 : decode code 1817 = .ok (.iconst 1, 1) := by decide +kernel
theorem dL_law_1818 : decode code 1818 = .ok (.iadd, 1) := by decide +kernel
theorem dL_law_1819 : decode code 1819 = .ok (.iaload, 1) := by decide +kernel
theorem dL_law_1820 : decode code 1820 = .ok (.invokevirtual 229, 3) := by decide +kernel
theorem dL_law_1823 : decode code 1823 = .ok (.istore 6, 2) := by decide +kernel
theorem dL_law_1825 : decode code 1825 = .ok (.aload_n 2, 1) := by decide +kernel
theorem dL_law_1826 : decode code 1826 = .ok (.invokevirtual 129, 3) := by decide +kernel
theorem dL_law_1829 : decode code 1829 = .ok (.iload 5, 2) := by decide +kernel
theorem dL_law_1831 : decode code 1831 = .ok (.if_icmp .eq 5, 3) := by decide +kernel
theorem dL_law_1834 : decode code 1834 = .ok (.iconst 0, 1) := by decide +kernel
theorem dL_law_1835 : decode code 1835 = .ok (.ireturn, 1) := by decide +kernel
theorem dL_law_1836 : decode code 1836 = .ok (.iload 5, 2) := by decide +kernel
theorem dL_law_1838 : decode code 1838 = .ok (.ifCond .ne 22, 3) := by decide +kernel
theorem dL_law_1841 : decode code 1841 = .ok (.aload_n 3, 1) := by decide +kernel
theorem dL_law_1842 : decode code 1842 = .ok (.iconst 0, 1) := by decide +kernel
theorem dL_law_1843 : decode code 1843 = .ok (.laload, 1) := by decide +kernel
theorem dL_law_1844 : decode code 1844 = .ok (.iload 6, 2) := by decide +kernel
theorem dL_law_1846 : decode code 1846 = .ok (.ifCond .eq 7, 3) := by decide +kernel
theorem dL_law_1849 : decode code 1849 = .ok (.lconst 1, 1) := by decide +kernel
theorem dL_law_1850 : decode code 1850 = .ok (.goto 4, 3) := by decide +kernel
theorem dL_law_1853 : decode code 1853 = .ok (.lconst 0, 1) := by decide +kernel
theorem dL_law_1854 : decode code 1854 = .ok (.lcmp, 1) := by decide +kernel
theorem dL_law_1855 : decode code 1855 = .ok (.ifCond .eq 5, 3) := by decide +kernel
theorem dL_law_1858 : decode code 1858 = .ok (.iconst 0, 1) := by decide +kernel
theorem dL_law_1859 : decode code 1859 = .ok (.ireturn, 1) := by decide +kernel
theorem dL_law_1860 : decode code 1860 = .ok (.goto 548, 3) := by decide +kernel
theorem dL_law_1863 : decode code 1863 = .ok (.aload_n 1, 1) := by decide +kernel
theorem dL_law_1864 : decode code 1864 = .ok (.aload_n 0, 1) := by decide +kernel
theorem dL_law_1865 : decode code 1865 = .ok (.iload 4, 2) := by decide +kernel
theorem dL_law_1867 : decode code 1867 = .ok (.iconst 1, 1) := by decide +kernel
theorem dL_law_1868 : decode code 1868 = .ok (.iadd, 1) := by decide +kernel
theorem dL_law_1869 : decode code 1869 = .ok (.iaload, 1) := by decide +kernel
theorem dL_law_1870 : decode code 1870 = .ok (.aload_n 3, 1) := by decide +kernel
theorem dL_law_1871 : decode code 1871 = .ok (.invokestatic 230, 3) := by decide +kernel
theorem dL_law_1874 : decode code 1874 = .ok (.istore 5, 2) := by decide +kernel
theorem dL_law_1876 : decode code 1876 = .ok (.aload_n 2, 1) := by decide +kernel
theorem dL_law_1877 : decode code 1877 = .ok (.aload_n 0, 1) := by decide +kernel
theorem dL_law_1878 : decode code 1878 = .ok (.iload 4, 2) := by decide +kernel
theorem dL_law_1880 : decode code 1880 = .ok (.iconst 1, 1) := by decide +kernel
theorem dL_law_1881 : decode code 1881 = .ok (.iadd, 1) := by decide +kernel
theorem dL_law_1882 : decode code 1882 = .ok (.iaload, 1) := by decide +kernel
theorem dL_law_1883 : decode code 1883 = .ok (.invokevirtual 232, 3) := by decide +kernel
theorem dL_law_1886 : decode code 1886 = .ok (.istore 6, 2) := by decide +kernel
theorem dL_law_1888 : decode code 1888 = .ok (.aload_n 2, 1) := by decide +kernel
theorem dL_law_1889 : decode code 1889 = .ok (.invokevirtual 129, 3) := by decide +kernel
theorem dL_law_1892 : decode code 1892 = .ok (.iload 5, 2) := by decide +kernel
theorem dL_law_1894 : decode code 1894 = .ok (.if_icmp .eq 5, 3) := by decide +kernel
theorem dL_law_1897 : decode code 1897 = .ok (.iconst 0, 1) := by decide +kernel
theorem dL_law_1898 : decode code 1898 = .ok (.ireturn, 1) := by decide +kernel
theorem dL_law_1899 : decode code 1899 = .ok (.iload 5, 2) := by decide +kernel
theorem dL_law_1901 : decode code 1901 = .ok (.ifCond .ne 15, 3) := by decide +kernel
theorem dL_law_1904 : decode code 1904 = .ok (.aload_n 3, 1) := by decide +kernel
theorem dL_law_1905 : decode code 1905 = .ok (.iconst 0, 1) := by decide +kernel
theorem dL_law_1906 : decode code 1906 = .ok (.laload, 1) := by decide +kernel
theorem dL_law_1907 : decode code 1907 = .ok (.iload 6, 2) := by decide +kernel
theorem dL_law_1909 : decode code 1909 = .ok (.i2l, 1) := by decide +kernel
theorem dL_law_1910 : decode code 1910 = .ok (.lcmp, 1) := by decide +kernel
theorem dL_law_1911 : decode code 1911 = .ok (.ifCond .eq 5, 3) := by decide +kernel
theorem dL_law_1914 : decode code 1914 = .ok (.iconst 0, 1) := by decide +kernel
theorem dL_law_1915 : decode code 1915 = .ok (.ireturn, 1) := by decide +kernel
theorem dL_law_1916 : decode code 1916 = .ok (.goto 492, 3) := by decide +kernel
theorem dL_law_1919 : decode code 1919 = .ok (.aload_n 1, 1) := by decide +kernel
theorem dL_law_1920 : decode code 1920 = .ok (.aload_n 0, 1) := by decide +kernel
theorem dL_law_1921 : decode code 1921 = .ok (.iload 4, 2) := by decide +kernel
theorem dL_law_1923 : decode code 1923 = .ok (.iconst 1, 1) := by decide +kernel
theorem dL_law_1924 : decode code 1924 = .ok (.iadd, 1) := by decide +kernel
theorem dL_law_1925 : decode code 1925 = .ok (.iaload, 1) := by decide +kernel
theorem dL_law_1926 : decode code 1926 = .ok (.aload_n 0, 1) := by decide +kernel
theorem dL_law_1927 : decode code 1927 = .ok (.iload 4, 2) := by decide +kernel
theorem dL_law_1929 : decode code 1929 = .ok (.iconst 2, 1) := by decide +kernel
theorem dL_law_1930 : decode code 1930 = .ok (.iadd, 1) := by decide +kernel
theorem dL_law_1931 : decode code 1931 = .ok (.iaload, 1) := by decide +kernel
theorem dL_law_1932 : decode code 1932 = .ok (.aload_n 3, 1) := by decide +kernel
theorem dL_law_1933 : decode code 1933 = .ok (.invokestatic 233, 3) := by decide +kernel
theorem dL_law_1936 : decode code 1936 = .ok (.istore 5, 2) := by decide +kernel
theorem dL_law_1938 : decode code 1938 = .ok (.aload_n 2, 1) := by decide +kernel
theorem dL_law_1939 : decode code 1939 = .ok (.aload_n 0, 1) := by decide +kernel
theorem dL_law_1940 : decode code 1940 = .ok (.iload 4, 2) := by decide +kernel
theorem dL_law_1942 : decode code 1942 = .ok (.iconst 1, 1) := by decide +kernel
theorem dL_law_1943 : decode code 1943 = .ok (.iadd, 1) := by decide +kernel
theorem dL_law_1944 : decode code 1944 = .ok (.iaload, 1) := by decide +kernel
theorem dL_law_1945 : decode code 1945 = .ok (.aload_n 0, 1) := by decide +kernel
theorem dL_law_1946 : decode code 1946 = .ok (.iload 4, 2) := by decide +kernel
theorem dL_law_1948 : decode code 1948 = .ok (.iconst 2, 1) := by decide +kernel
theorem dL_law_1949 : decode code 1949 = .ok (.iadd, 1) := by decide +kernel
theorem dL_law_1950 : decode code 1950 = .ok (.iaload, 1) := by decide +kernel
theorem dL_law_1951 : decode code 1951 = .ok (.invokevirtual 235, 3) := by decide +kernel
theorem dL_law_1954 : decode code 1954 = .ok (.istore 6, 2) := by decide +kernel
theorem dL_law_1956 : decode code 1956 = .ok (.aload_n 2, 1) := by decide +kernel
theorem dL_law_1957 : decode code 1957 = .ok (.invokevirtual 129, 3) := by decide +kernel
theorem dL_law_1960 : decode code 1960 = .ok (.iload 5, 2) := by decide +kernel
theorem dL_law_1962 : decode code 1962 = .ok (.if_icmp .eq 5, 3) := by decide +kernel
theorem dL_law_1965 : decode code 1965 = .ok (.iconst 0, 1) := by decide +kernel
theorem dL_law_1966 : decode code 1966 = .ok (.ireturn, 1) := by decide +kernel
theorem dL_law_1967 : decode code 1967 = .ok (.iload 5, 2) := by decide +kernel
theorem dL_law_1969 : decode code 1969 = .ok (.ifCond .ne 22, 3) := by decide +kernel
theorem dL_law_1972 : decode code 1972 = .ok (.aload_n 3, 1) := by decide +kernel
theorem dL_law_1973 : decode code 1973 = .ok (.iconst 0, 1) := by decide +kernel
theorem dL_law_1974 : decode code 1974 = .ok (.laload, 1) := by decide +kernel
theorem dL_law_1975 : decode code 1975 = .ok (.iload 6, 2) := by decide +kernel
theorem dL_law_1977 : decode code 1977 = .ok (.ifCond .eq 7, 3) := by decide +kernel
theorem dL_law_1980 : decode code 1980 = .ok (.lconst 1, 1) := by decide +kernel
theorem dL_law_1981 : decode code 1981 = .ok (.goto 4, 3) := by decide +kernel
theorem dL_law_1984 : decode code 1984 = .ok (.lconst 0, 1) := by decide +kernel
theorem dL_law_1985 : decode code 1985 = .ok (.lcmp, 1) := by decide +kernel
theorem dL_law_1986 : decode code 1986 = .ok (.ifCond .eq 5, 3) := by decide +kernel
theorem dL_law_1989 : decode code 1989 = .ok (.iconst 0, 1) := by decide +kernel
theorem dL_law_1990 : decode code 1990 = .ok (.ireturn, 1) := by decide +kernel
theorem dL_law_1991 : decode code 1991 = .ok (.goto 417, 3) := by decide +kernel
theorem dL_law_1994 : decode code 1994 = .ok (.aload_n 1, 1) := by decide +kernel
theorem dL_law_1995 : decode code 1995 = .ok (.aload_n 0, 1) := by decide +kernel
theorem dL_law_1996 : decode code 1996 = .ok (.iload 4, 2) := by decide +kernel
theorem dL_law_1998 : decode code 1998 = .ok (.iconst 1, 1) := by decide +kernel
theorem dL_law_1999 : decode code 1999 = .ok (.iadd, 1) := by decide +kernel
theorem dL_law_2000 : decode code 2000 = .ok (.iaload, 1) := by decide +kernel
theorem dL_law_2001 : decode code 2001 = .ok (.aload_n 3, 1) := by decide +kernel
theorem dL_law_2002 : decode code 2002 = .ok (.invokestatic 236, 3) := by decide +kernel
theorem dL_law_2005 : decode code 2005 = .ok (.istore 5, 2) := by decide +kernel
theorem dL_law_2007 : decode code 2007 = .ok (.aload_n 2, 1) := by decide +kernel
theorem dL_law_2008 : decode code 2008 = .ok (.aload_n 0, 1) := by decide +kernel
theorem dL_law_2009 : decode code 2009 = .ok (.iload 4, 2) := by decide +kernel
theorem dL_law_2011 : decode code 2011 = .ok (.iconst 1, 1) := by decide +kernel
theorem dL_law_2012 : decode code 2012 = .ok (.iadd, 1) := by decide +kernel
theorem dL_law_2013 : decode code 2013 = .ok (.iaload, 1) := by decide +kernel
theorem dL_law_2014 : decode code 2014 = .ok (.invokevirtual 238, 3) := by decide +kernel
theorem dL_law_2017 : decode code 2017 = .ok (.istore 6, 2) := by decide +kernel
theorem dL_law_2019 : decode code 2019 = .ok (.aload_n 2, 1) := by decide +kernel
theorem dL_law_2020 : decode code 2020 = .ok (.invokevirtual 129, 3) := by decide +kernel
theorem dL_law_2023 : decode code 2023 = .ok (.iload 5, 2) := by decide +kernel
theorem dL_law_2025 : decode code 2025 = .ok (.if_icmp .eq 5, 3) := by decide +kernel
theorem dL_law_2028 : decode code 2028 = .ok (.iconst 0, 1) := by decide +kernel
theorem dL_law_2029 : decode code 2029 = .ok (.ireturn, 1) := by decide +kernel
theorem dL_law_2030 : decode code 2030 = .ok (.iload 5, 2) := by decide +kernel
theorem dL_law_2032 : decode code 2032 = .ok (.ifCond .ne 15, 3) := by decide +kernel
theorem dL_law_2035 : decode code 2035 = .ok (.aload_n 3, 1) := by decide +kernel
theorem dL_law_2036 : decode code 2036 = .ok (.iconst 0, 1) := by decide +kernel
theorem dL_law_2037 : decode code 2037 = .ok (.laload, 1) := by decide +kernel
theorem dL_law_2038 : decode code 2038 = .ok (.iload 6, 2) := by decide +kernel
theorem dL_law_2040 : decode code 2040 = .ok (.i2l, 1) := by decide +kernel
theorem dL_law_2041 : decode code 2041 = .ok (.lcmp, 1) := by decide +kernel
theorem dL_law_2042 : decode code 2042 = .ok (.ifCond .eq 5, 3) := by decide +kernel
theorem dL_law_2045 : decode code 2045 = .ok (.iconst 0, 1) := by decide +kernel
theorem dL_law_2046 : decode code 2046 = .ok (.ireturn, 1) := by decide +kernel
theorem dL_law_2047 : decode code 2047 = .ok (.goto 361, 3) := by decide +kernel
theorem dL_law_2050 : decode code 2050 = .ok (.aload_n 1, 1) := by decide +kernel
theorem dL_law_2051 : decode code 2051 = .ok (.invokevirtual 239, 3) := by decide +kernel
theorem dL_law_2054 : decode code 2054 = .ok (.aload_n 2, 1) := by decide +kernel
theorem dL_law_2055 : decode code 2055 = .ok (.invokevirtual 242, 3) := by decide +kernel
theorem dL_law_2058 : decode code 2058 = .ok (.if_icmp .eq 350, 3) := by decide +kernel
theorem dL_law_2061 : decode code 2061 = .ok (.iconst 0, 1) := by decide +kernel
theorem dL_law_2062 : decode code 2062 = .ok (.ireturn, 1) := by decide +kernel
theorem dL_law_2063 : decode code 2063 = .ok (.aload_n 1, 1) := by decide +kernel
theorem dL_law_2064 : decode code 2064 = .ok (.aload_n 0, 1) := by decide +kernel
theorem dL_law_2065 : decode code 2065 = .ok (.iload 4, 2) := by decide +kernel
theorem dL_law_2067 : decode code 2067 = .ok (.iconst 1, 1) := by decide +kernel
theorem dL_law_2068 : decode code 2068 = .ok (.iadd, 1) := by decide +kernel
theorem dL_law_2069 : decode code 2069 = .ok (.iaload, 1) := by decide +kernel
theorem dL_law_2070 : decode code 2070 = .ok (.aload_n 0, 1) := by decide +kernel
theorem dL_law_2071 : decode code 2071 = .ok (.iload 4, 2) := by decide +kernel
theorem dL_law_2073 : decode code 2073 = .ok (.iconst 2, 1) := by decide +kernel
theorem dL_law_2074 : decode code 2074 = .ok (.iadd, 1) := by decide +kernel
theorem dL_law_2075 : decode code 2075 = .ok (.iaload, 1) := by decide +kernel
theorem dL_law_2076 : decode code 2076 = .ok (.aload_n 3, 1) := by decide +kernel
theorem dL_law_2077 : decode code 2077 = .ok (.invokestatic 243, 3) := by decide +kernel
theorem dL_law_2080 : decode code 2080 = .ok (.istore 5, 2) := by decide +kernel
theorem dL_law_2082 : decode code 2082 = .ok (.aload_n 2, 1) := by decide +kernel
theorem dL_law_2083 : decode code 2083 = .ok (.aload_n 0, 1) := by decide +kernel
theorem dL_law_2084 : decode code 2084 = .ok (.iload 4, 2) := by decide +kernel
theorem dL_law_2086 : decode code 2086 = .ok (.iconst 1, 1) := by decide +kernel
theorem dL_law_2087 : decode code 2087 = .ok (.iadd, 1) := by decide +kernel
theorem dL_law_2088 : decode code 2088 = .ok (.iaload, 1) := by decide +kernel
theorem dL_law_2089 : decode code 2089 = .ok (.aload_n 0, 1) := by decide +kernel
theorem dL_law_2090 : decode code 2090 = .ok (.iload 4, 2) := by decide +kernel
theorem dL_law_2092 : decode code 2092 = .ok (.iconst 2, 1) := by decide +kernel
theorem dL_law_2093 : decode code 2093 = .ok (.iadd, 1) := by decide +kernel
theorem dL_law_2094 : decode code 2094 = .ok (.iaload, 1) := by decide +kernel
theorem dL_law_2095 : decode code 2095 = .ok (.invokevirtual 245, 3) := by decide +kernel
theorem dL_law_2098 : decode code 2098 = .ok (.istore 6, 2) := by decide +kernel
theorem dL_law_2100 : decode code 2100 = .ok (.aload_n 2, 1) := by decide +kernel
theorem dL_law_2101 : decode code 2101 = .ok (.invokevirtual 129, 3) := by decide +kernel
theorem dL_law_2104 : decode code 2104 = .ok (.iload 5, 2) := by decide +kernel
theorem dL_law_2106 : decode code 2106 = .ok (.if_icmp .eq 5, 3) := by decide +kernel
theorem dL_law_2109 : decode code 2109 = .ok (.iconst 0, 1) := by decide +kernel
theorem dL_law_2110 : decode code 2110 = .ok (.ireturn, 1) := by decide +kernel
theorem dL_law_2111 : decode code 2111 = .ok (.iload 5, 2) := by decide +kernel
theorem dL_law_2113 : decode code 2113 = .ok (.ifCond .ne 15, 3) := by decide +kernel
theorem dL_law_2116 : decode code 2116 = .ok (.aload_n 3, 1) := by decide +kernel
theorem dL_law_2117 : decode code 2117 = .ok (.iconst 0, 1) := by decide +kernel
theorem dL_law_2118 : decode code 2118 = .ok (.laload, 1) := by decide +kernel
theorem dL_law_2119 : decode code 2119 = .ok (.iload 6, 2) := by decide +kernel
theorem dL_law_2121 : decode code 2121 = .ok (.i2l, 1) := by decide +kernel
theorem dL_law_2122 : decode code 2122 = .ok (.lcmp, 1) := by decide +kernel
theorem dL_law_2123 : decode code 2123 = .ok (.ifCond .eq 5, 3) := by decide +kernel
theorem dL_law_2126 : decode code 2126 = .ok (.iconst 0, 1) := by decide +kernel
theorem dL_law_2127 : decode code 2127 = .ok (.ireturn, 1) := by decide +kernel
theorem dL_law_2128 : decode code 2128 = .ok (.goto 280, 3) := by decide +kernel
theorem dL_law_2131 : decode code 2131 = .ok (.aload_n 1, 1) := by decide +kernel
theorem dL_law_2132 : decode code 2132 = .ok (.aload_n 0, 1) := by decide +kernel
theorem dL_law_2133 : decode code 2133 = .ok (.iload 4, 2) := by decide +kernel
theorem dL_law_2135 : decode code 2135 = .ok (.iconst 1, 1) := by decide +kernel
theorem dL_law_2136 : decode code 2136 = .ok (.iadd, 1) := by decide +kernel
theorem dL_law_2137 : decode code 2137 = .ok (.iaload, 1) := by decide +kernel
theorem dL_law_2138 : decode code 2138 = .ok (.aload_n 3, 1) := by decide +kernel
theorem dL_law_2139 : decode code 2139 = .ok (.invokestatic 246, 3) := by decide +kernel
theorem dL_law_2142 : decode code 2142 = .ok (.istore 5, 2) := by decide +kernel
theorem dL_law_2144 : decode code 2144 = .ok (.aload_n 2, 1) := by decide +kernel
theorem dL_law_2145 : decode code 2145 = .ok (.aload_n 0, 1) := by decide +kernel
theorem dL_law_2146 : decode code 2146 = .ok (.iload 4, 2) := by decide +kernel
theorem dL_law_2148 : decode code 2148 = .ok (.iconst 1, 1) := by decide +kernel
theorem dL_law_2149 : decode code 2149 = .ok (.iadd, 1) := by decide +kernel
theorem dL_law_2150 : decode code 2150 = .ok (.iaload, 1) := by decide +kernel
theorem dL_law_2151 : decode code 2151 = .ok (.invokevirtual 248, 3) := by decide +kernel
theorem dL_law_2154 : decode code 2154 = .ok (.istore 6, 2) := by decide +kernel
theorem dL_law_2156 : decode code 2156 = .ok (.aload_n 2, 1) := by decide +kernel
theorem dL_law_2157 : decode code 2157 = .ok (.invokevirtual 129, 3) := by decide +kernel
theorem dL_law_2160 : decode code 2160 = .ok (.iload 5, 2) := by decide +kernel
theorem dL_law_2162 : decode code 2162 = .ok (.if_icmp .eq 5, 3) := by decide +kernel
theorem dL_law_2165 : decode code 2165 = .ok (.iconst 0, 1) := by decide +kernel
theorem dL_law_2166 : decode code 2166 = .ok (.ireturn, 1) := by decide +kernel
theorem dL_law_2167 : decode code 2167 = .ok (.iload 5, 2) := by decide +kernel
theorem dL_law_2169 : decode code 2169 = .ok (.ifCond .ne 15, 3) := by decide +kernel
theorem dL_law_2172 : decode code 2172 = .ok (.aload_n 3, 1) := by decide +kernel
theorem dL_law_2173 : decode code 2173 = .ok (.iconst 0, 1) := by decide +kernel
theorem dL_law_2174 : decode code 2174 = .ok (.laload, 1) := by decide +kernel
theorem dL_law_2175 : decode code 2175 = .ok (.iload 6, 2) := by decide +kernel
theorem dL_law_2177 : decode code 2177 = .ok (.i2l, 1) := by decide +kernel
theorem dL_law_2178 : decode code 2178 = .ok (.lcmp, 1) := by decide +kernel
theorem dL_law_2179 : decode code 2179 = .ok (.ifCond .eq 5, 3) := by decide +kernel
theorem dL_law_2182 : decode code 2182 = .ok (.iconst 0, 1) := by decide +kernel
theorem dL_law_2183 : decode code 2183 = .ok (.ireturn, 1) := by decide +kernel
theorem dL_law_2184 : decode code 2184 = .ok (.goto 224, 3) := by decide +kernel
theorem dL_law_2187 : decode code 2187 = .ok (.aload_n 1, 1) := by decide +kernel
theorem dL_law_2188 : decode code 2188 = .ok (.invokevirtual 249, 3) := by decide +kernel
theorem dL_law_2191 : decode code 2191 = .ok (.aload_n 2, 1) := by decide +kernel
theorem dL_law_2192 : decode code 2192 = .ok (.invokevirtual 252, 3) := by decide +kernel
theorem dL_law_2195 : decode code 2195 = .ok (.if_icmp .eq 213, 3) := by decide +kernel
theorem dL_law_2198 : decode code 2198 = .ok (.iconst 0, 1) := by decide +kernel
theorem dL_law_2199 : decode code 2199 = .ok (.ireturn, 1) := by decide +kernel
theorem dL_law_2200 : decode code 2200 = .ok (.aload_n 1, 1) := by decide +kernel
theorem dL_law_2201 : decode code 2201 = .ok (.aload_n 0, 1) := by decide +kernel
theorem dL_law_2202 : decode code 2202 = .ok (.iload 4, 2) := by decide +kernel
theorem dL_law_2204 : decode code 2204 = .ok (.iconst 1, 1) := by decide +kernel
theorem dL_law_2205 : decode code 2205 = .ok (.iadd, 1) := by decide +kernel
theorem dL_law_2206 : decode code 2206 = .ok (.iaload, 1) := by decide +kernel
theorem dL_law_2207 : decode code 2207 = .ok (.aload_n 3, 1) := by decide +kernel
theorem dL_law_2208 : decode code 2208 = .ok (.invokestatic 253, 3) := by decide +kernel
theorem dL_law_2211 : decode code 2211 = .ok (.istore 5, 2) := by decide +kernel
theorem dL_law_2213 : decode code 2213 = .ok (.aload_n 2, 1) := by decide +kernel
theorem dL_law_2214 : decode code 2214 = .ok (.aload_n 0, 1) := by decide +kernel
theorem dL_law_2215 : decode code 2215 = .ok (.iload 4, 2) := by decide +kernel
theorem dL_law_2217 : decode code 2217 = .ok (.iconst 1, 1) := by decide +kernel
theorem dL_law_2218 : decode code 2218 = .ok (.iadd, 1) := by decide +kernel
theorem dL_law_2219 : decode code 2219 = .ok (.iaload, 1) := by decide +kernel
theorem dL_law_2220 : decode code 2220 = .ok (.invokevirtual 255, 3) := by decide +kernel
theorem dL_law_2223 : decode code 2223 = .ok (.istore 6, 2) := by decide +kernel
theorem dL_law_2225 : decode code 2225 = .ok (.aload_n 2, 1) := by decide +kernel
theorem dL_law_2226 : decode code 2226 = .ok (.invokevirtual 129, 3) := by decide +kernel
theorem dL_law_2229 : decode code 2229 = .ok (.iload 5, 2) := by decide +kernel
theorem dL_law_2231 : decode code 2231 = .ok (.if_icmp .eq 5, 3) := by decide +kernel
theorem dL_law_2234 : decode code 2234 = .ok (.iconst 0, 1) := by decide +kernel
theorem dL_law_2235 : decode code 2235 = .ok (.ireturn, 1) := by decide +kernel
theorem dL_law_2236 : decode code 2236 = .ok (.iload 5, 2) := by decide +kernel
theorem dL_law_2238 : decode code 2238 = .ok (.ifCond .ne 15, 3) := by decide +kernel
theorem dL_law_2241 : decode code 2241 = .ok (.aload_n 3, 1) := by decide +kernel
theorem dL_law_2242 : decode code 2242 = .ok (.iconst 0, 1) := by decide +kernel
theorem dL_law_2243 : decode code 2243 = .ok (.laload, 1) := by decide +kernel
theorem dL_law_2244 : decode code 2244 = .ok (.iload 6, 2) := by decide +kernel
theorem dL_law_2246 : decode code 2246 = .ok (.i2l, 1) := by decide +kernel
theorem dL_law_2247 : decode code 2247 = .ok (.lcmp, 1) := by decide +kernel
theorem dL_law_2248 : decode code 2248 = .ok (.ifCond .eq 5, 3) := by decide +kernel
theorem dL_law_2251 : decode code 2251 = .ok (.iconst 0, 1) := by decide +kernel
theorem dL_law_2252 : decode code 2252 = .ok (.ireturn, 1) := by decide +kernel
theorem dL_law_2253 : decode code 2253 = .ok (.goto 155, 3) := by decide +kernel
theorem dL_law_2256 : decode code 2256 = .ok (.aload_n 1, 1) := by decide +kernel
theorem dL_law_2257 : decode code 2257 = .ok (.aload_n 0, 1) := by decide +kernel
theorem dL_law_2258 : decode code 2258 = .ok (.iload 4, 2) := by decide +kernel
theorem dL_law_2260 : decode code 2260 = .ok (.iconst 1, 1) := by decide +kernel
theorem dL_law_2261 : decode code 2261 = .ok (.iadd, 1) := by decide +kernel
theorem dL_law_2262 : decode code 2262 = .ok (.iaload, 1) := by decide +kernel
theorem dL_law_2263 : decode code 2263 = .ok (.ifCond .eq 7, 3) := by decide +kernel
theorem dL_law_2266 : decode code 2266 = .ok (.iconst 1, 1) := by decide +kernel
theorem dL_law_2267 : decode code 2267 = .ok (.goto 4, 3) := by decide +kernel
theorem dL_law_2270 : decode code 2270 = .ok (.iconst 0, 1) := by decide +kernel
theorem dL_law_2271 : decode code 2271 = .ok (.invokevirtual 256, 3) := by decide +kernel
theorem dL_law_2274 : decode code 2274 = .ok (.aload_n 2, 1) := by decide +kernel
theorem dL_law_2275 : decode code 2275 = .ok (.aload_n 0, 1) := by decide +kernel
theorem dL_law_2276 : decode code 2276 = .ok (.iload 4, 2) := by decide +kernel
theorem dL_law_2278 : decode code 2278 = .ok (.iconst 1, 1) := by decide +kernel
theorem dL_law_2279 : decode code 2279 = .ok (.iadd, 1) := by decide +kernel
theorem dL_law_2280 : decode code 2280 = .ok (.iaload, 1) := by decide +kernel
theorem dL_law_2281 : decode code 2281 = .ok (.ifCond .eq 7, 3) := by decide +kernel
theorem dL_law_2284 : decode code 2284 = .ok (.iconst 1, 1) := by decide +kernel
theorem dL_law_2285 : decode code 2285 = .ok (.goto 4, 3) := by decide +kernel
theorem dL_law_2288 : decode code 2288 = .ok (.iconst 0, 1) := by decide +kernel
theorem dL_law_2289 : decode code 2289 = .ok (.invokevirtual 260, 3) := by decide +kernel
theorem dL_law_2292 : decode code 2292 = .ok (.if_icmp .eq 116, 3) := by decide +kernel
theorem dL_law_2295 : decode code 2295 = .ok (.iconst 0, 1) := by decide +kernel
theorem dL_law_2296 : decode code 2296 = .ok (.ireturn, 1) := by decide +kernel
theorem dL_law_2297 : decode code 2297 = .ok (.aload_n 1, 1) := by decide +kernel
theorem dL_law_2298 : decode code 2298 = .ok (.aload_n 0, 1) := by decide +kernel
theorem dL_law_2299 : decode code 2299 = .ok (.iload 4, 2) := by decide +kernel
theorem dL_law_2301 : decode code 2301 = .ok (.iconst 1, 1) := by decide +kernel
theorem dL_law_2302 : decode code 2302 = .ok (.iadd, 1) := by decide +kernel
theorem dL_law_2303 : decode code 2303 = .ok (.iaload, 1) := by decide +kernel
theorem dL_law_2304 : decode code 2304 = .ok (.aload_n 0, 1) := by decide +kernel
theorem dL_law_2305 : decode code 2305 = .ok (.iload 4, 2) := by decide +kernel
theorem dL_law_2307 : decode code 2307 = .ok (.iconst 2, 1) := by decide +kernel
theorem dL_law_2308 : decode code 2308 = .ok (.iadd, 1) := by decide +kernel
theorem dL_law_2309 : decode code 2309 = .ok (.iaload, 1) := by decide +kernel
theorem dL_law_2310 : decode code 2310 = .ok (.ifCond .eq 7, 3) := by decide +kernel
theorem dL_law_2313 : decode code 2313 = .ok (.iconst 1, 1) := by decide +kernel
theorem dL_law_2314 : decode code 2314 = .ok (.goto 4, 3) := by decide +kernel
theorem dL_law_2317 : decode code 2317 = .ok (.iconst 0, 1) := by decide +kernel
theorem dL_law_2318 : decode code 2318 = .ok (.aload_n 3, 1) := by decide +kernel
theorem dL_law_2319 : decode code 2319 = .ok (.invokestatic 261, 3) := by decide +kernel
theorem dL_law_2322 : decode code 2322 = .ok (.istore 5, 2) := by decide +kernel
theorem dL_law_2324 : decode code 2324 = .ok (.aload_n 2, 1) := by decide +kernel
theorem dL_law_2325 : decode code 2325 = .ok (.aload_n 0, 1) := by decide +kernel
theorem dL_law_2326 : decode code 2326 = .ok (.iload 4, 2) := by decide +kernel
theorem dL_law_2328 : decode code 2328 = .ok (.iconst 1, 1) := by decide +kernel
theorem dL_law_2329 : decode code 2329 = .ok (.iadd, 1) := by decide +kernel
theorem dL_law_2330 : decode code 2330 = .ok (.iaload, 1) := by decide +kernel
theorem dL_law_2331 : decode code 2331 = .ok (.aload_n 0, 1) := by decide +kernel
theorem dL_law_2332 : decode code 2332 = .ok (.iload 4, 2) := by decide +kernel
theorem dL_law_2334 : decode code 2334 = .ok (.iconst 2, 1) := by decide +kernel
theorem dL_law_2335 : decode code 2335 = .ok (.iadd, 1) := by decide +kernel
theorem dL_law_2336 : decode code 2336 = .ok (.iaload, 1) := by decide +kernel
theorem dL_law_2337 : decode code 2337 = .ok (.ifCond .eq 7, 3) := by decide +kernel
theorem dL_law_2340 : decode code 2340 = .ok (.iconst 1, 1) := by decide +kernel
theorem dL_law_2341 : decode code 2341 = .ok (.goto 4, 3) := by decide +kernel
theorem dL_law_2344 : decode code 2344 = .ok (.iconst 0, 1) := by decide +kernel
theorem dL_law_2345 : decode code 2345 = .ok (.invokevirtual 263, 3) := by decide +kernel
theorem dL_law_2348 : decode code 2348 = .ok (.istore 6, 2) := by decide +kernel
theorem dL_law_2350 : decode code 2350 = .ok (.aload_n 2, 1) := by decide +kernel
theorem dL_law_2351 : decode code 2351 = .ok (.invokevirtual 129, 3) := by decide +kernel
theorem dL_law_2354 : decode code 2354 = .ok (.iload 5, 2) := by decide +kernel
theorem dL_law_2356 : decode code 2356 = .ok (.if_icmp .eq 5, 3) := by decide +kernel
theorem dL_law_2359 : decode code 2359 = .ok (.iconst 0, 1) := by decide +kernel
theorem dL_law_2360 : decode code 2360 = .ok (.ireturn, 1) := by decide +kernel
theorem dL_law_2361 : decode code 2361 = .ok (.iload 5, 2) := by decide +kernel
theorem dL_law_2363 : decode code 2363 = .ok (.ifCond .ne 15, 3) := by decide +kernel
theorem dL_law_2366 : decode code 2366 = .ok (.aload_n 3, 1) := by decide +kernel
theorem dL_law_2367 : decode code 2367 = .ok (.iconst 0, 1) := by decide +kernel
theorem dL_law_2368 : decode code 2368 = .ok (.laload, 1) := by decide +kernel
theorem dL_law_2369 : decode code 2369 = .ok (.iload 6, 2) := by decide +kernel
theorem dL_law_2371 : decode code 2371 = .ok (.i2l, 1) := by decide +kernel
theorem dL_law_2372 : decode code 2372 = .ok (.lcmp, 1) := by decide +kernel
theorem dL_law_2373 : decode code 2373 = .ok (.ifCond .eq 5, 3) := by decide +kernel
theorem dL_law_2376 : decode code 2376 = .ok (.iconst 0, 1) := by decide +kernel
theorem dL_law_2377 : decode code 2377 = .ok (.ireturn, 1) := by decide +kernel
theorem dL_law_2378 : decode code 2378 = .ok (.goto 30, 3) := by decide +kernel
theorem dL_law_2381 : decode code 2381 = .ok (.aload_n 1, 1) := by decide +kernel
theorem dL_law_2382 : decode code 2382 = .ok (.invokevirtual 264, 3) := by decide +kernel
theorem dL_law_2385 : decode code 2385 = .ok (.aload_n 2, 1) := by decide +kernel
theorem dL_law_2386 : decode code 2386 = .ok (.invokevirtual 267, 3) := by decide +kernel
theorem dL_law_2389 : decode code 2389 = .ok (.if_icmp .eq 19, 3) := by decide +kernel
theorem dL_law_2392 : decode code 2392 = .ok (.iconst 0, 1) := by decide +kernel
theorem dL_law_2393 : decode code 2393 = .ok (.ireturn, 1) := by decide +kernel
theorem dL_law_2394 : decode code 2394 = .ok (.aload_n 1, 1) := by decide +kernel
theorem dL_law_2395 : decode code 2395 = .ok (.invokevirtual 268, 3) := by decide +kernel
theorem dL_law_2398 : decode code 2398 = .ok (.aload_n 2, 1) := by decide +kernel
theorem dL_law_2399 : decode code 2399 = .ok (.invokevirtual 272, 3) := by decide +kernel
theorem dL_law_2402 : decode code 2402 = .ok (.lcmp, 1) := by decide +kernel
theorem dL_law_2403 : decode code 2403 = .ok (.ifCond .eq 5, 3) := by decide +kernel
theorem dL_law_2406 : decode code 2406 = .ok (.iconst 0, 1) := by decide +kernel
theorem dL_law_2407 : decode code 2407 = .ok (.ireturn, 1) := by decide +kernel
theorem dL_law_2408 : decode code 2408 = .ok (.iinc 4 4, 3) := by decide +kernel
theorem dL_law_2411 : decode code 2411 = .ok (.goto (-2388), 3) := by decide +kernel
theorem dL_law_2414 : decode code 2414 = .ok (.iconst 1, 1) := by decide +kernel
theorem dL_law_2415 : decode code 2415 = .ok (.ireturn, 1) := by decide +kernel
