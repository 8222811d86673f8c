theorem dL_law_0 : decode code 0 = .ok (.new 8, 3) := by decide +kernel
theorem dL_law_3 : decode code 3 = .ok (.dup, 1) := by decide +kernel
theorem dL_law_4 : decode code 4 = .ok (.invokespecial 15, 3) := by decide +kernel
theorem dL_law_7 : decode code 7 = .ok (.astore_n 1, 1) := by decide +kernel
theorem dL_law_8 : decode code 8 = .ok (.new 16, 3) := by decide +kernel
theorem dL_law_11 : decode code 11 = .ok (.dup, 1) := by decide +kernel
theorem dL_law_12 : decode code 12 = .ok (.invokespecial 18, 3) := by decide +kernel
theorem dL_law_15 : decode code 15 = .ok (.astore_n 2, 1) := by decide +kernel
theorem dL_law_16 : decode code 16 = .ok (.iconst 1, 1) := by decide +kernel
theorem dL_law_17 : decode code 17 = .ok (.newarray .long, 2) := by decide +kernel
theorem dL_law_19 : decode code 19 = .ok (.astore_n 3, 1) := by decide +kernel
theorem dL_law_20 : decode code 20 = .ok (.iconst 0, 1) := by decide +kernel
theorem dL_law_21 : decode code 21 = .ok (.istore 4, 2) := by decide +kernel
theorem dL_law_23 : decode code 23 = .ok (.iload 4, 2) := by decide +kernel
theorem dL_law_25 : decode code 25 = .ok (.aload_n 0, 1) := by decide +kernel
theorem dL_law_26 : decode code 26 = .ok (.arraylength, 1) := by decide +kernel
theorem dL_law_27 : decode code 27 = .ok (.bipush 6, 2) := by decide +kernel
theorem dL_law_29 : decode code 29 = .ok (.isub, 1) := by decide +kernel
theorem dL_law_30 : decode code 30 = .ok (.if_icmp .gt 2303, 3) := by decide +kernel
theorem dL_law_33 : decode code 33 = .ok (.aload_n 0, 1) := by decide +kernel
theorem dL_law_34 : decode code 34 = .ok (.iload 4, 2) := by decide +kernel
theorem dL_law_36 : decode code 36 = .ok (.iaload, 1) := by decide +kernel
theorem dL_law_37 : decode code 37 = .ok (.bipush 63, 2) := by decide +kernel
theorem dL_law_39 : decode code 39 = .ok (.iand, 1) := by decide +kernel
theorem dL_law_40 : decode code 40 = .ok (.tableswitch 2287 0 49 #[216, 241, 254, 307, 380, 405, 430, 486, 523, 560, 597, 634, 659, 752, 821, 858, 895, 944, 981, 994, 1031, 1069, 1082, 1095, 1132, 1197, 1262, 1327, 1352, 1401, 1450, 1475, 1536, 1589, 1682, 1719, 1780, 1817, 1842, 1879, 1952, 2001, 2026, 2051, 2089, 2126, 2163, 2200, 2225, 2262], 216) := by decide +kernel
theorem dL_law_256 : decode code 256 = .ok (.aload_n 1, 1) := by decide +kernel
theorem dL_law_257 : decode code 257 = .ok (.aload_n 0, 1) := by decide +kernel
theorem dL_law_258 : decode code 258 = .ok (.iload 4, 2) := by decide +kernel
theorem dL_law_260 : decode code 260 = .ok (.iconst 1, 1) := by decide +kernel
theorem dL_law_261 : decode code 261 = .ok (.iadd, 1) := by decide +kernel
theorem dL_law_262 : decode code 262 = .ok (.iaload, 1) := by decide +kernel
theorem dL_law_263 : decode code 263 = .ok (.invokevirtual 19, 3) := by decide +kernel
theorem dL_law_266 : decode code 266 = .ok (.aload_n 2, 1) := by decide +kernel
theorem dL_law_267 : decode code 267 = .ok (.aload_n 0, 1) := by decide +kernel
theorem dL_law_268 : decode code 268 = .ok (.iload 4, 2) := by decide +kernel
theorem dL_law_270 : decode code 270 = .ok (.iconst 1, 1) := by decide +kernel
theorem dL_law_271 : decode code 271 = .ok (.iadd, 1) := by decide +kernel
theorem dL_law_272 : decode code 272 = .ok (.iaload, 1) := by decide +kernel
theorem dL_law_273 : decode code 273 = .ok (.invokevirtual 22, 3) := by decide +kernel
theorem dL_law_276 : decode code 276 = .ok (.if_icmp .eq 2051, 3) := by decide +kernel
theorem dL_law_279 : decode code 279 = .ok (.iconst 0, 1) := by decide +kernel
theorem dL_law_280 : decode code 280 = .ok (.ireturn, 1) := by decide +kernel
theorem dL_law_281 : decode code 281 = .ok (.aload_n 1, 1) := by decide +kernel
theorem dL_law_282 : decode code 282 = .ok (.invokevirtual 23, 3) := by decide +kernel
theorem dL_law_285 : decode code 285 = .ok (.aload_n 2, 1) := by decide +kernel
theorem dL_law_286 : decode code 286 = .ok (.invokevirtual 27, 3) := by decide +kernel
theorem dL_law_289 : decode code 289 = .ok (.if_icmp .eq 2038, 3) := by decide +kernel
theorem dL_law_292 : decode code 292 = .ok (.iconst 0, 1) := by decide +kernel
theorem dL_law_293 : decode code 293 = .ok (.ireturn, 1) := by decide +kernel
theorem dL_law_294 : decode code 294 = .ok (.aload_n 1, 1) := by decide +kernel
theorem dL_law_295 : decode code 295 = .ok (.aload_n 0, 1) := by decide +kernel
theorem dL_law_296 : decode code 296 = .ok (.iload 4, 2) := by decide +kernel
theorem dL_law_298 : decode code 298 = .ok (.iconst 1, 1) := by decide +kernel
theorem dL_law_299 : decode code 299 = .ok (.iadd, 1) := by decide +kernel
theorem dL_law_300 : decode code 300 = .ok (.iaload, 1) := by decide +kernel
theorem dL_law_301 : decode code 301 = .ok (.aload_n 0, 1) := by decide +kernel
theorem dL_law_302 : decode code 302 = .ok (.iload 4, 2) := by decide +kernel
theorem dL_law_304 : decode code 304 = .ok (.iconst 2, 1) := by decide +kernel
theorem dL_law_305 : decode code 305 = .ok (.iadd, 1) := by decide +kernel
theorem dL_law_306 : decode code 306 = .ok (.iaload, 1) := by decide +kernel
theorem dL_law_307 : decode code 307 = .ok (.ifCond .eq 7, 3) := by decide +kernel
theorem dL_law_310 : decode code 310 = .ok (.iconst 1, 1) := by decide +kernel
theorem dL_law_311 : decode code 311 = .ok (.goto 4, 3) := by decide +kernel
theorem dL_law_314 : decode code 314 = .ok (.iconst 0, 1) := by decide +kernel
theorem dL_law_315 : decode code 315 = .ok (.invokevirtual 28, 3) := by decide +kernel
theorem dL_law_318 : decode code 318 = .ok (.aload_n 2, 1) := by decide +kernel
theorem dL_law_319 : decode code 319 = .ok (.aload_n 0, 1) := by decide +kernel
theorem dL_law_320 : decode code 320 = .ok (.iload 4, 2) := by decide +kernel
theorem dL_law_322 : decode code 322 = .ok (.iconst 1, 1) := by decide +kernel
theorem dL_law_323 : decode code 323 = .ok (.iadd, 1) := by decide +kernel
theorem dL_law_324 : decode code 324 = .ok (.iaload, 1) := by decide +kernel
theorem dL_law_325 : decode code 325 = .ok (.aload_n 0, 1) := by decide +kernel
theorem dL_law_326 : decode code 326 = .ok (.iload 4, 2) := by decide +kernel
theorem dL_law_328 : decode code 328 = .ok (.iconst 2, 1) := by decide +kernel
theorem dL_law_329 : decode code 329 = .ok (.iadd, 1) := by decide +kernel
theorem dL_law_330 : decode code 330 = .ok (.iaload, 1) := by decide +kernel
theorem dL_law_331 : decode code 331 = .ok (.ifCond .eq 7, 3) := by decide +kernel
theorem dL_law_334 : decode code 334 = .ok (.iconst 1, 1) := by decide +kernel
theorem dL_law_335 : decode code 335 = .ok (.goto 4, 3) := by decide +kernel
theorem dL_law_338 : decode code 338 = .ok (.iconst 0, 1) := by decide +kernel
theorem dL_law_339 : decode code 339 = .ok (.invokevirtual 32, 3) := by decide +kernel
theorem dL_law_342 : decode code 342 = .ok (.if_icmp .eq 1985, 3) := by decide +kernel
theorem dL_law_345 : decode code 345 = .ok (.iconst 0, 1) := by decide +kernel
theorem dL_law_346 : decode code 346 = .ok (.ireturn, 1) := by decide +kernel
theorem dL_law_347 : decode code 347 = .ok (.aload_n 1, 1) := by decide +kernel
theorem dL_law_348 : decode code 348 = .ok (.aload_n 0, 1) := by decide +kernel
theorem dL_law_349 : decode code 349 = .ok (.iload 4, 2) := by decide +kernel
theorem dL_law_351 : decode code 351 = .ok (.iconst 1, 1) := by decide +kernel
theorem dL_law_352 : decode code 352 = .ok (.iadd, 1) := by decide +kernel
theorem dL_law_353 : decode code 353 = .ok (.iaload, 1) := by decide +kernel
theorem dL_law_354 : decode code 354 = .ok (.aload_n 0, 1) := by decide +kernel
theorem dL_law_355 : decode code 355 = .ok (.iload 4, 2) := by decide +kernel
theorem dL_law_357 : decode code 357 = .ok (.iconst 2, 1) := by decide +kernel
theorem dL_law_358 : decode code 358 = .ok (.iadd, 1) := by decide +kernel
theorem dL_law_359 : decode code 359 = .ok (.iaload, 1) := by decide +kernel
theorem dL_law_360 : decode code 360 = .ok (.aload_n 0, 1) := by decide +kernel
theorem dL_law_361 : decode code 361 = .ok (.iload 4, 2) := by decide +kernel
theorem dL_law_363 : decode code 363 = .ok (.iconst 3, 1) := by decide +kernel
theorem dL_law_364 : decode code 364 = .ok (.iadd, 1) := by decide +kernel
theorem dL_law_365 : decode code 365 = .ok (.iaload, 1) := by decide +kernel
theorem dL_law_366 : decode code 366 = .ok (.aload_n 0, 1) := by decide +kernel
theorem dL_law_367 : decode code 367 = .ok (.iload 4, 2) := by decide +kernel
theorem dL_law_369 : decode code 369 = .ok (.iconst 4, 1) := by decide +kernel
theorem dL_law_370 : decode code 370 = .ok (.iadd, 1) := by decide +kernel
theorem dL_law_371 : decode code 371 = .ok (.iaload, 1) := by decide +kernel
theorem dL_law_372 : decode code 372 = .ok (.aload_n 0, 1) := by decide +kernel
theorem dL_law_373 : decode code 373 = .ok (.iload 4, 2) := by decide +kernel
theorem dL_law_375 : decode code 375 = .ok (.iconst 5, 1) := by decide +kernel
theorem dL_law_376 : decode code 376 = .ok (.iadd, 1) := by decide +kernel
theorem dL_law_377 : decode code 377 = .ok (.iaload, 1) := by decide +kernel
theorem dL_law_378 : decode code 378 = .ok (.invokevirtual 33, 3) := by decide +kernel
theorem dL_law_381 : decode code 381 = .ok (.aload_n 2, 1) := by decide +kernel
theorem dL_law_382 : decode code 382 = .ok (.aload_n 0, 1) := by decide +kernel
theorem dL_law_383 : decode code 383 = .ok (.iload 4, 2) := by decide +kernel
theorem dL_law_385 : decode code 385 = .ok (.iconst 1, 1) := by decide +kernel
theorem dL_law_386 : decode code 386 = .ok (.iadd, 1) := by decide +kernel
theorem dL_law_387 : decode code 387 = .ok (.iaload, 1) := by decide +kernel
theorem dL_law_388 : decode code 388 = .ok (.aload_n 0, 1) := by decide +kernel
theorem dL_law_389 : decode code 389 = .ok (.iload 4, 2) := by decide +kernel
theorem dL_law_391 : decode code 391 = .ok (.iconst 2, 1) := by decide +kernel
theorem dL_law_392 : decode code 392 = .ok (.iadd, 1) := by decide +kernel
theorem dL_law_393 : decode code 393 = .ok (.iaload, 1) := by decide +kernel
theorem dL_law_394 : decode code 394 = .ok (.aload_n 0, 1) := by decide +kernel
theorem dL_law_395 : decode code 395 = .ok (.iload 4, 2) := by decide +kernel
theorem dL_law_397 : decode code 397 = .ok (.iconst 3, 1) := by decide +kernel
theorem dL_law_398 : decode code 398 = .ok (.iadd, 1) := by decide +kernel
theorem dL_law_399 : decode code 399 = .ok (.iaload, 1) := by decide +kernel
theorem dL_law_400 : decode code 400 = .ok (.aload_n 0, 1) := by decide +kernel
theorem dL_law_401 : decode code 401 = .ok (.iload 4, 2) := by decide +kernel
theorem dL_law_403 : decode code 403 = .ok (.iconst 4, 1) := by decide +kernel
theorem dL_law_404 : decode code 404 = .ok (.iadd, 1) := by decide +kernel
theorem dL_law_405 : decode code 405 = .ok (.iaload, 1) := by decide +kernel
theorem dL_law_406 : decode code 406 = .ok (.aload_n 0, 1) := by decide +kernel
theorem dL_law_407 : decode code 407 = .ok (.iload 4, 2) := by decide +kernel
theorem dL_law_409 : decode code 409 = .ok (.iconst 5, 1) := by decide +kernel
theorem dL_law_410 : decode code 410 = .ok (.iadd, 1) := by decide +kernel
theorem dL_law_411 : decode code 411 = .ok (.iaload, 1) := by decide +kernel
theorem dL_law_412 : decode code 412 = .ok (.invokevirtual 37, 3) := by decide +kernel
theorem dL_law_415 : decode code 415 = .ok (.if_icmp .eq 1912, 3) := by decide +kernel
theorem dL_law_418 : decode code 418 = .ok (.iconst 0, 1) := by decide +kernel
theorem dL_law_419 : decode code 419 = .ok (.ireturn, 1) := by decide +kernel
theorem dL_law_420 : decode code 420 = .ok (.aload_n 1, 1) := by decide +kernel
theorem dL_law_421 : decode code 421 = .ok (.aload_n 0, 1) := by decide +kernel
theorem dL_law_422 : decode code 422 = .ok (.iload 4, 2) := by decide +kernel
theorem dL_law_424 : decode code 424 = .ok (.iconst 1, 1) := by decide +kernel
theorem dL_law_425 : decode code 425 = .ok (.iadd, 1) := by decide +kernel
theorem dL_law_426 : decode code 426 = .ok (.iaload, 1) := by decide +kernel
theorem dL_law_427 : decode code 427 = .ok (.invokevirtual 38, 3) := by decide +kernel
theorem dL_law_430 : decode code 430 = .ok (.aload_n 2, 1) := by decide +kernel
theorem dL_law_431 : decode code 431 = .ok (.aload_n 0, 1) := by decide +kernel
theorem dL_law_432 : decode code 432 = .ok (.iload 4, 2) := by decide +kernel
theorem dL_law_434 : decode code 434 = .ok (.iconst 1, 1) := by decide +kernel
theorem dL_law_435 : decode code 435 = .ok (.iadd, 1) := by decide +kernel
theorem dL_law_436 : decode code 436 = .ok (.iaload, 1) := by decide +kernel
theorem dL_law_437 : decode code 437 = .ok (.invokevirtual 42, 3) := by decide +kernel
theorem dL_law_440 : decode code 440 = .ok (.if_icmp .eq 1887, 3) := by decide +kernel
theorem dL_law_443 : decode code 443 = .ok (.iconst 0, 1) := by decide +kernel
theorem dL_law_444 : decode code 444 = .ok (.ireturn, 1) := by decide +kernel
theorem dL_law_445 : decode code 445 = .ok (.aload_n 1, 1) := by decide +kernel
theorem dL_law_446 : decode code 446 = .ok (.aload_n 0, 1) := by decide +kernel
theorem dL_law_447 : decode code 447 = .ok (.iload 4, 2) := by decide +kernel
theorem dL_law_449 : decode code 449 = .ok (.iconst 1, 1) := by decide +kernel
theorem dL_law_450 : decode code 450 = .ok (.iadd, 1) := by decide +kernel
theorem dL_law_451 : decode code 451 = .ok (.iaload, 1) := by decide +kernel
theorem dL_law_452 : decode code 452 = .ok (.invokevirtual 43, 3) := by decide +kernel
theorem dL_law_455 : decode code 455 = .ok (.aload_n 2, 1) := by decide +kernel
theorem dL_law_456 : decode code 456 = .ok (.aload_n 0, 1) := by decide +kernel
theorem dL_law_457 : decode code 457 = .ok (.iload 4, 2) := by decide +kernel
theorem dL_law_459 : decode code 459 = .ok (.iconst 1, 1) := by decide +kernel
theorem dL_law_460 : decode code 460 = .ok (.iadd, 1) := by decide +kernel
theorem dL_law_461 : decode code 461 = .ok (.iaload, 1) := by decide +kernel
theorem dL_law_462 : decode code 462 = .ok (.invokevirtual 46, 3) := by decide +kernel
theorem dL_law_465 : decode code 465 = .ok (.if_icmp .eq 1862, 3) := by decide +kernel
theorem dL_law_468 : decode code 468 = .ok (.iconst 0, 1) := by decide +kernel
theorem dL_law_469 : decode code 469 = .ok (.ireturn, 1) := by decide +kernel
theorem dL_law_470 : decode code 470 = .ok (.aload_n 1, 1) := by decide +kernel
theorem dL_law_471 : decode code 471 = .ok (.aload_n 0, 1) := by decide +kernel
theorem dL_law_472 : decode code 472 = .ok (.iload 4, 2) := by decide +kernel
theorem dL_law_474 : decode code 474 = .ok (.iconst 1, 1) := by decide +kernel
theorem dL_law_475 : decode code 475 = .ok (.iadd, 1) := by decide +kernel
theorem dL_law_476 : decode code 476 = .ok (.iaload, 1) := by decide +kernel
theorem dL_law_477 : decode code 477 = .ok (.aload_n 3, 1) := by decide +kernel
theorem dL_law_478 : decode code 478 = .ok (.invokestatic 47, 3) := by decide +kernel
theorem dL_law_481 : decode code 481 = .ok (.istore 5, 2) := by decide +kernel
theorem dL_law_483 : decode code 483 = .ok (.aload_n 2, 1) := by decide +kernel
theorem dL_law_484 : decode code 484 = .ok (.aload_n 0, 1) := by decide +kernel
theorem dL_law_485 : decode code 485 = .ok (.iload 4, 2) := by decide +kernel
theorem dL_law_487 : decode code 487 = .ok (.iconst 1, 1) := by decide +kernel
theorem dL_law_488 : decode code 488 = .ok (.iadd, 1) := by decide +kernel
theorem dL_law_489 : decode code 489 = .ok (.iaload, 1) := by decide +kernel
theorem dL_law_490 : decode code 490 = .ok (.invokevirtual 52, 3) := by decide +kernel
theorem dL_law_493 : decode code 493 = .ok (.istore 6, 2) := by decide +kernel
theorem dL_law_495 : decode code 495 = .ok (.aload_n 2, 1) := by decide +kernel
theorem dL_law_496 : decode code 496 = .ok (.invokevirtual 53, 3) := by decide +kernel
theorem dL_law_499 : decode code 499 = .ok (.iload 5, 2) := by decide +kernel
theorem dL_law_501 : decode code 501 = .ok (.if_icmp .eq 5, 3) := by decide +kernel
theorem dL_law_504 : decode code 504 = .ok (.iconst 0, 1) := by decide +kernel
theorem dL_law_505 : decode code 505 = .ok (.ireturn, 1) := by decide +kernel
theorem dL_law_506 : decode code 506 = .ok (.iload 5, 2) := by decide +kernel
theorem dL_law_508 : decode code 508 = .ok (.ifCond .ne 15, 3) := by decide +kernel
theorem dL_law_511 : decode code 511 = .ok (.aload_n 3, 1) := by decide +kernel
theorem dL_law_512 : decode code 512 = .ok (.iconst 0, 1) := by decide +kernel
theorem dL_law_513 : decode code 513 = .ok (.laload, 1) := by decide +kernel
theorem dL_law_514 : decode code 514 = .ok (.iload 6, 2) := by decide +kernel
theorem dL_law_516 : decode code 516 = .ok (.i2l, 1) := by decide +kernel
theorem dL_law_517 : decode code 517 = .ok (.lcmp, 1) := by decide +kernel
theorem dL_law_518 : decode code 518 = .ok (.ifCond .eq 5, 3) := by decide +kernel
theorem dL_law_521 : decode code 521 = .ok (.iconst 0, 1) := by decide +kernel
theorem dL_law_522 : decode code 522 = .ok (.ireturn, 1) := by decide +kernel
theorem dL_law_523 : decode code 523 = .ok (.goto 1804, 3) := by decide +kernel
theorem dL_law_526 : decode code 526 = .ok (.aload_n 1, 1) := by decide +kernel
theorem dL_law_527 : decode code 527 = .ok (.aload_n 0, 1) := by decide +kernel
theorem dL_law_528 : decode code 528 = .ok (.iload 4, 2) := by decide +kernel
theorem dL_law_530 : decode code 530 = .ok (.iconst 1, 1) := by decide +kernel
theorem dL_law_531 : decode code 531 = .ok (.iadd, 1) := by decide +kernel
theorem dL_law_532 : decode code 532 = .ok (.iaload, 1) := by decide +kernel
theorem dL_law_533 : decode code 533 = .ok (.aload_n 0, 1) := by decide +kernel
theorem dL_law_534 : decode code 534 = .ok (.iload 4, 2) := by decide +kernel
theorem dL_law_536 : decode code 536 = .ok (.iconst 2, 1) := by decide +kernel
theorem dL_law_537 : decode code 537 = .ok (.iadd, 1) := by decide +kernel
theorem dL_law_538 : decode code 538 = .ok (.iaload, 1) := by decide +kernel
theorem dL_law_539 : decode code 539 = .ok (.invokevirtual 56, 3) := by decide +kernel
theorem dL_law_542 : decode code 542 = .ok (.aload_n 2, 1) := by decide +kernel
theorem dL_law_543 : decode code 543 = .ok (.aload_n 0, 1) := by decide +kernel
theorem dL_law_544 : decode code 544 = .ok (.iload 4, 2) := by decide +kernel
theorem dL_law_546 : decode code 546 = .ok (.iconst 1, 1) := by decide +kernel
theorem dL_law_547 : decode code 547 = .ok (.iadd, 1) := by decide +kernel
theorem dL_law_548 : decode code 548 = .ok (.iaload, 1) := by decide +kernel
theorem dL_law_549 : decode code 549 = .ok (.aload_n 0, 1) := by decide +kernel
theorem dL_law_550 : decode code 550 = .ok (.iload 4, 2) := by decide +kernel
theorem dL_law_552 : decode code 552 = .ok (.iconst 2, 1) := by decide +kernel
theorem dL_law_553 : decode code 553 = .ok (.iadd, 1) := by decide +kernel
theorem dL_law_554 : decode code 554 = .ok (.iaload, 1) := by decide +kernel
theorem dL_law_555 : decode code 555 = .ok (.invokevirtual 60, 3) := by decide +kernel
theorem dL_law_558 : decode code 558 = .ok (.if_icmp .eq 1769, 3) := by decide +kernel
theorem dL_law_561 : decode code 561 = .ok (.iconst 0, 1) := by decide +kernel
theorem dL_law_562 : decode code 562 = .ok (.ireturn, 1) := by decide +kernel
theorem dL_law_563 : decode code 563 = .ok (.aload_n 1, 1) := by decide +kernel
theorem dL_law_564 : decode code 564 = .ok (.aload_n 0, 1) := by decide +kernel
theorem dL_law_565 : decode code 565 = .ok (.iload 4, 2) := by decide +kernel
theorem dL_law_567 : decode code 567 = .ok (.iconst 1, 1) := by decide +kernel
theorem dL_law_568 : decode code 568 = .ok (.iadd, 1) := by decide +kernel
theorem dL_law_569 : decode code 569 = .ok (.iaload, 1) := by decide +kernel
theorem dL_law_570 : decode code 570 = .ok (.aload_n 0, 1) := by decide +kernel
theorem dL_law_571 : decode code 571 = .ok (.iload 4, 2) := by decide +kernel
theorem dL_law_573 : decode code 573 = .ok (.iconst 2, 1) := by decide +kernel
theorem dL_law_574 : decode code 574 = .ok (.iadd, 1) := by decide +kernel
theorem dL_law_575 : decode code 575 = .ok (.iaload, 1) := by decide +kernel
theorem dL_law_576 : decode code 576 = .ok (.invokevirtual 61, 3) := by decide +kernel
theorem dL_law_579 : decode code 579 = .ok (.aload_n 2, 1) := by decide +kernel
theorem dL_law_580 : decode code 580 = .ok (.aload_n 0, 1) := by decide +kernel
theorem dL_law_581 : decode code 581 = .ok (.iload 4, 2) := by decide +kernel
theorem dL_law_583 : decode code 583 = .ok (.iconst 1, 1) := by decide +kernel
theorem dL_law_584 : decode code 584 = .ok (.iadd, 1) := by decide +kernel
theorem dL_law_585 : decode code 585 = .ok (.iaload, 1) := by decide +kernel
theorem dL_law_586 : decode code 586 = .ok (.aload_n 0, 1) := by decide +kernel
theorem dL_law_587 : decode code 587 = .ok (.iload 4, 2) := by decide +kernel
theorem dL_law_589 : decode code 589 = .ok (.iconst 2, 1) := by decide +kernel
theorem dL_law_590 : decode code 590 = .ok (.iadd, 1) := by decide +kernel
theorem dL_law_591 : decode code 591 = .ok (.iaload, 1) := by decide +kernel
theorem dL_law_592 : decode code 592 = .ok (.invokevirtual 65, 3) := by decide +kernel
theorem dL_law_595 : decode code 595 = .ok (.if_icmp .eq 1732, 3) := by decide +kernel
theorem dL_law_598 : decode code 598 = .ok (.iconst 0, 1) := by decide +kernel
theorem dL_law_599 : decode code 599 = .ok (.ireturn, 1) := by decide +kernel
theorem dL_law_600 : decode code 600 = .ok (.aload_n 1, 1) := by decide +kernel
theorem dL_law_601 : decode code 601 = .ok (.aload_n 0, 1) := by decide +kernel
theorem dL_law_602 : decode code 602 = .ok (.iload 4, 2) := by decide +kernel
theorem dL_law_604 : decode code 604 = .ok (.iconst 1, 1) := by decide +kernel
theorem dL_law_605 : decode code 605 = .ok (.iadd, 1) := by decide +kernel
theorem dL_law_606 : decode code 606 = .ok (.iaload, 1) := by decide +kernel
theorem dL_law_607 : decode code 607 = .ok (.aload_n 0, 1) := by decide +kernel
theorem dL_law_608 : decode code 608 = .ok (.iload 4, 2) := by decide +kernel
theorem dL_law_610 : decode code 610 = .ok (.iconst 2, 1) := by decide +kernel
theorem dL_law_611 : decode code 611 = .ok (.iadd, 1) := by decide +kernel
theorem dL_law_612 : decode code 612 = .ok (.iaload, 1) := by decide +kernel
theorem dL_law_613 : decode code 613 = .ok (.invokevirtual 66, 3) := by decide +kernel
theorem dL_law_616 : decode code 616 = .ok (.aload_n 2, 1) := by decide +kernel
theorem dL_law_617 : decode code 617 = .ok (.aload_n 0, 1) := by decide +kernel
theorem dL_law_618 : decode code 618 = .ok (.iload 4, 2) := by decide +kernel
theorem dL_law_620 : decode code 620 = .ok (.iconst 1, 1) := by decide +kernel
theorem dL_law_621 : decode code 621 = .ok (.iadd, 1) := by decide +kernel
theorem dL_law_622 : decode code 622 = .ok (.iaload, 1) := by decide +kernel
theorem dL_law_623 : decode code 623 = .ok (.aload_n 0, 1) := by decide +kernel
theorem dL_law_624 : decode code 624 = .ok (.iload 4, 2) := by decide +kernel
theorem dL_law_626 : decode code 626 = .ok (.iconst 2, 1) := by decide +kernel
theorem dL_law_627 : decode code 627 = .ok (.iadd, 1) := by decide +kernel
theorem dL_law_628 : decode code 628 = .ok (.iaload, 1) := by decide +kernel
theorem dL_law_629 : decode code 629 = .ok (.invokevirtual 69, 3) := by decide +kernel
theorem dL_law_632 : decode code 632 = .ok (.if_icmp .eq 1695, 3) := by decide +kernel
theorem dL_law_635 : decode code 635 = .ok (.iconst 0, 1) := by decide +kernel
theorem dL_law_636 : decode code 636 = .ok (.ireturn, 1) := by decide +kernel
theorem dL_law_637 : decode code 637 = .ok (.aload_n 1, 1) := by decide +kernel
theorem dL_law_638 : decode code 638 = .ok (.aload_n 0, 1) := by decide +kernel
theorem dL_law_639 : decode code 639 = .ok (.iload 4, 2) := by decide +kernel
theorem dL_law_641 : decode code 641 = .ok (.iconst 1, 1) := by decide +kernel
theorem dL_law_642 : decode code 642 = .ok (.iadd, 1) := by decide +kernel
theorem dL_law_643 : decode code 643 = .ok (.iaload, 1) := by decide +kernel
theorem dL_law_644 : decode code 644 = .ok (.aload_n 0, 1) := by decide +kernel
theorem dL_law_645 : decode code 645 = .ok (.iload 4, 2) := by decide +kernel
theorem dL_law_647 : decode code 647 = .ok (.iconst 2, 1) := by decide +kernel
theorem dL_law_648 : decode code 648 = .ok (.iadd, 1) := by decide +kernel
theorem dL_law_649 : decode code 649 = .ok (.iaload, 1) := by decide +kernel
theorem dL_law_650 : decode code 650 = .ok (.invokevirtual 70, 3) := by decide +kernel
theorem dL_law_653 : decode code 653 = .ok (.aload_n 2, 1) := by decide +kernel
theorem dL_law_654 : decode code 654 = .ok (.aload_n 0, 1) := by decide +kernel
theorem dL_law_655 : decode code 655 = .ok (.iload 4, 2) := by decide +kernel
theorem dL_law_657 : decode code 657 = .ok (.iconst 1, 1) := by decide +kernel
theorem dL_law_658 : decode code 658 = .ok (.iadd, 1) := by decide +kernel
theorem dL_law_659 : decode code 659 = .ok (.iaload, 1) := by decide +kernel
theorem dL_law_660 : decode code 660 = .ok (.aload_n 0, 1) := by decide +kernel
theorem dL_law_661 : decode code 661 = .ok (.iload 4, 2) := by decide +kernel
theorem dL_law_663 : decode code 663 = .ok (.iconst 2, 1) := by decide +kernel
theorem dL_law_664 : decode code 664 = .ok (.iadd, 1) := by decide +kernel
theorem dL_law_665 : decode code 665 = .ok (.iaload, 1) := by decide +kernel
theorem dL_law_666 : decode code 666 = .ok (.invokevirtual 73, 3) := by decide +kernel
theorem dL_law_669 : decode code 669 = .ok (.if_icmp .eq 1658, 3) := by decide +kernel
theorem dL_law_672 : decode code 672 = .ok (.iconst 0, 1) := by decide +kernel
theorem dL_law_673 : decode code 673 = .ok (.ireturn, 1) := by decide +kernel
theorem dL_law_674 : decode code 674 = .ok (.aload_n 1, 1) := by decide +kernel
theorem dL_law_675 : decode code 675 = .ok (.aload_n 0, 1) := by decide +kernel
theorem dL_law_676 : decode code 676 = .ok (.iload 4, 2) := by decide +kernel
theorem dL_law_678 : decode code 678 = .ok (.iconst 1, 1) := by decide +kernel
theorem dL_law_679 : decode code 679 = .ok (.iadd, 1) := by decide +kernel
theorem dL_law_680 : decode code 680 = .ok (.iaload, 1) := by decide +kernel
theorem dL_law_681 : decode code 681 = .ok (.invokevirtual 74, 3) := by decide +kernel
theorem dL_law_684 : decode code 684 = .ok (.aload_n 2, 1) := by decide +kernel
theorem dL_law_685 : decode code 685 = .ok (.aload_n 0, 1) := by decide +kernel
theorem dL_law_686 : decode code 686 = .ok (.iload 4, 2) := by decide +kernel
theorem dL_law_688 : decode code 688 = .ok (.iconst 1, 1) := by decide +kernel
theorem dL_law_689 : decode code 689 = .ok (.iadd, 1) := by decide +kernel
theorem dL_law_690 : decode code 690 = .ok (.iaload, 1) := by decide +kernel
theorem dL_law_691 : decode code 691 = .ok (.invokevirtual 77, 3) := by decide +kernel
theorem dL_law_694 : decode code 694 = .ok (.if_icmp .eq 1633, 3) := by decide +kernel
theorem dL_law_697 : decode code 697 = .ok (.iconst 0, 1) := by decide +kernel
theorem dL_law_698 : decode code 698 = .ok (.ireturn, 1) := by decide +kernel
theorem dL_law_699 : decode code 699 = .ok (.aload_n 1, 1) := by decide +kernel
theorem dL_law_700 : decode code 700 = .ok (.aload_n 0, 1) := by decide +kernel
theorem dL_law_701 : decode code 701 = .ok (.iload 4, 2) := by decide +kernel
theorem dL_law_703 : decode code 703 = .ok (.iconst 1, 1) := by decide +kernel
theorem dL_law_704 : decode code 704 = .ok (.iadd, 1) := by decide +kernel
theorem dL_law_705 : decode code 705 = .ok (.iaload, 1) := by decide +kernel
theorem dL_law_706 : decode code 706 = .ok (.aload_n 0, 1) := by decide +kernel
theorem dL_law_707 : decode code 707 = .ok (.iload 4, 2) := by decide +kernel
theorem dL_law_709 : decode code 709 = .ok (.iconst 2, 1) := by decide +kernel
theorem dL_law_710 : decode code 710 = .ok (.iadd, 1) := by decide +kernel
theorem dL_law_711 : decode code 711 = .ok (.iaload, 1) := by decide +kernel
theorem dL_law_712 : decode code 712 = .ok (.aload_n 0, 1) := by decide +kernel
theorem dL_law_713 : decode code 713 = .ok (.iload 4, 2) := by decide +kernel
theorem dL_law_715 : decode code 715 = .ok (.iconst 3, 1) := by decide +kernel
theorem dL_law_716 : decode code 716 = .ok (.iadd, 1) := by decide +kernel
theorem dL_law_717 : decode code 717 = .ok (.iaload, 1) := by decide +kernel
theorem dL_law_718 : decode code 718 = .ok (.aload_n 0, 1) := by decide +kernel
theorem dL_law_719 : decode code 719 = .ok (.iload 4, 2) := by decide +kernel
theorem dL_law_721 : decode code 721 = .ok (.iconst 4, 1) := by decide +kernel
theorem dL_law_722 : decode code 722 = .ok (.iadd, 1) := by decide +kernel
theorem dL_law_723 : decode code 723 = .ok (.iaload, 1) := by decide +kernel
theorem dL_law_724 : decode code 724 = .ok (.i2l, 1) := by decide +kernel
theorem dL_law_725 : decode code 725 = .ok (.bipush 32, 2) := by decide +kernel
theorem dL_law_727 : decode code 727 = .ok (.lshl, 1) := by decide +kernel
theorem dL_law_728 : decode code 728 = .ok (.aload_n 0, 1) := by decide +kernel
theorem dL_law_729 : decode code 729 = .ok (.iload 4, 2) := by decide +kernel
theorem dL_law_731 : decode code 731 = .ok (.iconst 5, 1) := by decide +kernel
theorem dL_law_732 : decode code 732 = .ok (.iadd, 1) := by decide +kernel
theorem dL_law_733 : decode code 733 = .ok (.iaload, 1) := by decide +kernel
theorem dL_law_734 : decode code 734 = .ok (.i2l, 1) := by decide +kernel
theorem dL_law_735 : decode code 735 = .ok (.ldc2_w 78, 3) := by decide +kernel
theorem dL_law_738 : decode code 738 = .ok (.land, 1) := by decide +kernel
theorem dL_law_739 : decode code 739 = .ok (.lor, 1) := by decide +kernel
theorem dL_law_740 : decode code 740 = .ok (.invokevirtual 80, 3) := by decide +kernel
theorem dL_law_743 : decode code 743 = .ok (.aload_n 2, 1) := by decide +kernel
theorem dL_law_744 : decode code 744 = .ok (.aload_n 0, 1) := by decide +kernel
theorem dL_law_745 : decode code 745 = .ok (.iload 4, 2) := by decide +kernel
theorem dL_law_747 : decode code 747 = .ok (.iconst 1, 1) := by decide +kernel
theorem dL_law_748 : decode code 748 = .ok (.iadd, 1) := by decide +kernel
theorem dL_law_749 : decode code 749 = .ok (.iaload, 1) := by decide +kernel
theorem dL_law_750 : decode code 750 = .ok (.aload_n 0, 1) := by decide +kernel
theorem dL_law_751 : decode code 751 = .ok (.iload 4, 2) := by decide +kernel
theorem dL_law_753 : decode code 753 = .ok (.iconst 2, 1) := by decide +kernel
theorem dL_law_754 : decode code 754 = .ok (.iadd, 1) := by decide +kernel
theorem dL_law_755 : decode code 755 = .ok (.iaload, 1) := by decide +kernel
theorem dL_law_756 : decode code 756 = .ok (.aload_n 0, 1) := by decide +kernel
theorem dL_law_757 : decode code 757 = .ok (.iload 4, 2) := by decide +kernel
theorem dL_law_759 : decode code 759 = .ok (.iconst 3, 1) := by decide +kernel
theorem dL_law_760 : decode code 760 = .ok (.iadd, 1) := by decide +kernel
theorem dL_law_761 : decode code 761 = .ok (.iaload, 1) := by decide +kernel
theorem dL_law_762 : decode code 762 = .ok (.aload_n 0, 1) := by decide +kernel
theorem dL_law_763 : decode code 763 = .ok (.iload 4, 2) := by decide +kernel
theorem dL_law_765 : decode code 765 = .ok (.iconst 4, 1) := by decide +kernel
theorem dL_law_766 : decode code 766 = .ok (.iadd, 1) := by decide +kernel
theorem dL_law_767 : decode code 767 = .ok (.iaload, 1) := by decide +kernel
theorem dL_law_768 : decode code 768 = .ok (.i2l, 1) := by decide +kernel
theorem dL_law_769 : decode code 769 = .ok (.bipush 32, 2) := by decide +kernel
theorem dL_law_771 : decode code 771 = .ok (.lshl, 1) := by decide +kernel
theorem dL_law_772 : decode code 772 = .ok (.aload_n 0, 1) := by decide +kernel
theorem dL_law_773 : decode code 773 = .ok (.iload 4, 2) := by decide +kernel
theorem dL_law_775 : decode code 775 = .ok (.iconst 5, 1) := by decide +kernel
theorem dL_law_776 : decode code 776 = .ok (.iadd, 1) := by decide +kernel
theorem dL_law_777 : decode code 777 = .ok (.iaload, 1) := by decide +kernel
theorem dL_law_778 : decode code 778 = .ok (.i2l, 1) := by decide +kernel
theorem dL_law_779 : decode code 779 = .ok (.ldc2_w 78, 3) := by decide +kernel
theorem dL_law_782 : decode code 782 = .ok (.land, 1) := by decide +kernel
theorem dL_law_783 : decode code 783 = .ok (.lor, 1) := by decide +kernel
theorem dL_law_784 : decode code 784 = .ok (.invokevirtual 84, 3) := by decide +kernel
theorem dL_law_787 : decode code 787 = .ok (.if_icmp .eq 1540, 3) := by decide +kernel
theorem dL_law_790 : decode code 790 = .ok (.iconst 0, 1) := by decide +kernel
theorem dL_law_791 : decode code 791 = .ok (.ireturn, 1) := by decide +kernel
theorem dL_law_792 : decode code 792 = .ok (.aload_n 1, 1) := by decide +kernel
theorem dL_law_793 : decode code 793 = .ok (.aload_n 0, 1) := by decide +kernel
theorem dL_law_794 : decode code 794 = .ok (.iload 4, 2) := by decide +kernel
theorem dL_law_796 : decode code 796 = .ok (.iconst 1, 1) := by decide +kernel
theorem dL_law_797 : decode code 797 = .ok (.iadd, 1) := by decide +kernel
theorem dL_law_798 : decode code 798 = .ok (.iaload, 1) := by decide +kernel
theorem dL_law_799 : decode code 799 = .ok (.aload_n 0, 1) := by decide +kernel
theorem dL_law_800 : decode code 800 = .ok (.iload 4, 2) := by decide +kernel
theorem dL_law_802 : decode code 802 = .ok (.iconst 2, 1) := by decide +kernel
theorem dL_law_803 : decode code 803 = .ok (.iadd, 1) := by decide +kernel
theorem dL_law_804 : decode code 804 = .ok (.iaload, 1) := by decide +kernel
theorem dL_law_805 : decode code 805 = .ok (.i2l, 1) := by decide +kernel
theorem dL_law_806 : decode code 806 = .ok (.bipush 32, 2) := by decide +kernel
theorem dL_law_808 : decode code 808 = .ok (.lshl, 1) := by decide +kernel
theorem dL_law_809 : decode code 809 = .ok (.aload_n 0, 1) := by decide +kernel
theorem dL_law_810 : decode code 810 = .ok (.iload 4, 2) := by decide +kernel
theorem dL_law_812 : decode code 812 = .ok (.iconst 3, 1) := by decide +kernel
theorem dL_law_813 : decode code 813 = .ok (.iadd, 1) := by decide +kernel
theorem dL_law_814 : decode code 814 = .ok (.iaload, 1) := by decide +kernel
theorem dL_law_815 : decode code 815 = .ok (.i2l, 1) := by decide +kernel
theorem dL_law_816 : decode code 816 = .ok (.ldc2_w 78, 3) := by decide +kernel
theorem dL_law_819 : decode code 819 = .ok (.land, 1) := by decide +kernel
theorem dL_law_820 : decode code 820 = .ok (.lor, 1) := by decide +kernel
theorem dL_law_821 : decode code 821 = .ok (.invokevirtual 85, 3) := by decide +kernel
theorem dL_law_824 : decode code 824 = .ok (.aload_n 2, 1) := by decide +kernel
theorem dL_law_825 : decode code 825 = .ok (.aload_n 0, 1) := by decide +kernel
theorem dL_law_826 : decode code 826 = .ok (.iload 4, 2) := by decide +kernel
theorem dL_law_828 : decode code 828 = .ok (.iconst 1, 1) := by decide +kernel
theorem dL_law_829 : decode code 829 = .ok (.iadd, 1) := by decide +kernel
theorem dL_law_830 : decode code 830 = .ok (.iaload, 1) := by decide +kernel
theorem dL_law_831 : decode code 831 = .ok (.aload_n 0, 1) := by decide +kernel
theorem dL_law_832 : decode code 832 = .ok (.iload 4, 2) := by decide +kernel
theorem dL_law_834 : decode code 834 = .ok (.iconst 2, 1) := by decide +kernel
theorem dL_law_835 : decode code 835 = .ok (.iadd, 1) := by decide +kernel
theorem dL_law_836 : decode code 836 = .ok (.iaload, 1) := by decide +kernel
theorem dL_law_837 : decode code 837 = .ok (.i2l, 1) := by decide +kernel
theorem dL_law_838 : decode code 838 = .ok (.bipush 32, 2) := by decide +kernel
theorem dL_law_840 : decode code 840 = .ok (.lshl, 1) := by decide +kernel
theorem dL_law_841 : decode code 841 = .ok (.aload_n 0, 1) := by decide +kernel
theorem dL_law_842 : decode code 842 = .ok (.iload 4, 2) := by decide +kernel
theorem dL_law_844 : decode code 844 = .ok (.iconst 3, 1) := by decide +kernel
theorem dL_law_845 : decode code 845 = .ok (.iadd, 1) := by decide +kernel
theorem dL_law_846 : decode code 846 = .ok (.iaload, 1) := by decide +kernel
theorem dL_law_847 : decode code 847 = .ok (.i2l, 1) := by decide +kernel
theorem dL_law_848 : decode code 848 = .ok (.ldc2_w 78, 3) := by decide +kernel
theorem dL_law_851 : decode code 851 = .ok (.land, 1) := by decide +kernel
theorem dL_law_852 : decode code 852 = .ok (.lor, 1) := by decide +kernel
theorem dL_law_853 : decode code 853 = .ok (.invokevirtual 89, 3) := by decide +kernel
theorem dL_law_856 : decode code 856 = .ok (.if_icmp .eq 1471, 3) := by decide +kernel
theorem dL_law_859 : decode code 859 = .ok (.iconst 0, 1) := by decide +kernel
theorem dL_law_860 : decode code 860 = .ok (.ireturn, 1) := by decide +kernel
theorem dL_law_861 : decode code 861 = .ok (.aload_n 1, 1) := by decide +kernel
theorem dL_law_862 : decode code 862 = .ok (.aload_n 0, 1) := by decide +kernel
theorem dL_law_863 : decode code 863 = .ok (.iload 4, 2) := by decide +kernel
theorem dL_law_865 : decode code 865 = .ok (.iconst 1, 1) := by decide +kernel
theorem dL_law_866 : decode code 866 = .ok (.iadd, 1) := by decide +kernel
theorem dL_law_867 : decode code 867 = .ok (.iaload, 1) := by decide +kernel
theorem dL_law_868 : decode code 868 = .ok (.aload_n 0, 1) := by decide +kernel
theorem dL_law_869 : decode code 869 = .ok (.iload 4, 2) := by decide +kernel
theorem dL_law_871 : decode code 871 = .ok (.iconst 2, 1) := by decide +kernel
theorem dL_law_872 : decode code 872 = .ok (.iadd, 1) := by decide +kernel
theorem dL_law_873 : decode code 873 = .ok (.iaload, 1) := by decide +kernel
theorem dL_law_874 : decode code 874 = .ok (.invokevirtual 90, 3) := by decide +kernel
theorem dL_law_877 : decode code 877 = .ok (.aload_n 2, 1) := by decide +kernel
theorem dL_law_878 : decode code 878 = .ok (.aload_n 0, 1) := by decide +kernel
theorem dL_law_879 : decode code 879 = .ok (.iload 4, 2) := by decide +kernel
theorem dL_law_881 : decode code 881 = .ok (.iconst 1, 1) := by decide +kernel
theorem dL_law_882 : decode code 882 = .ok (.iadd, 1) := by decide +kernel
theorem dL_law_883 : decode code 883 = .ok (.iaload, 1) := by decide +kernel
theorem dL_law_884 : decode code 884 = .ok (.aload_n 0, 1) := by decide +kernel
theorem dL_law_885 : decode code 885 = .ok (.iload 4, 2) := by decide +kernel
theorem dL_law_887 : decode code 887 = .ok (.iconst 2, 1) := by decide +kernel
theorem dL_law_888 : decode code 888 = .ok (.iadd, 1) := by decide +kernel
theorem dL_law_889 : decode code 889 = .ok (.iaload, 1) := by decide +kernel
theorem dL_law_890 : decode code 890 = .ok (.invokevirtual 93, 3) := by decide +kernel
theorem dL_law_893 : decode code 893 = .ok (.if_icmp .eq 1434, 3) := by decide +kernel
theorem dL_law_896 : decode code 896 = .ok (.iconst 0, 1) := by decide +kernel
theorem dL_law_897 : decode code 897 = .ok (.ireturn, 1) := by decide +kernel
theorem dL_law_898 : decode code 898 = .ok (.aload_n 1, 1) := by decide +kernel
theorem dL_law_899 : decode code 899 = .ok (.aload_n 0, 1) := by decide +kernel
theorem dL_law_900 : decode code 900 = .ok (.iload 4, 2) := by decide +kernel
theorem dL_law_902 : decode code 902 = .ok (.iconst 1, 1) := by decide +kernel
theorem dL_law_903 : decode code 903 = .ok (.iadd, 1) := by decide +kernel
theorem dL_law_904 : decode code 904 = .ok (.iaload, 1) := by decide +kernel
theorem dL_law_905 : decode code 905 = .ok (.aload_n 0, 1) := by decide +kernel
theorem dL_law_906 : decode code 906 = .ok (.iload 4, 2) := by decide +kernel
theorem dL_law_908 : decode code 908 = .ok (.iconst 2, 1) := by decide +kernel
theorem dL_law_909 : decode code 909 = .ok (.iadd, 1) := by decide +kernel
theorem dL_law_910 : decode code 910 = .ok (.iaload, 1) := by decide +kernel
theorem dL_law_911 : decode code 911 = .ok (.invokevirtual 94, 3) := by decide +kernel
theorem dL_law_914 : decode code 914 = .ok (.aload_n 2, 1) := by decide +kernel
theorem dL_law_915 : decode code 915 = .ok (.aload_n 0, 1) := by decide +kernel
theorem dL_law_916 : decode code 916 = .ok (.iload 4, 2) := by decide +kernel
theorem dL_law_918 : decode code 918 = .ok (.iconst 1, 1) := by decide +kernel
theorem dL_law_919 : decode code 919 = .ok (.iadd, 1) := by decide +kernel
theorem dL_law_920 : decode code 920 = .ok (.iaload, 1) := by decide +kernel
theorem dL_law_921 : decode code 921 = .ok (.aload_n 0, 1) := by decide +kernel
theorem dL_law_922 : decode code 922 = .ok (.iload 4, 2) := by decide +kernel
theorem dL_law_924 : decode code 924 = .ok (.iconst 2, 1) := by decide +kernel
theorem dL_law_925 : decode code 925 = .ok (.iadd, 1) := by decide +kernel
theorem dL_law_926 : decode code 926 = .ok (.iaload, 1) := by decide +kernel
theorem dL_law_927 : decode code 927 = .ok (.invokevirtual 97, 3) := by decide +kernel
theorem dL_law_930 : decode code 930 = .ok (.if_icmp .eq 1397, 3) := by decide +kernel
theorem dL_law_933 : decode code 933 = .ok (.iconst 0, 1) := by decide +kernel
theorem dL_law_934 : decode code 934 = .ok (.ireturn, 1) := by decide +kernel
theorem dL_law_935 : decode code 935 = .ok (.aload_n 1, 1) := by decide +kernel
theorem dL_law_936 : decode code 936 = .ok (.aload_n 0, 1) := by decide +kernel
theorem dL_law_937 : decode code 937 = .ok (.iload 4, 2) := by decide +kernel
theorem dL_law_939 : decode code 939 = .ok (.iconst 1, 1) := by decide +kernel
theorem dL_law_940 : decode code 940 = .ok (.iadd, 1) := by decide +kernel
theorem dL_law_941 : decode code 941 = .ok (.iaload, 1) := by decide +kernel
theorem dL_law_942 : decode code 942 = .ok (.aload_n 0, 1) := by decide +kernel
theorem dL_law_943 : decode code 943 = .ok (.iload 4, 2) := by decide +kernel
theorem dL_law_945 : decode code 945 = .ok (.iconst 2, 1) := by decide +kernel
theorem dL_law_946 : decode code 946 = .ok (.iadd, 1) := by decide +kernel
theorem dL_law_947 : decode code 947 = .ok (.iaload, 1) := by decide +kernel
theorem dL_law_948 : decode code 948 = .ok (.aload_n 0, 1) := by decide +kernel
theorem dL_law_949 : decode code 949 = .ok (.iload 4, 2) := by decide +kernel
theorem dL_law_951 : decode code 951 = .ok (.iconst 3, 1) := by decide +kernel
theorem dL_law_952 : decode code 952 = .ok (.iadd, 1) := by decide +kernel
theorem dL_law_953 : decode code 953 = .ok (.iaload, 1) := by decide +kernel
theorem dL_law_954 : decode code 954 = .ok (.invokevirtual 98, 3) := by decide +kernel
theorem dL_law_957 : decode code 957 = .ok (.aload_n 2, 1) := by decide +kernel
theorem dL_law_958 : decode code 958 = .ok (.aload_n 0, 1) := by decide +kernel
theorem dL_law_959 : decode code 959 = .ok (.iload 4, 2) := by decide +kernel
theorem dL_law_961 : decode code 961 = .ok (.iconst 1, 1) := by decide +kernel
theorem dL_law_962 : decode code 962 = .ok (.iadd, 1) := by decide +kernel
theorem dL_law_963 : decode code 963 = .ok (.iaload, 1) := by decide +kernel
theorem dL_law_964 : decode code 964 = .ok (.aload_n 0, 1) := by decide +kernel
theorem dL_law_965 : decode code 965 = .ok (.iload 4, 2) := by decide +kernel
theorem dL_law_967 : decode code 967 = .ok (.iconst 2, 1) := by decide +kernel
theorem dL_law_968 : decode code 968 = .ok (.iadd, 1) := by decide +kernel
theorem dL_law_969 : decode code 969 = .ok (.iaload, 1) := by decide +kernel
theorem dL_law_970 : decode code 970 = .ok (.aload_n 0, 1) := by decide +kernel
theorem dL_law_971 : decode code 971 = .ok (.iload 4, 2) := by decide +kernel
theorem dL_law_973 : decode code 973 = .ok (.iconst 3, 1) := by decide +kernel
theorem dL_law_974 : decode code 974 = .ok (.iadd, 1) := by decide +kernel
theorem dL_law_975 : decode code 975 = .ok (.iaload, 1) := by decide +kernel
theorem dL_law_976 : decode code 976 = .ok (.invokevirtual 102, 3) := by decide +kernel
theorem dL_law_979 : decode code 979 = .ok (.if_icmp .eq 1348, 3) := by decide +kernel
theorem dL_law_982 : decode code 982 = .ok (.iconst 0, 1) := by decide +kernel
theorem dL_law_983 : decode code 983 = .ok (.ireturn, 1) := by decide +kernel
theorem dL_law_984 : decode code 984 = .ok (.aload_n 1, 1) := by decide +kernel
theorem dL_law_985 : decode code 985 = .ok (.aload_n 0, 1) := by decide +kernel
theorem dL_law_986 : decode code 986 = .ok (.iload 4, 2) := by decide +kernel
theorem dL_law_988 : decode code 988 = .ok (.iconst 1, 1) := by decide +kernel
theorem dL_law_989 : decode code 989 = .ok (.iadd, 1) := by decide +kernel
theorem dL_law_990 : decode code 990 = .ok (.iaload, 1) := by decide +kernel
theorem dL_law_991 : decode code 991 = .ok (.aload_n 0, 1) := by decide +kernel
theorem dL_law_992 : decode code 992 = .ok (.iload 4, 2) := by decide +kernel
theorem dL_law_994 : decode code 994 = .ok (.iconst 2, 1) := by decide +kernel
theorem dL_law_995 : decode code 995 = .ok (.iadd, 1) := by decide +kernel
theorem dL_law_996 : decode code 996 = .ok (.iaload, 1) := by decide +kernel
theorem dL_law_997 : decode code 997 = .ok (.invokevirtual 103, 3) := by decide +kernel
theorem dL_law_1000 : decode code 1000 = .ok (.aload_n 2, 1) := by decide +kernel
theorem dL_law_1001 : decode code 1001 = .ok (.aload_n 0, 1) := by decide +kernel
theorem dL_law_1002 : decode code 1002 = .ok (.iload 4, 2) := by decide +kernel
theorem dL_law_1004 : decode code 1004 = .ok (.iconst 1, 1) := by decide +kernel
theorem dL_law_1005 : decode code 1005 = .ok (.iadd, 1) := by decide +kernel
theorem dL_law_1006 : decode code 1006 = .ok (.iaload, 1) := by decide +kernel
theorem dL_law_1007 : decode code 1007 = .ok (.aload_n 0, 1) := by decide +kernel
theorem dL_law_1008 : decode code 1008 = .ok (.iload 4, 2) := by decide +kernel
theorem dL_law_1010 : decode code 1010 = .ok (.iconst 2, 1) := by decide +kernel
theorem dL_law_1011 : decode code 1011 = .ok (.iadd, 1) := by decide +kernel
theorem dL_law_1012 : decode code 1012 = .ok (.iaload, 1) := by decide +kernel
theorem dL_law_1013 : decode code 1013 = .ok (.invokevirtual 106, 3) := by decide +kernel
theorem dL_law_1016 : decode code 1016 = .ok (.if_icmp .eq 1311, 3) := by decide +kernel
theorem dL_law_1019 : decode code 1019 = .ok (.iconst 0, 1) := by decide +kernel
theorem dL_law_1020 : decode code 1020 = .ok (.ireturn, 1) := by decide +kernel
theorem dL_law_1021 : decode code 1021 = .ok (.aload_n 1, 1) := by decide +kernel
theorem dL_law_1022 : decode code 1022 = .ok (.invokevirtual 107, 3) := by decide +kernel
theorem dL_law_1025 : decode code 1025 = .ok (.aload_n 2, 1) := by decide +kernel
theorem dL_law_1026 : decode code 1026 = .ok (.invokevirtual 110, 3) := by decide +kernel
theorem dL_law_1029 : decode code 1029 = .ok (.if_icmp .eq 1298, 3) := by decide +kernel
theorem dL_law_1032 : decode code 1032 = .ok (.iconst 0, 1) := by decide +kernel
theorem dL_law_1033 : decode code 1033 = .ok (.ireturn, 1) := by decide +kernel
theorem dL_law_1034 : decode code 1034 = .ok (.aload_n 1, 1) := by decide +kernel
theorem dL_law_1035 : decode code 1035 = .ok (.aload_n 0, 1) := by decide +kernel
theorem dL_law_1036 : decode code 1036 = .ok (.iload 4, 2) := by decide +kernel
theorem dL_law_1038 : decode code 1038 = .ok (.iconst 1, 1) := by decide +kernel
theorem dL_law_1039 : decode code 1039 = .ok (.iadd, 1) := by decide +kernel
theorem dL_law_1040 : decode code 1040 = .ok (.iaload, 1) := by decide +kernel
theorem dL_law_1041 : decode code 1041 = .ok (.aload_n 0, 1) := by decide +kernel
theorem dL_law_1042 : decode code 1042 = .ok (.iload 4, 2) := by decide +kernel
theorem dL_law_1044 : decode code 1044 = .ok (.iconst 2, 1) := by decide +kernel
theorem dL_law_1045 : decode code 1045 = .ok (.iadd, 1) := by decide +kernel
theorem dL_law_1046 : decode code 1046 = .ok (.iaload, 1) := by decide +kernel
theorem dL_law_1047 : decode code 1047 = .ok (.invokevirtual 111, 3) := by decide +kernel
theorem dL_law_1050 : decode code 1050 = .ok (.aload_n 2, 1) := by decide +kernel
theorem dL_law_1051 : decode code 1051 = .ok (.aload_n 0, 1) := by decide +kernel
theorem dL_law_1052 : decode code 1052 = .ok (.iload 4, 2) := by decide +kernel
theorem dL_law_1054 : decode code 1054 = .ok (.iconst 1, 1) := by decide +kernel
theorem dL_law_1055 : decode code 1055 = .ok (.iadd, 1) := by decide +kernel
theorem dL_law_1056 : decode code 1056 = .ok (.iaload, 1) := by decide +kernel
theorem dL_law_1057 : decode code 1057 = .ok (.aload_n 0, 1) := by decide +kernel
theorem dL_law_1058 : decode code 1058 = .ok (.iload 4, 2) := by decide +kernel
theorem dL_law_1060 : decode code 1060 = .ok (.iconst 2, 1) := by decide +kernel
theorem dL_law_1061 : decode code 1061 = .ok (.iadd, 1) := by decide +kernel
theorem dL_law_1062 : decode code 1062 = .ok (.iaload, 1) := by decide +kernel
theorem dL_law_1063 : decode code 1063 = .ok (.invokevirtual 114, 3) := by decide +kernel
theorem dL_law_1066 : decode code 1066 = .ok (.if_icmp .eq 1261, 3) := by decide +kernel
theorem dL_law_1069 : decode code 1069 = .ok (.iconst 0, 1) := by decide +kernel
theorem dL_law_1070 : decode code 1070 = .ok (.ireturn, 1) := by decide +kernel
theorem dL_law_1071 : decode code 1071 = .ok (.aload_n 1, 1) := by decide +kernel
theorem dL_law_1072 : decode code 1072 = .ok (.aload_n 0, 1) := by decide +kernel
theorem dL_law_1073 : decode code 1073 = .ok (.iload 4, 2) := by decide +kernel
theorem dL_law_1075 : decode code 1075 = .ok (.iconst 1, 1) := by decide +kernel
theorem dL_law_1076 : decode code 1076 = .ok (.iadd, 1) := by decide +kernel
theorem dL_law_1077 : decode code 1077 = .ok (.iaload, 1) := by decide +kernel
theorem dL_law_1078 : decode code 1078 = .ok (.aload_n 0, 1) := by decide +kernel
theorem dL_law_1079 : decode code 1079 = .ok (.iload 4, 2) := by decide +kernel
theorem dL_law_1081 : decode code 1081 = .ok (.iconst 2, 1) := by decide +kernel
theorem dL_law_1082 : decode code 1082 = .ok (.iadd, 1) := by decide +kernel
theorem dL_law_1083 : decode code 1083 = .ok (.iaload, 1) := by decide +kernel
theorem dL_law_1084 : decode code 1084 = .ok (.invokevirtual 115, 3) := by decide +kernel
theorem dL_law_1087 : decode code 1087 = .ok (.aload_n 2, 1) := by decide +kernel
theorem dL_law_1088 : decode code 1088 = .ok (.aload_n 0, 1) := by decide +kernel
theorem dL_law_1089 : decode code 1089 = .ok (.iload 4, 2) := by decide +kernel
theorem dL_law_1091 : decode code 1091 = .ok (.iconst 1, 1) := by decide +kernel
theorem dL_law_1092 : decode code 1092 = .ok (.iadd, 1) := by decide +kernel
theorem dL_law_1093 : decode code 1093 = .ok (.iaload, 1) := by decide +kernel
theorem dL_law_1094 : decode code 1094 = .ok (.aload_n 0, 1) := by decide +kernel
theorem dL_law_1095 : decode code 1095 = .ok (.iload 4, 2) := by decide +kernel
theorem dL_law_1097 : decode code 1097 = .ok (.iconst 2, 1) := by decide +kernel
theorem dL_law_1098 : decode code 1098 = .ok (.iadd, 1) := by decide +kernel
theorem dL_law_1099 : decode code 1099 = .ok (.iaload, 1) := by decide +kernel
theorem dL_law_1100 : decode code 1100 = .ok (.invokevirtual 119, 3) := by decide +kernel
theorem dL_law_1103 : decode code 1103 = .ok (.lcmp, 1) := by decide +kernel
theorem dL_law_1104 : decode code 1104 = .ok (.ifCond .eq 1223, 3) := by decide +kernel
theorem dL_law_1107 : decode code 1107 = .ok (.iconst 0, 1) := by decide +kernel
theorem dL_law_1108 : decode code 1108 = .ok (.ireturn, 1) := by decide +kernel
theorem dL_law_1109 : decode code 1109 = .ok (.aload_n 1, 1) := by decide +kernel
theorem dL_law_1110 : decode code 1110 = .ok (.invokevirtual 120, 3) := by decide +kernel
theorem dL_law_1113 : decode code 1113 = .ok (.aload_n 2, 1) := by decide +kernel
theorem dL_law_1114 : decode code 1114 = .ok (.invokevirtual 123, 3) := by decide +kernel
theorem dL_law_1117 : decode code 1117 = .ok (.if_icmp .eq 1210, 3) := by decide +kernel
theorem dL_law_1120 : decode code 1120 = .ok (.iconst 0, 1) := by decide +kernel
theorem dL_law_1121 : decode code 1121 = .ok (.ireturn, 1) := by decide +kernel
theorem dL_law_1122 : decode code 1122 = .ok (.aload_n 1, 1) := by decide +kernel
theorem dL_law_1123 : decode code 1123 = .ok (.invokevirtual 124, 3) := by decide +kernel
theorem dL_law_1126 : decode code 1126 = .ok (.aload_n 2, 1) := by decide +kernel
theorem dL_law_1127 : decode code 1127 = .ok (.invokevirtual 127, 3) := by decide +kernel
theorem dL_law_1130 : decode code 1130 = .ok (.if_icmp .eq 1197, 3) := by decide +kernel
theorem dL_law_1133 : decode code 1133 = .ok (.iconst 0, 1) := by decide +kernel
theorem dL_law_1134 : decode code 1134 = .ok (.ireturn, 1) := by decide +kernel
theorem dL_law_1135 : decode code 1135 = .ok (.aload_n 1, 1) := by decide +kernel
theorem dL_law_1136 : decode code 1136 = .ok (.aload_n 0, 1) := by decide +kernel
theorem dL_law_1137 : decode code 1137 = .ok (.iload 4, 2) := by decide +kernel
theorem dL_law_1139 : decode code 1139 = .ok (.iconst 1, 1) := by decide +kernel
theorem dL_law_1140 : decode code 1140 = .ok (.iadd, 1) := by decide +kernel
theorem dL_law_1141 : decode code 1141 = .ok (.iaload, 1) := by decide +kernel
theorem dL_law_1142 : decode code 1142 = .ok (.aload_n 0, 1) := by decide +kernel
theorem dL_law_1143 : decode code 1143 = .ok (.iload 4, 2) := by decide +kernel
theorem dL_law_1145 : decode code 1145 = .ok (.iconst 2, 1) := by decide +kernel
theorem dL_law_1146 : decode code 1146 = .ok (.iadd, 1) := by decide +kernel
theorem dL_law_1147 : decode code 1147 = .ok (.iaload, 1) := by decide +kernel
theorem dL_law_1148 : decode code 1148 = .ok (.invokevirtual 128, 3) := by decide +kernel
theorem dL_law_1151 : decode code 1151 = .ok (.aload_n 2, 1) := by decide +kernel
theorem dL_law_1152 : decode code 1152 = .ok (.aload_n 0, 1) := by decide +kernel
theorem dL_law_1153 : decode code 1153 = .ok (.iload 4, 2) := by decide +kernel
theorem dL_law_1155 : decode code 1155 = .ok (.iconst 1, 1) := by decide +kernel
theorem dL_law_1156 : decode code 1156 = .ok (.iadd, 1) := by decide +kernel
theorem dL_law_1157 : decode code 1157 = .ok (.iaload, 1) := by decide +kernel
theorem dL_law_1158 : decode code 1158 = .ok (.aload_n 0, 1) := by decide +kernel
theorem dL_law_1159 : decode code 1159 = .ok (.iload 4, 2) := by decide +kernel
theorem dL_law_1161 : decode code 1161 = .ok (.iconst 2, 1) := by decide +kernel
theorem dL_law_1162 : decode code 1162 = .ok (.iadd, 1) := by decide +kernel
theorem dL_law_1163 : decode code 1163 = .ok (.iaload, 1) := by decide +kernel
theorem dL_law_1164 : decode code 1164 = .ok (.invokevirtual 131, 3) := by decide +kernel
theorem dL_law_1167 : decode code 1167 = .ok (.if_icmp .eq 1160, 3) := by decide +kernel
theorem dL_law_1170 : decode code 1170 = .ok (.iconst 0, 1) := by decide +kernel
theorem dL_law_1171 : decode code 1171 = .ok (.ireturn, 1) := by decide +kernel
theorem dL_law_1172 : decode code 1172 = .ok (.aload_n 1, 1) := by decide +kernel
theorem dL_law_1173 : decode code 1173 = .ok (.aload_n 0, 1) := by decide +kernel
theorem dL_law_1174 : decode code 1174 = .ok (.iload 4, 2) := by decide +kernel
theorem dL_law_1176 : decode code 1176 = .ok (.iconst 1, 1) := by decide +kernel
theorem dL_law_1177 : decode code 1177 = .ok (.iadd, 1) := by decide +kernel
theorem dL_law_1178 : decode code 1178 = .ok (.iaload, 1) := by decide +kernel
theorem dL_law_1179 : decode code 1179 = .ok (.aload_n 0, 1) := by decide +kernel
theorem dL_law_1180 : decode code 1180 = .ok (.iload 4, 2) := by decide +kernel
theorem dL_law_1182 : decode code 1182 = .ok (.iconst 2, 1) := by decide +kernel
theorem dL_law_1183 : decode code 1183 = .ok (.iadd, 1) := by decide +kernel
theorem dL_law_1184 : decode code 1184 = .ok (.iaload, 1) := by decide +kernel
theorem dL_law_1185 : decode code 1185 = .ok (.aload_n 0, 1) := by decide +kernel
theorem dL_law_1186 : decode code 1186 = .ok (.iload 4, 2) := by decide +kernel
theorem dL_law_1188 : decode code 1188 = .ok (.iconst 3, 1) := by decide +kernel
theorem dL_law_1189 : decode code 1189 = .ok (.iadd, 1) := by decide +kernel
theorem dL_law_1190 : decode code 1190 = .ok (.iaload, 1) := by decide +kernel
theorem dL_law_1191 : decode code 1191 = .ok (.ifCond .eq 7, 3) := by decide +kernel
theorem dL_law_1194 : decode code 1194 = .ok (.iconst 1, 1) := by decide +kernel
theorem dL_law_1195 : decode code 1195 = .ok (.goto 4, 3) := by decide +kernel
theorem dL_law_1198 : decode code 1198 = .ok (.iconst 0, 1) := by decide +kernel
theorem dL_law_1199 : decode code 1199 = .ok (.invokevirtual 132, 3) := by decide +kernel
theorem dL_law_1202 : decode code 1202 = .ok (.aload_n 2, 1) := by decide +kernel
theorem dL_law_1203 : decode code 1203 = .ok (.aload_n 0, 1) := by decide +kernel
theorem dL_law_1204 : decode code 1204 = .ok (.iload 4, 2) := by decide +kernel
theorem dL_law_1206 : decode code 1206 = .ok (.iconst 1, 1) := by decide +kernel
theorem dL_law_1207 : decode code 1207 = .ok (.iadd, 1) := by decide +kernel
theorem dL_law_1208 : decode code 1208 = .ok (.iaload, 1) := by decide +kernel
theorem dL_law_1209 : decode code 1209 = .ok (.aload_n 0, 1) := by decide +kernel
theorem dL_law_1210 : decode code 1210 = .ok (.iload 4, 2) := by decide +kernel
theorem dL_law_1212 : decode code 1212 = .ok (.iconst 2, 1) := by decide +kernel
theorem dL_law_1213 : decode code 1213 = .ok (.iadd, 1) := by decide +kernel
theorem dL_law_1214 : decode code 1214 = .ok (.iaload, 1) := by decide +kernel
theorem dL_law_1215 : decode code 1215 = .ok (.aload_n 0, 1) := by decide +kernel
theorem dL_law_1216 : decode code 1216 = .ok (.iload 4, 2) := by decide +kernel
theorem dL_law_1218 : decode code 1218 = .ok (.iconst 3, 1) := by decide +kernel
theorem dL_law_1219 : decode code 1219 = .ok (.iadd, 1) := by decide +kernel
theorem dL_law_1220 : decode code 1220 = .ok (.iaload, 1) := by decide +kernel
theorem dL_law_1221 : decode code 1221 = .ok (.ifCond .eq 7, 3) := by decide +kernel
theorem dL_law_1224 : decode code 1224 = .ok (.iconst 1, 1) := by decide +kernel
theorem dL_law_1225 : decode code 1225 = .ok (.goto 4, 3) := by decide +kernel
theorem dL_law_1228 : decode code 1228 = .ok (.iconst 0, 1) := by decide +kernel
theorem dL_law_1229 : decode code 1229 = .ok (.invokevirtual 136, 3) := by decide +kernel
theorem dL_law_1232 : decode code 1232 = .ok (.if_icmp .eq 1095, 3) := by decide +kernel
theorem dL_law_1235 : decode code 1235 = .ok (.iconst 0, 1) := by decide +kernel
theorem dL_law_1236 : decode code 1236 = .ok (.ireturn, 1) := by decide +kernel
theorem dL_law_1237 : decode code 1237 = .ok (.aload_n 1, 1) := by decide +kernel
theorem dL_law_1238 : decode code 1238 = .ok (.aload_n 0, 1) := by decide +kernel
theorem dL_law_1239 : decode code 1239 = .ok (.iload 4, 2) := by decide +kernel
theorem dL_law_1241 : decode code 1241 = .ok (.iconst 1, 1) := by decide +kernel
theorem dL_law_1242 : decode code 1242 = .ok (.iadd, 1) := by decide +kernel
theorem dL_law_1243 : decode code 1243 = .ok (.iaload, 1) := by decide +kernel
theorem dL_law_1244 : decode code 1244 = .ok (.aload_n 0, 1) := by decide +kernel
theorem dL_law_1245 : decode code 1245 = .ok (.iload 4, 2) := by decide +kernel
theorem dL_law_1247 : decode code 1247 = .ok (.iconst 2, 1) := by decide +kernel
theorem dL_law_1248 : decode code 1248 = .ok (.iadd, 1) := by decide +kernel
theorem dL_law_1249 : decode code 1249 = .ok (.iaload, 1) := by decide +kernel
theorem dL_law_1250 : decode code 1250 = .ok (.aload_n 0, 1) := by decide +kernel
theorem dL_law_1251 : decode code 1251 = .ok (.iload 4, 2) := by decide +kernel
theorem dL_law_1253 : decode code 1253 = .ok (.iconst 3, 1) := by decide +kernel
theorem dL_law_1254 : decode code 1254 = .ok (.iadd, 1) := by decide +kernel
theorem dL_law_1255 : decode code 1255 = .ok (.iaload, 1) := by decide +kernel
theorem dL_law_1256 : decode code 1256 = .ok (.ifCond .eq 7, 3) := by decide +kernel
theorem dL_law_1259 : decode code 1259 = .ok (.iconst 1, 1) := by decide +kernel
theorem dL_law_1260 : decode code 1260 = .ok (.goto 4, 3) := by decide +kernel
theorem dL_law_1263 : decode code 1263 = .ok (.iconst 0, 1) := by decide +kernel
theorem dL_law_1264 : decode code 1264 = .ok (.invokevirtual 137, 3) := by decide +kernel
theorem dL_law_1267 : decode code 1267 = .ok (.aload_n 2, 1) := by decide +kernel
theorem dL_law_1268 : decode code 1268 = .ok (.aload_n 0, 1) := by decide +kernel
theorem dL_law_1269 : decode code 1269 = .ok (.iload 4, 2) := by decide +kernel
theorem dL_law_1271 : decode code 1271 = .ok (.iconst 1, 1) := by decide +kernel
theorem dL_law_1272 : decode code 1272 = .ok (.iadd, 1) := by decide +kernel
theorem dL_law_1273 : decode code 1273 = .ok (.iaload, 1) := by decide +kernel
theorem dL_law_1274 : decode code 1274 = .ok (.aload_n 0, 1) := by decide +kernel
theorem dL_law_1275 : decode code 1275 = .ok (.iload 4, 2) := by decide +kernel
theorem dL_law_1277 : decode code 1277 = .ok (.iconst 2, 1) := by decide +kernel
theorem dL_law_1278 : decode code 1278 = .ok (.iadd, 1) := by decide +kernel
theorem dL_law_1279 : decode code 1279 = .ok (.iaload, 1) := by decide +kernel
theorem dL_law_1280 : decode code 1280 = .ok (.aload_n 0, 1) := by decide +kernel
theorem dL_law_1281 : decode code 1281 = .ok (.iload 4, 2) := by decide +kernel
theorem dL_law_1283 : decode code 1283 = .ok (.iconst 3, 1) := by decide +kernel
theorem dL_law_1284 : decode code 1284 = .ok (.iadd, 1) := by decide +kernel
theorem dL_law_1285 : decode code 1285 = .ok (.iaload, 1) := by decide +kernel
theorem dL_law_1286 : decode code 1286 = .ok (.ifCond .eq 7, 3) := by decide +kernel
theorem dL_law_1289 : decode code 1289 = .ok (.iconst 1, 1) := by decide +kernel
theorem dL_law_1290 : decode code 1290 = .ok (.goto 4, 3) := by decide +kernel
theorem dL_law_1293 : decode code 1293 = .ok (.iconst 0, 1) := by decide +kernel
theorem dL_law_1294 : decode code 1294 = .ok (.invokevirtual 141, 3) := by decide +kernel
theorem dL_law_1297 : decode code 1297 = .ok (.if_icmp .eq 1030, 3) := by decide +kernel
theorem dL_law_1300 : decode code 1300 = .ok (.iconst 0, 1) := by decide +kernel
theorem dL_law_1301 : decode code 1301 = .ok (.ireturn, 1) := by decide +kernel
theorem dL_law_1302 : decode code 1302 = .ok (.aload_n 1, 1) := by decide +kernel
theorem dL_law_1303 : decode code 1303 = .ok (.aload_n 0, 1) := by decide +kernel
theorem dL_law_1304 : decode code 1304 = .ok (.iload 4, 2) := by decide +kernel
theorem dL_law_1306 : decode code 1306 = .ok (.iconst 1, 1) := by decide +kernel
theorem dL_law_1307 : decode code 1307 = .ok (.iadd, 1) := by decide +kernel
theorem dL_law_1308 : decode code 1308 = .ok (.iaload, 1) := by decide +kernel
theorem dL_law_1309 : decode code 1309 = .ok (.aload_n 0, 1) := by decide +kernel
theorem dL_law_1310 : decode code 1310 = .ok (.iload 4, 2) := by decide +kernel
theorem dL_law_1312 : decode code 1312 = .ok (.iconst 2, 1) := by decide +kernel
theorem dL_law_1313 : decode code 1313 = .ok (.iadd, 1) := by decide +kernel
theorem dL_law_1314 : decode code 1314 = .ok (.iaload, 1) := by decide +kernel
theorem dL_law_1315 : decode code 1315 = .ok (.aload_n 0, 1) := by decide +kernel
theorem dL_law_1316 : decode code 1316 = .ok (.iload 4, 2) := by decide +kernel
theorem dL_law_1318 : decode code 1318 = .ok (.iconst 3, 1) := by decide +kernel
theorem dL_law_1319 : decode code 1319 = .ok (.iadd, 1) := by decide +kernel
theorem dL_law_1320 : decode code 1320 = .ok (.iaload, 1) := by decide +kernel
theorem dL_law_1321 : decode code 1321 = .ok (.ifCond .eq 7, 3) := by decide +kernel
theorem dL_law_1324 : decode code 1324 = .ok (.iconst 1, 1) := by decide +kernel
theorem dL_law_1325 : decode code 1325 = .ok (.goto 4, 3) := by decide +kernel
theorem dL_law_1328 : decode code 1328 = .ok (.iconst 0, 1) := by decide +kernel
theorem dL_law_1329 : decode code 1329 = .ok (.invokevirtual 142, 3) := by decide +kernel
theorem dL_law_1332 : decode code 1332 = .ok (.aload_n 2, 1) := by decide +kernel
theorem dL_law_1333 : decode code 1333 = .ok (.aload_n 0, 1) := by decide +kernel
theorem dL_law_1334 : decode code 1334 = .ok (.iload 4, 2) := by decide +kernel
theorem dL_law_1336 : decode code 1336 = .ok (.iconst 1, 1) := by decide +kernel
theorem dL_law_1337 : decode code 1337 = .ok (.iadd, 1) := by decide +kernel
theorem dL_law_1338 : decode code 1338 = .ok (.iaload, 1) := by decide +kernel
theorem dL_law_1339 : decode code 1339 = .ok (.aload_n 0, 1) := by decide +kernel
theorem dL_law_1340 : decode code 1340 = .ok (.iload 4, 2) := by decide +kernel
theorem dL_law_1342 : decode code 1342 = .ok (.iconst 2, 1) := by decide +kernel
theorem dL_law_1343 : decode code 1343 = .ok (.iadd, 1) := by decide +kernel
theorem dL_law_1344 : decode code 1344 = .ok (.iaload, 1) := by decide +kernel
theorem dL_law_1345 : decode code 1345 = .ok (.aload_n 0, 1) := by decide +kernel
theorem dL_law_1346 : decode code 1346 = .ok (.iload 4, 2) := by decide +kernel
theorem dL_law_1348 : decode code 1348 = .ok (.iconst 3, 1) := by decide +kernel
theorem dL_law_1349 : decode code 1349 = .ok (.iadd, 1) := by decide +kernel
theorem dL_law_1350 : decode code 1350 = .ok (.iaload, 1) := by decide +kernel
theorem dL_law_1351 : decode code 1351 = .ok (.ifCond .eq 7, 3) := by decide +kernel
theorem dL_law_1354 : decode code 1354 = .ok (.iconst 1, 1) := by decide +kernel
theorem dL_law_1355 : decode code 1355 = .ok (.goto 4, 3) := by decide +kernel
theorem dL_law_1358 : decode code 1358 = .ok (.iconst 0, 1) := by decide +kernel
theorem dL_law_1359 : decode code 1359 = .ok (.invokevirtual 145, 3) := by decide +kernel
theorem dL_law_1362 : decode code 1362 = .ok (.if_icmp .eq 965, 3) := by decide +kernel
theorem dL_law_1365 : decode code 1365 = .ok (.iconst 0, 1) := by decide +kernel
theorem dL_law_1366 : decode code 1366 = .ok (.ireturn, 1) := by decide +kernel
theorem dL_law_1367 : decode code 1367 = .ok (.aload_n 1, 1) := by decide +kernel
theorem dL_law_1368 : decode code 1368 = .ok (.aload_n 0, 1) := by decide +kernel
theorem dL_law_1369 : decode code 1369 = .ok (.iload 4, 2) := by decide +kernel
theorem dL_law_1371 : decode code 1371 = .ok (.iconst 1, 1) := by decide +kernel
theorem dL_law_1372 : decode code 1372 = .ok (.iadd, 1) := by decide +kernel
theorem dL_law_1373 : decode code 1373 = .ok (.iaload, 1) := by decide +kernel
theorem dL_law_1374 : decode code 1374 = .ok (.invokevirtual 146, 3) := by decide +kernel
theorem dL_law_1377 : decode code 1377 = .ok (.aload_n 2, 1) := by decide +kernel
theorem dL_law_1378 : decode code 1378 = .ok (.aload_n 0, 1) := by decide +kernel
theorem dL_law_1379 : decode code 1379 = .ok (.iload 4, 2) := by decide +kernel
theorem dL_law_1381 : decode code 1381 = .ok (.iconst 1, 1) := by decide +kernel
theorem dL_law_1382 : decode code 1382 = .ok (.iadd, 1) := by decide +kernel
theorem dL_law_1383 : decode code 1383 = .ok (.iaload, 1) := by decide +kernel
theorem dL_law_1384 : decode code 1384 = .ok (.invokevirtual 149, 3) := by decide +kernel
theorem dL_law_1387 : decode code 1387 = .ok (.if_icmp .eq 940, 3) := by decide +kernel
theorem dL_law_1390 : decode code 1390 = .ok (.iconst 0, 1) := by decide +kernel
theorem dL_law_1391 : decode code 1391 = .ok (.ireturn, 1) := by decide +kernel
theorem dL_law_1392 : decode code 1392 = .ok (.aload_n 1, 1) := by decide +kernel
theorem dL_law_1393 : decode code 1393 = .ok (.aload_n 0, 1) := by decide +kernel
theorem dL_law_1394 : decode code 1394 = .ok (.iload 4, 2) := by decide +kernel
theorem dL_law_1396 : decode code 1396 = .ok (.iconst 1, 1) := by decide +kernel
theorem dL_law_1397 : decode code 1397 = .ok (.iadd, 1) := by decide +kernel
theorem dL_law_1398 : decode code 1398 = .ok (.iaload, 1) := by decide +kernel
theorem dL_law_1399 : decode code 1399 = .ok (.aload_n 0, 1) := by decide +kernel
theorem dL_law_1400 : decode code 1400 = .ok (.iload 4, 2) := by decide +kernel
theorem dL_law_1402 : decode code 1402 = .ok (.iconst 2, 1) := by decide +kernel
theorem dL_law_1403 : decode code 1403 = .ok (.iadd, 1) := by decide +kernel
theorem dL_law_1404 : decode code 1404 = .ok (.iaload, 1) := by decide +kernel
theorem dL_law_1405 : decode code 1405 = .ok (.aload_n 0, 1) := by decide +kernel
theorem dL_law_1406 : decode code 1406 = .ok (.iload 4, 2) := by decide +kernel
theorem dL_law_1408 : decode code 1408 = .ok (.iconst 3, 1) := by decide +kernel
theorem dL_law_1409 : decode code 1409 = .ok (.iadd, 1) := by decide +kernel
theorem dL_law_1410 : decode code 1410 = .ok (.iaload, 1) := by decide +kernel
theorem dL_law_1411 : decode code 1411 = .ok (.invokevirtual 150, 3) := by decide +kernel
theorem dL_law_1414 : decode code 1414 = .ok (.aload_n 2, 1) := by decide +kernel
theorem dL_law_1415 : decode code 1415 = .ok (.aload_n 0, 1) := by decide +kernel
theorem dL_law_1416 : decode code 1416 = .ok (.iload 4, 2) := by decide +kernel
theorem dL_law_1418 : decode code 1418 = .ok (.iconst 1, 1) := by decide +kernel
theorem dL_law_1419 : decode code 1419 = .ok (.iadd, 1) := by decide +kernel
theorem dL_law_1420 : decode code 1420 = .ok (.iaload, 1) := by decide +kernel
theorem dL_law_1421 : decode code 1421 = .ok (.aload_n 0, 1) := by decide +kernel
theorem dL_law_1422 : decode code 1422 = .ok (.iload 4, 2) := by decide +kernel
theorem dL_law_1424 : decode code 1424 = .ok (.iconst 2, 1) := by decide +kernel
theorem dL_law_1425 : decode code 1425 = .ok (.iadd, 1) := by decide +kernel
theorem dL_law_1426 : decode code 1426 = .ok (.iaload, 1) := by decide +kernel
theorem dL_law_1427 : decode code 1427 = .ok (.aload_n 0, 1) := by decide +kernel
theorem dL_law_1428 : decode code 1428 = .ok (.iload 4, 2) := by decide +kernel
theorem dL_law_1430 : decode code 1430 = .ok (.iconst 3, 1) := by decide +kernel
theorem dL_law_1431 : decode code 1431 = .ok (.iadd, 1) := by decide +kernel
theorem dL_law_1432 : decode code 1432 = .ok (.iaload, 1) := by decide +kernel
theorem dL_law_1433 : decode code 1433 = .ok (.invokevirtual 153, 3) := by decide +kernel
theorem dL_law_1436 : decode code 1436 = .ok (.if_icmp .eq 891, 3) := by decide +kernel
theorem dL_law_1439 : decode code 1439 = .ok (.iconst 0, 1) := by decide +kernel
theorem dL_law_1440 : decode code 1440 = .ok (.ireturn, 1) := by decide +kernel
theorem dL_law_1441 : decode code 1441 = .ok (.aload_n 1, 1) := by decide +kernel
theorem dL_law_1442 : decode code 1442 = .ok (.aload_n 0, 1) := by decide +kernel
theorem dL_law_1443 : decode code 1443 = .ok (.iload 4, 2) := by decide +kernel
theorem dL_law_1445 : decode code 1445 = .ok (.iconst 1, 1) := by decide +kernel
theorem dL_law_1446 : decode code 1446 = .ok (.iadd, 1) := by decide +kernel
theorem dL_law_1447 : decode code 1447 = .ok (.iaload, 1) := by decide +kernel
theorem dL_law_1448 : decode code 1448 = .ok (.aload_n 0, 1) := by decide +kernel
theorem dL_law_1449 : decode code 1449 = .ok (.iload 4, 2) := by decide +kernel
theorem dL_law_1451 : decode code 1451 = .ok (.iconst 2, 1) := by decide +kernel
theorem dL_law_1452 : decode code 1452 = .ok (.iadd, 1) := by decide +kernel
theorem dL_law_1453 : decode code 1453 = .ok (.iaload, 1) := by decide +kernel
theorem dL_law_1454 : decode code 1454 = .ok (.aload_n 0, 1) := by decide +kernel
theorem dL_law_1455 : decode code 1455 = .ok (.iload 4, 2) := by decide +kernel
theorem dL_law_1457 : decode code 1457 = .ok (.iconst 3, 1) := by decide +kernel
theorem dL_law_1458 : decode code 1458 = .ok (.iadd, 1) := by decide +kernel
theorem dL_law_1459 : decode code 1459 = .ok (.iaload, 1) := by decide +kernel
theorem dL_law_1460 : decode code 1460 = .ok (.invokevirtual 154, 3) := by decide +kernel
theorem dL_law_1463 : decode code 1463 = .ok (.aload_n 2, 1) := by decide +kernel
theorem dL_law_1464 : decode code 1464 = .ok (.aload_n 0, 1) := by decide +kernel
theorem dL_law_1465 : decode code 1465 = .ok (.iload 4, 2) := by decide +kernel
theorem dL_law_1467 : decode code 1467 = .ok (.iconst 1, 1) := by decide +kernel
theorem dL_law_1468 : decode code 1468 = .ok (.iadd, 1) := by decide +kernel
theorem dL_law_1469 : decode code 1469 = .ok (.iaload, 1) := by decide +kernel
theorem dL_law_1470 : decode code 1470 = .ok (.aload_n 0, 1) := by decide +kernel
theorem dL_law_1471 : decode code 1471 = .ok (.iload 4, 2) := by decide +kernel
theorem dL_law_1473 : decode code 1473 = .ok (.iconst 2, 1) := by decide +kernel
theorem dL_law_1474 : decode code 1474 = .ok (.iadd, 1) := by decide +kernel
theorem dL_law_1475 : decode code 1475 = .ok (.iaload, 1) := by decide +kernel
theorem dL_law_1476 : decode code 1476 = .ok (.aload_n 0, 1) := by decide +kernel
theorem dL_law_1477 : decode code 1477 = .ok (.iload 4, 2) := by decide +kernel
theorem dL_law_1479 : decode code 1479 = .ok (.iconst 3, 1) := by decide +kernel
theorem dL_law_1480 : decode code 1480 = .ok (.iadd, 1) := by decide +kernel
theorem dL_law_1481 : decode code 1481 = .ok (.iaload, 1) := by decide +kernel
theorem dL_law_1482 : decode code 1482 = .ok (.invokevirtual 157, 3) := by decide +kernel
theorem dL_law_1485 : decode code 1485 = .ok (.if_icmp .eq 842, 3) := by decide +kernel
theorem dL_law_1488 : decode code 1488 = .ok (.iconst 0, 1) := by decide +kernel
theorem dL_law_1489 : decode code 1489 = .ok (.ireturn, 1) := by decide +kernel
theorem dL_law_1490 : decode code 1490 = .ok (.aload_n 1, 1) := by decide +kernel
theorem dL_law_1491 : decode code 1491 = .ok (.aload_n 0, 1) := by decide +kernel
theorem dL_law_1492 : decode code 1492 = .ok (.iload 4, 2) := by decide +kernel
theorem dL_law_1494 : decode code 1494 = .ok (.iconst 1, 1) := by decide +kernel
theorem dL_law_1495 : decode code 1495 = .ok (.iadd, 1) := by decide +kernel
theorem dL_law_1496 : decode code 1496 = .ok (.iaload, 1) := by decide +kernel
theorem dL_law_1497 : decode code 1497 = .ok (.invokevirtual 158, 3) := by decide +kernel
theorem dL_law_1500 : decode code 1500 = .ok (.aload_n 2, 1) := by decide +kernel
theorem dL_law_1501 : decode code 1501 = .ok (.aload_n 0, 1) := by decide +kernel
theorem dL_law_1502 : decode code 1502 = .ok (.iload 4, 2) := by decide +kernel
theorem dL_law_1504 : decode code 1504 = .ok (.iconst 1, 1) := by decide +kernel
theorem dL_law_1505 : decode code 1505 = .ok (.iadd, 1) := by decide +kernel
theorem dL_law_1506 : decode code 1506 = .ok (.iaload, 1) := by decide +kernel
theorem dL_law_1507 : decode code 1507 = .ok (.invokevirtual 161, 3) := by decide +kernel
theorem dL_law_1510 : decode code 1510 = .ok (.if_icmp .eq 817, 3) := by decide +kernel
theorem dL_law_1513 : decode code 1513 = .ok (.iconst 0, 1) := by decide +kernel
theorem dL_law_1514 : decode code 1514 = .ok (.ireturn, 1) := by decide +kernel
theorem dL_law_1515 : decode code 1515 = .ok (.aload_n 1, 1) := by decide +kernel
theorem dL_law_1516 : decode code 1516 = .ok (.aload_n 0, 1) := by decide +kernel
theorem dL_law_1517 : decode code 1517 = .ok (.iload 4, 2) := by decide +kernel
theorem dL_law_1519 : decode code 1519 = .ok (.iconst 1, 1) := by decide +kernel
theorem dL_law_1520 : decode code 1520 = .ok (.iadd, 1) := by decide +kernel
theorem dL_law_1521 : decode code 1521 = .ok (.iaload, 1) := by decide +kernel
theorem dL_law_1522 : decode code 1522 = .ok (.aload_n 0, 1) := by decide +kernel
theorem dL_law_1523 : decode code 1523 = .ok (.iload 4, 2) := by decide +kernel
theorem dL_law_1525 : decode code 1525 = .ok (.iconst 2, 1) := by decide +kernel
theorem dL_law_1526 : decode code 1526 = .ok (.iadd, 1) := by decide +kernel
theorem dL_law_1527 : decode code 1527 = .ok (.iaload, 1) := by decide +kernel
theorem dL_law_1528 : decode code 1528 = .ok (.aload_n 0, 1) := by decide +kernel
theorem dL_law_1529 : decode code 1529 = .ok (.iload 4, 2) := by decide +kernel
theorem dL_law_1531 : decode code 1531 = .ok (.iconst 3, 1) := by decide +kernel
theorem dL_law_1532 : decode code 1532 = .ok (.iadd, 1) := by decide +kernel
theorem dL_law_1533 : decode code 1533 = .ok (.iaload, 1) := by decide +kernel
theorem dL_law_1534 : decode code 1534 = .ok (.aload_n 0, 1) := by decide +kernel
theorem dL_law_1535 : decode code 1535 = .ok (.iload 4, 2) := by decide +kernel
theorem dL_law_1537 : decode code 1537 = .ok (.iconst 4, 1) := by decide +kernel
theorem dL_law_1538 : decode code 1538 = .ok (.iadd, 1) := by decide +kernel
theorem dL_law_1539 : decode code 1539 = .ok (.iaload, 1) := by decide +kernel
theorem dL_law_1540 : decode code 1540 = .ok (.invokevirtual 162, 3) := by decide +kernel
theorem dL_law_1543 : decode code 1543 = .ok (.aload_n 2, 1) := by decide +kernel
theorem dL_law_1544 : decode code 1544 = .ok (.aload_n 0, 1) := by decide +kernel
theorem dL_law_1545 : decode code 1545 = .ok (.iload 4, 2) := by decide +kernel
theorem dL_law_1547 : decode code 1547 = .ok (.iconst 1, 1) := by decide +kernel
theorem dL_law_1548 : decode code 1548 = .ok (.iadd, 1) := by decide +kernel
theorem dL_law_1549 : decode code 1549 = .ok (.iaload, 1) := by decide +kernel
theorem dL_law_1550 : decode code 1550 = .ok (.aload_n 0, 1) := by decide +kernel
theorem dL_law_1551 : decode code 1551 = .ok (.iload 4, 2) := by decide +kernel
theorem dL_law_1553 : decode code 1553 = .ok (.iconst 2, 1) := by decide +kernel
theorem dL_law_1554 : decode code 1554 = .ok (.iadd, 1) := by decide +kernel
theorem dL_law_1555 : decode code 1555 = .ok (.iaload, 1) := by decide +kernel
theorem dL_law_1556 : decode code 1556 = .ok (.aload_n 0, 1) := by decide +kernel
theorem dL_law_1557 : decode code 1557 = .ok (.iload 4, 2) := by decide +kernel
theorem dL_law_1559 : decode code 1559 = .ok (.iconst 3, 1) := by decide +kernel
theorem dL_law_1560 : decode code 1560 = .ok (.iadd, 1) := by decide +kernel
theorem dL_law_1561 : decode code 1561 = .ok (.iaload, 1) := by decide +kernel
theorem dL_law_1562 : decode code 1562 = .ok (.aload_n 0, 1) := by decide +kernel
theorem dL_law_1563 : decode code 1563 = .ok (.iload 4, 2) := by decide +kernel
theorem dL_law_1565 : decode code 1565 = .ok (.iconst 4, 1) := by decide +kernel
theorem dL_law_1566 : decode code 1566 = .ok (.iadd, 1) := by decide +kernel
theorem dL_law_1567 : decode code 1567 = .ok (.iaload, 1) := by decide +kernel
theorem dL_law_1568 : decode code 1568 = .ok (.invokevirtual 166, 3) := by decide +kernel
theorem dL_law_1571 : decode code 1571 = .ok (.if_icmp .eq 756, 3) := by decide +kernel
theorem dL_law_1574 : decode code 1574 = .ok (.iconst 0, 1) := by decide +kernel
theorem dL_law_1575 : decode code 1575 = .ok (.ireturn, 1) := by decide +kernel
theorem dL_law_1576 : decode code 1576 = .ok (.aload_n 1, 1) := by decide +kernel
theorem dL_law_1577 : decode code 1577 = .ok (.aload_n 0, 1) := by decide +kernel
theorem dL_law_1578 : decode code 1578 = .ok (.iload 4, 2) := by decide +kernel
theorem dL_law_1580 : decode code 1580 = .ok (.iconst 1, 1) := by decide +kernel
theorem dL_law_1581 : decode code 1581 = .ok (.iadd, 1) := by decide +kernel
theorem dL_law_1582 : decode code 1582 = .ok (.iaload, 1) := by decide +kernel
theorem dL_law_1583 : decode code 1583 = .ok (.aload_n 0, 1) := by decide +kernel
theorem dL_law_1584 : decode code 1584 = .ok (.iload 4, 2) := by decide +kernel
theorem dL_law_1586 : decode code 1586 = .ok (.iconst 2, 1) := by decide +kernel
theorem dL_law_1587 : decode code 1587 = .ok (.iadd, 1) := by decide +kernel
theorem dL_law_1588 : decode code 1588 = .ok (.iaload, 1) := by decide +kernel
theorem dL_law_1589 : decode code 1589 = .ok (.ifCond .eq 7, 3) := by decide +kernel
theorem dL_law_1592 : decode code 1592 = .ok (.iconst 1, 1) := by decide +kernel
theorem dL_law_1593 : decode code 1593 = .ok (.goto 4, 3) := by decide +kernel
theorem dL_law_1596 : decode code 1596 = .ok (.iconst 0, 1) := by decide +kernel
theorem dL_law_1597 : decode code 1597 = .ok (.invokevirtual 167, 3) := by decide +kernel
theorem dL_law_1600 : decode code 1600 = .ok (.aload_n 2, 1) := by decide +kernel
theorem dL_law_1601 : decode code 1601 = .ok (.aload_n 0, 1) := by decide +kernel
theorem dL_law_1602 : decode code 1602 = .ok (.iload 4, 2) := by decide +kernel
theorem dL_law_1604 : decode code 1604 = .ok (.iconst 1, 1) := by decide +kernel
theorem dL_law_1605 : decode code 1605 = .ok (.iadd, 1) := by decide +kernel
theorem dL_law_1606 : decode code 1606 = .ok (.iaload, 1) := by decide +kernel
theorem dL_law_1607 : decode code 1607 = .ok (.aload_n 0, 1) := by decide +kernel
theorem dL_law_1608 : decode code 1608 = .ok (.iload 4, 2) := by decide +kernel
theorem dL_law_1610 : decode code 1610 = .ok (.iconst 2, 1) := by decide +kernel
theorem dL_law_1611 : decode code 1611 = .ok (.iadd, 1) := by decide +kernel
theorem dL_law_1612 : decode code 1612 = .ok (.iaload, 1) := by decide +kernel
theorem dL_law_1613 : decode code 1613 = .ok (.ifCond .eq 7, 3) := by decide +kernel
theorem dL_law_1616 : decode code 1616 = .ok (.iconst 1, 1) := by decide +kernel
theorem dL_law_1617 : decode code 1617 = .ok (.goto 4, 3) := by decide +kernel
theorem dL_law_1620 : decode code 1620 = .ok (.iconst 0, 1) := by decide +kernel
theorem dL_law_1621 : decode code 1621 = .ok (.invokevirtual 171, 3) := by decide +kernel
theorem dL_law_1624 : decode code 1624 = .ok (.if_icmp .eq 703, 3) := by decide +kernel
theorem dL_law_1627 : decode code 1627 = .ok (.iconst 0, 1) := by decide +kernel
theorem dL_law_1628 : decode code 1628 = .ok (.ireturn, 1) := by decide +kernel
theorem dL_law_1629 : decode code 1629 = .ok (.aload_n 1, 1) := by decide +kernel
theorem dL_law_1630 : decode code 1630 = .ok (.aload_n 0, 1) := by decide +kernel
theorem dL_law_1631 : decode code 1631 = .ok (.iload 4, 2) := by decide +kernel
theorem dL_law_1633 : decode code 1633 = .ok (.iconst 1, 1) := by decide +kernel
theorem dL_law_1634 : decode code 1634 = .ok (.iadd, 1) := by decide +kernel
theorem dL_law_1635 : decode code 1635 = .ok (.iaload, 1) := by decide +kernel
theorem dL_law_1636 : decode code 1636 = .ok (.aload_n 0, 1) := by decide +kernel
theorem dL_law_1637 : decode code 1637 = .ok (.iload 4, 2) := by decide +kernel
theorem dL_law_1639 : decode code 1639 = .ok (.iconst 2, 1) := by decide +kernel
theorem dL_law_1640 : decode code 1640 = .ok (.iadd, 1) := by decide +kernel
theorem dL_law_1641 : decode code 1641 = .ok (.iaload, 1) := by decide +kernel
theorem dL_law_1642 : decode code 1642 = .ok (.aload_n 0, 1) := by decide +kernel
theorem dL_law_1643 : decode code 1643 = .ok (.iload 4, 2) := by decide +kernel
theorem dL_law_1645 : decode code 1645 = .ok (.iconst 3, 1) := by decide +kernel
theorem dL_law_1646 : decode code 1646 = .ok (.iadd, 1) := by decide +kernel
theorem dL_law_1647 : decode code 1647 = .ok (.iaload, 1) := by decide +kernel
theorem dL_law_1648 : decode code 1648 = .ok (.aload_n 0, 1) := by decide +kernel
theorem dL_law_1649 : decode code 1649 = .ok (.iload 4, 2) := by decide +kernel
theorem dL_law_1651 : decode code 1651 = .ok (.iconst 4, 1) := by decide +kernel
theorem dL_law_1652 : decode code 1652 = .ok (.iadd, 1) := by decide +kernel
theorem dL_law_1653 : decode code 1653 = .ok (.iaload, 1) := by decide +kernel
theorem dL_law_1654 : decode code 1654 = .ok (.i2l, 1) := by decide +kernel
theorem dL_law_1655 : decode code 1655 = .ok (.bipush 32, 2) := by decide +kernel
theorem dL_law_1657 : decode code 1657 = .ok (.lshl, 1) := by decide +kernel
theorem dL_law_1658 : decode code 1658 = .ok (.aload_n 0, 1) := by decide +kernel
theorem dL_law_1659 : decode code 1659 = .ok (.iload 4, 2) := by decide +kernel
theorem dL_law_1661 : decode code 1661 = .ok (.iconst 5, 1) := by decide +kernel
theorem dL_law_1662 : decode code 1662 = .ok (.iadd, 1) := by decide +kernel
theorem dL_law_1663 : decode code 1663 = .ok (.iaload, 1) := by decide +kernel
theorem dL_law_1664 : decode code 1664 = .ok (.i2l, 1) := by decide +kernel
theorem dL_law_1665 : decode code 1665 = .ok (.ldc2_w 78, 3) := by decide +kernel
theorem dL_law_1668 : decode code 1668 = .ok (.land, 1) := by decide +kernel
theorem dL_law_1669 : decode code 1669 = .ok (.lor, 1) := by decide +kernel
theorem dL_law_1670 : decode code 1670 = .ok (.invokevirtual 172, 3) := by decide +kernel
theorem dL_law_1673 : decode code 1673 = .ok (.aload_n 2, 1) := by decide +kernel
theorem dL_law_1674 : decode code 1674 = .ok (.aload_n 0, 1) := by decide +kernel
theorem dL_law_1675 : decode code 1675 = .ok (.iload 4, 2) := by decide +kernel
theorem dL_law_1677 : decode code 1677 = .ok (.iconst 1, 1) := by decide +kernel
theorem dL_law_1678 : decode code 1678 = .ok (.iadd, 1) := by decide +kernel
theorem dL_law_1679 : decode code 1679 = .ok (.iaload, 1) := by decide +kernel
theorem dL_law_1680 : decode code 1680 = .ok (.aload_n 0, 1) := by decide +kernel
theorem dL_law_1681 : decode code 1681 = .ok (.iload 4, 2) := by decide +kernel
theorem dL_law_1683 : decode code 1683 = .ok (.iconst 2, 1) := by decide +kernel
theorem dL_law_1684 : decode code 1684 = .ok (.iadd, 1) := by decide +kernel
theorem dL_law_1685 : decode code 1685 = .ok (.iaload, 1) := by decide +kernel
theorem dL_law_1686 : decode code 1686 = .ok (.aload_n 0, 1) := by decide +kernel
theorem dL_law_1687 : decode code 1687 = .ok (.iload 4, 2) := by decide +kernel
theorem dL_law_1689 : decode code 1689 = .ok (.iconst 3, 1) := by decide +kernel
theorem dL_law_1690 : decode code 1690 = .ok (.iadd, 1) := by decide +kernel
theorem dL_law_1691 : decode code 1691 = .ok (.iaload, 1) := by decide +kernel
theorem dL_law_1692 : decode code 1692 = .ok (.aload_n 0, 1) := by decide +kernel
theorem dL_law_1693 : decode code 1693 = .ok (.iload 4, 2) := by decide +kernel
theorem dL_law_1695 : decode code 1695 = .ok (.iconst 4, 1) := by decide +kernel
theorem dL_law_1696 : decode code 1696 = .ok (.iadd, 1) := by decide +kernel
theorem dL_law_1697 : decode code 1697 = .ok (.iaload, 1) := by decide +kernel
theorem dL_law_1698 : decode code 1698 = .ok (.i2l, 1) := by decide +kernel
theorem dL_law_1699 : decode code 1699 = .ok (.bipush 32, 2) := by decide +kernel
theorem dL_law_1701 : decode code 1701 = .ok (.lshl, 1) := by decide +kernel
theorem dL_law_1702 : decode code 1702 = .ok (.aload_n 0, 1) := by decide +kernel
theorem dL_law_1703 : decode code 1703 = .ok (.iload 4, 2) := by decide +kernel
theorem dL_law_1705 : decode code 1705 = .ok (.iconst 5, 1) := by decide +kernel
theorem dL_law_1706 : decode code 1706 = .ok (.iadd, 1) := by decide +kernel
theorem dL_law_1707 : decode code 1707 = .ok (.iaload, 1) := by decide +kernel
theorem dL_law_1708 : decode code 1708 = .ok (.i2l, 1) := by decide +kernel
theorem dL_law_1709 : decode code 1709 = .ok (.ldc2_w 78, 3) := by decide +kernel
theorem dL_law_1712 : decode code 1712 = .ok (.land, 1) := by decide +kernel
theorem dL_law_1713 : decode code 1713 = .ok (.lor, 1) := by decide +kernel
theorem dL_law_1714 : decode code 1714 = .ok (.invokevirtual 175, 3) := by decide +kernel
theorem dL_law_1717 : decode code 1717 = .ok (.if_icmp .eq 610, 3) := by decide +kernel
theorem dL_law_1720 : decode code 1720 = .ok (.iconst 0, 1) := by decide +kernel
theorem dL_law_1721 : decode code 1721 = .ok (.ireturn, 1) := by decide +kernel
theorem dL_law_1722 : decode code 1722 = .ok (.aload_n 1, 1) := by decide +kernel
theorem dL_law_1723 : decode code 1723 = .ok (.aload_n 0, 1) := by decide +kernel
theorem dL_law_1724 : decode code 1724 = .ok (.iload 4, 2) := by decide +kernel
theorem dL_law_1726 : decode code 1726 = .ok (.iconst 1, 1) := by decide +kernel
theorem dL_law_1727 : decode code 1727 = .ok (.iadd, 1) := by decide +kernel
theorem dL_law_1728 : decode code 1728 = .ok (.iaload, 1) := by decide +kernel
theorem dL_law_1729 : decode code 1729 = .ok (.aload_n 0, 1) := by decide +kernel
theorem dL_law_1730 : decode code 1730 = .ok (.iload 4, 2) := by decide +kernel
theorem dL_law_1732 : decode code 1732 = .ok (.iconst 2, 1) := by decide +kernel
theorem dL_law_1733 : decode code 1733 = .ok (.iadd, 1) := by decide +kernel
theorem dL_law_1734 : decode code 1734 = .ok (.iaload, 1) := by decide +kernel
theorem dL_law_1735 : decode code 1735 = .ok (.invokevirtual 176, 3) := by decide +kernel
theorem dL_law_1738 : decode code 1738 = .ok (.aload_n 2, 1) := by decide +kernel
theorem dL_law_1739 : decode code 1739 = .ok (.aload_n 0, 1) := by decide +kernel
theorem dL_law_1740 : decode code 1740 = .ok (.iload 4, 2) := by decide +kernel
theorem dL_law_1742 : decode code 1742 = .ok (.iconst 1, 1) := by decide +kernel
theorem dL_law_1743 : decode code 1743 = .ok (.iadd, 1) := by decide +kernel
theorem dL_law_1744 : decode code 1744 = .ok (.iaload, 1) := by decide +kernel
theorem dL_law_1745 : decode code 1745 = .ok (.aload_n 0, 1) := by decide +kernel
theorem dL_law_1746 : decode code 1746 = .ok (.iload 4, 2) := by decide +kernel
theorem dL_law_1748 : decode code 1748 = .ok (.iconst 2, 1) := by decide +kernel
theorem dL_law_1749 : decode code 1749 = .ok (.iadd, 1) := by decide +kernel
theorem dL_law_1750 : decode code 1750 = .ok (.iaload, 1) := by decide +kernel
theorem dL_law_1751 : decode code 1751 = .ok (.invokevirtual 179, 3) := by decide +kernel
theorem dL_law_1754 : decode code 1754 = .ok (.if_icmp .eq 573, 3) := by decide +kernel
theorem dL_law_1757 : decode code 1757 = .ok (.iconst 0, 1) := by decide +kernel
theorem dL_law_1758 : decode code 1758 = .ok (.ireturn, 1) := by decide +kernel
theorem dL_law_1759 : decode code 1759 = .ok (.aload_n 1, 1) := by decide +kernel
theorem dL_law_1760 : decode code 1760 = .ok (.aload_n 0, 1) := by decide +kernel
theorem dL_law_1761 : decode code 1761 = .ok (.iload 4, 2) := by decide +kernel
theorem dL_law_1763 : decode code 1763 = .ok (.iconst 1, 1) := by decide +kernel
theorem dL_law_1764 : decode code 1764 = .ok (.iadd, 1) := by decide +kernel
theorem dL_law_1765 : decode code 1765 = .ok (.iaload, 1) := by decide +kernel
theorem dL_law_1766 : decode code 1766 = .ok (.aload_n 0, 1) := by decide +kernel
theorem dL_law_1767 : decode code 1767 = .ok (.iload 4, 2) := by decide +kernel
theorem dL_law_1769 : decode code 1769 = .ok (.iconst 2, 1) := by decide +kernel
theorem dL_law_1770 : decode code 1770 = .ok (.iadd, 1) := by decide +kernel
theorem dL_law_1771 : decode code 1771 = .ok (.iaload, 1) := by decide +kernel
theorem dL_law_1772 : decode code 1772 = .ok (.aload_n 0, 1) := by decide +kernel
theorem dL_law_1773 : decode code 1773 = .ok (.iload 4, 2) := by decide +kernel
theorem dL_law_1775 : decode code 1775 = .ok (.iconst 3, 1) := by decide +kernel
theorem dL_law_1776 : decode code 1776 = .ok (.iadd, 1) := by decide +kernel
theorem dL_law_1777 : decode code 1777 = .ok (.iaload, 1) := by decide +kernel
theorem dL_law_1778 : decode code 1778 = .ok (.aload_n 0, 1) := by decide +kernel
theorem dL_law_1779 : decode code 1779 = .ok (.iload 4, 2) := by decide +kernel
theorem dL_law_1781 : decode code 1781 = .ok (.iconst 4, 1) := by decide +kernel
theorem dL_law_1782 : decode code 1782 = .ok (.iadd, 1) := by decide +kernel
theorem dL_law_1783 : decode code 1783 = .ok (.iaload, 1) := by decide +kernel
theorem dL_law_1784 : decode code 1784 = .ok (.invokevirtual 180, 3) := by decide +kernel
theorem dL_law_1787 : decode code 1787 = .ok (.aload_n 2, 1) := by decide +kernel
theorem dL_law_1788 : decode code 1788 = .ok (.aload_n 0, 1) := by decide +kernel
theorem dL_law_1789 : decode code 1789 = .ok (.iload 4, 2) := by decide +kernel
theorem dL_law_1791 : decode code 1791 = .ok (.iconst 1, 1) := by decide +kernel
theorem dL_law_1792 : decode code 1792 = .ok (.iadd, 1) := by decide +kernel
theorem dL_law_1793 : decode code 1793 = .ok (.iaload, 1) := by decide +kernel
theorem dL_law_1794 : decode code 1794 = .ok (.aload_n 0, 1) := by decide +kernel
theorem dL_law_1795 : decode code 1795 = .ok (.iload 4, 2) := by decide +kernel
theorem dL_law_1797 : decode code 1797 = .ok (.iconst 2, 1) := by decide +kernel
theorem dL_law_1798 : decode code 1798 = .ok (.iadd, 1) := by decide +kernel
theorem dL_law_1799 : decode code 1799 = .ok (.iaload, 1) := by decide +kernel
theorem dL_law_1800 : decode code 1800 = .ok (.aload_n 0, 1) := by decide +kernel
theorem dL_law_1801 : decode code 1801 = .ok (.iload 4, 2) := by decide +kernel
theorem dL_law_1803 : decode code 1803 = .ok (.iconst 3, 1) := by decide +kernel
theorem dL_law_1804 : decode code 1804 = .ok (.iadd, 1) := by decide +kernel
theorem dL_law_1805 : decode code 1805 = .ok (.iaload, 1) := by decide +kernel
theorem dL_law_1806 : decode code 1806 = .ok (.aload_n 0, 1) := by decide +kernel
theorem dL_law_1807 : decode code 1807 = .ok (.iload 4, 2) := by decide +kernel
theorem dL_law_1809 : decode code 1809 = .ok (.iconst 4, 1) := by decide +kernel
theorem dL_law_1810 : decode code 1810 = .ok (.iadd, 1) := by decide +kernel
theorem dL_law_1811 : decode code 1811 = .ok (.iaload, 1) := by decide +kernel
theorem dL_law_1812 : decode code 1812 = .ok (.invokevirtual 183, 3) := by decide +kernel
theorem dL_law_1815 : decode code 1815 = .ok (.if_icmp .eq 512, 3) := by decide +kernel
theorem dL_law_1818 : decode code 1818 = .ok (.iconst 0, 1) := by decide +kernel
theorem dL_law_1819 : decode code 1819 = .ok (.ireturn, 1) := by decide +kernel
theorem dL_law_1820 : decode code 1820 = .ok (.aload_n 1, 1) := by decide +kernel
theorem dL_law_1821 : decode code 1821 = .ok (.aload_n 0, 1) := by decide +kernel
theorem dL_law_1822 : decode code 1822 = .ok (.iload 4, 2) := by decide +kernel
theorem dL_law_1824 : decode code 1824 = .ok (.iconst 1, 1) := by decide +kernel
theorem dL_law_1825 : decode code 1825 = .ok (.iadd, 1) := by decide +kernel
theorem dL_law_1826 : decode code 1826 = .ok (.iaload, 1) := by decide +kernel
theorem dL_law_1827 : decode code 1827 = .ok (.aload_n 0, 1) := by decide +kernel
theorem dL_law_1828 : decode code 1828 = .ok (.iload 4, 2) := by decide +kernel
theorem dL_law_1830 : decode code 1830 = .ok (.iconst 2, 1) := by decide +kernel
theorem dL_law_1831 : decode code 1831 = .ok (.iadd, 1) := by decide +kernel
theorem dL_law_1832 : decode code 1832 = .ok (.iaload, 1) := by decide +kernel
theorem dL_law_1833 : decode code 1833 = .ok (.invokevirtual 184, 3) := by decide +kernel
theorem dL_law_1836 : decode code 1836 = .ok (.aload_n 2, 1) := by decide +kernel
theorem dL_law_1837 : decode code 1837 = .ok (.aload_n 0, 1) := by decide +kernel
theorem dL_law_1838 : decode code 1838 = .ok (.iload 4, 2) := by decide +kernel
theorem dL_law_1840 : decode code 1840 = .ok (.iconst 1, 1) := by decide +kernel
theorem dL_law_1841 : decode code 1841 = .ok (.iadd, 1) := by decide +kernel
theorem dL_law_1842 : decode code 1842 = .ok (.iaload, 1) := by decide +kernel
theorem dL_law_1843 : decode code 1843 = .ok (.aload_n 0, 1) := by decide +kernel
theorem dL_law_1844 : decode code 1844 = .ok (.iload 4, 2) := by decide +kernel
theorem dL_law_1846 : decode code 1846 = .ok (.iconst 2, 1) := by decide +kernel
theorem dL_law_1847 : decode code 1847 = .ok (.iadd, 1) := by decide +kernel
theorem dL_law_1848 : decode code 1848 = .ok (.iaload, 1) := by decide +kernel
theorem dL_law_1849 : decode code 1849 = .ok (.invokevirtual 187, 3) := by decide +kernel
theorem dL_law_1852 : decode code 1852 = .ok (.if_icmp .eq 475, 3) := by decide +kernel
theorem dL_law_1855 : decode code 1855 = .ok (.iconst 0, 1) := by decide +kernel
theorem dL_law_1856 : decode code 1856 = .ok (.ireturn, 1) := by decide +kernel
theorem dL_law_1857 : decode code 1857 = .ok (.aload_n 1, 1) := by decide +kernel
theorem dL_law_1858 : decode code 1858 = .ok (.aload_n 0, 1) := by decide +kernel
theorem dL_law_1859 : decode code 1859 = .ok (.iload 4, 2) := by decide +kernel
theorem dL_law_1861 : decode code 1861 = .ok (.iconst 1, 1) := by decide +kernel
theorem dL_law_1862 : decode code 1862 = .ok (.iadd, 1) := by decide +kernel
theorem dL_law_1863 : decode code 1863 = .ok (.iaload, 1) := by decide +kernel
theorem dL_law_1864 : decode code 1864 = .ok (.invokevirtual 188, 3) := by decide +kernel
theorem dL_law_1867 : decode code 1867 = .ok (.aload_n 2, 1) := by decide +kernel
theorem dL_law_1868 : decode code 1868 = .ok (.aload_n 0, 1) := by decide +kernel
theorem dL_law_1869 : decode code 1869 = .ok (.iload 4, 2) := by decide +kernel
theorem dL_law_1871 : decode code 1871 = .ok (.iconst 1, 1) := by decide +kernel
theorem dL_law_1872 : decode code 1872 = .ok (.iadd, 1) := by decide +kernel
theorem dL_law_1873 : decode code 1873 = .ok (.iaload, 1) := by decide +kernel
theorem dL_law_1874 : decode code 1874 = .ok (.invokevirtual 191, 3) := by decide +kernel
theorem dL_law_1877 : decode code 1877 = .ok (.if_icmp .eq 450, 3) := by decide +kernel
theorem dL_law_1880 : decode code 1880 = .ok (.iconst 0, 1) := by decide +kernel
theorem dL_law_1881 : decode code 1881 = .ok (.ireturn, 1) := by decide +kernel
theorem dL_law_1882 : decode code 1882 = .ok (.aload_n 1, 1) := by decide +kernel
theorem dL_law_1883 : decode code 1883 = .ok (.aload_n 0, 1) := by decide +kernel
theorem dL_law_1884 : decode code 1884 = .ok (.iload 4, 2) := by decide +kernel
theorem dL_law_1886 : decode code 1886 = .ok (.iconst 1, 1) := by decide +kernel
theorem dL_law_1887 : decode code 1887 = .ok (.iadd, 1) := by decide +kernel
theorem dL_law_1888 : decode code 1888 = .ok (.iaload, 1) := by decide +kernel
theorem dL_law_1889 : decode code 1889 = .ok (.aload_n 0, 1) := by decide +kernel
theorem dL_law_1890 : decode code 1890 = .ok (.iload 4, 2) := by decide +kernel
theorem dL_law_1892 : decode code 1892 = .ok (.iconst 2, 1) := by decide +kernel
theorem dL_law_1893 : decode code 1893 = .ok (.iadd, 1) := by decide +kernel
theorem dL_law_1894 : decode code 1894 = .ok (.iaload, 1) := by decide +kernel
theorem dL_law_1895 : decode code 1895 = .ok (.invokevirtual 192, 3) := by decide +kernel
theorem dL_law_1898 : decode code 1898 = .ok (.aload_n 2, 1) := by decide +kernel
theorem dL_law_1899 : decode code 1899 = .ok (.aload_n 0, 1) := by decide +kernel
theorem dL_law_1900 : decode code 1900 = .ok (.iload 4, 2) := by decide +kernel
theorem dL_law_1902 : decode code 1902 = .ok (.iconst 1, 1) := by decide +kernel
theorem dL_law_1903 : decode code 1903 = .ok (.iadd, 1) := by decide +kernel
theorem dL_law_1904 : decode code 1904 = .ok (.iaload, 1) := by decide +kernel
theorem dL_law_1905 : decode code 1905 = .ok (.aload_n 0, 1) := by decide +kernel
theorem dL_law_1906 : decode code 1906 = .ok (.iload 4, 2) := by decide +kernel
theorem dL_law_1908 : decode code 1908 = .ok (.iconst 2, 1) := by decide +kernel
theorem dL_law_1909 : decode code 1909 = .ok (.iadd, 1) := by decide +kernel
theorem dL_law_1910 : decode code 1910 = .ok (.iaload, 1) := by decide +kernel
theorem dL_law_1911 : decode code 1911 = .ok (.invokevirtual 195, 3) := by decide +kernel
theorem dL_law_1914 : decode code 1914 = .ok (.if_icmp .eq 413, 3) := by decide +kernel
theorem dL_law_1917 : decode code 1917 = .ok (.iconst 0, 1) := by decide +kernel
theorem dL_law_1918 : decode code 1918 = .ok (.ireturn, 1) := by decide +kernel
theorem dL_law_1919 : decode code 1919 = .ok (.aload_n 1, 1) := by decide +kernel
theorem dL_law_1920 : decode code 1920 = .ok (.aload_n 0, 1) := by decide +kernel
theorem dL_law_1921 : decode code 1921 = .ok (.iload 4, 2) := by decide +kernel
theorem dL_law_1923 : decode code 1923 = .ok (.iconst 1, 1) := by decide +kernel
theorem dL_law_1924 : decode code 1924 = .ok (.iadd, 1) := by decide +kernel
theorem dL_law_1925 : decode code 1925 = .ok (.iaload, 1) := by decide +kernel
theorem dL_law_1926 : decode code 1926 = .ok (.aload_n 0, 1) := by decide +kernel
theorem dL_law_1927 : decode code 1927 = .ok (.iload 4, 2) := by decide +kernel
theorem dL_law_1929 : decode code 1929 = .ok (.iconst 2, 1) := by decide +kernel
theorem dL_law_1930 : decode code 1930 = .ok (.iadd, 1) := by decide +kernel
theorem dL_law_1931 : decode code 1931 = .ok (.iaload, 1) := by decide +kernel
theorem dL_law_1932 : decode code 1932 = .ok (.aload_n 0, 1) := by decide +kernel
theorem dL_law_1933 : decode code 1933 = .ok (.iload 4, 2) := by decide +kernel
theorem dL_law_1935 : decode code 1935 = .ok (.iconst 3, 1) := by decide +kernel
theorem dL_law_1936 : decode code 1936 = .ok (.iadd, 1) := by decide +kernel
theorem dL_law_1937 : decode code 1937 = .ok (.iaload, 1) := by decide +kernel
theorem dL_law_1938 : decode code 1938 = .ok (.aload_n 0, 1) := by decide +kernel
theorem dL_law_1939 : decode code 1939 = .ok (.iload 4, 2) := by decide +kernel
theorem dL_law_1941 : decode code 1941 = .ok (.iconst 4, 1) := by decide +kernel
theorem dL_law_1942 : decode code 1942 = .ok (.iadd, 1) := by decide +kernel
theorem dL_law_1943 : decode code 1943 = .ok (.iaload, 1) := by decide +kernel
theorem dL_law_1944 : decode code 1944 = .ok (.aload_n 0, 1) := by decide +kernel
theorem dL_law_1945 : decode code 1945 = .ok (.iload 4, 2) := by decide +kernel
theorem dL_law_1947 : decode code 1947 = .ok (.iconst 5, 1) := by decide +kernel
theorem dL_law_1948 : decode code 1948 = .ok (.iadd, 1) := by decide +kernel
theorem dL_law_1949 : decode code 1949 = .ok (.iaload, 1) := by decide +kernel
theorem dL_law_1950 : decode code 1950 = .ok (.invokevirtual 196, 3) := by decide +kernel
theorem dL_law_1953 : decode code 1953 = .ok (.aload_n 2, 1) := by decide +kernel
theorem dL_law_1954 : decode code 1954 = .ok (.aload_n 0, 1) := by decide +kernel
theorem dL_law_1955 : decode code 1955 = .ok (.iload 4, 2) := by decide +kernel
theorem dL_law_1957 : decode code 1957 = .ok (.iconst 1, 1) := by decide +kernel
theorem dL_law_1958 : decode code 1958 = .ok (.iadd, 1) := by decide +kernel
theorem dL_law_1959 : decode code 1959 = .ok (.iaload, 1) := by decide +kernel
theorem dL_law_1960 : decode code 1960 = .ok (.aload_n 0, 1) := by decide +kernel
theorem dL_law_1961 : decode code 1961 = .ok (.iload 4, 2) := by decide +kernel
theorem dL_law_1963 : decode code 1963 = .ok (.iconst 2, 1) := by decide +kernel
theorem dL_law_1964 : decode code 1964 = .ok (.iadd, 1) := by decide +kernel
theorem dL_law_1965 : decode code 1965 = .ok (.iaload, 1) := by decide +kernel
theorem dL_law_1966 : decode code 1966 = .ok (.aload_n 0, 1) := by decide +kernel
theorem dL_law_1967 : decode code 1967 = .ok (.iload 4, 2) := by decide +kernel
theorem dL_law_1969 : decode code 1969 = .ok (.iconst 3, 1) := by decide +kernel
theorem dL_law_1970 : decode code 1970 = .ok (.iadd, 1) := by decide +kernel
theorem dL_law_1971 : decode code 1971 = .ok (.iaload, 1) := by decide +kernel
theorem dL_law_1972 : decode code 1972 = .ok (.aload_n 0, 1) := by decide +kernel
theorem dL_law_1973 : decode code 1973 = .ok (.iload 4, 2) := by decide +kernel
theorem dL_law_1975 : decode code 1975 = .ok (.iconst 4, 1) := by decide +kernel
theorem dL_law_1976 : decode code 1976 = .ok (.iadd, 1) := by decide +kernel
theorem dL_law_1977 : decode code 1977 = .ok (.iaload, 1) := by decide +kernel
theorem dL_law_1978 : decode code 1978 = .ok (.aload_n 0, 1) := by decide +kernel
theorem dL_law_1979 : decode code 1979 = .ok (.iload 4, 2) := by decide +kernel
theorem dL_law_1981 : decode code 1981 = .ok (.iconst 5, 1) := by decide +kernel
theorem dL_law_1982 : decode code 1982 = .ok (.iadd, 1) := by decide +kernel
theorem dL_law_1983 : decode code 1983 = .ok (.iaload, 1) := by decide +kernel
theorem dL_law_1984 : decode code 1984 = .ok (.invokevirtual 199, 3) := by decide +kernel
theorem dL_law_1987 : decode code 1987 = .ok (.if_icmp .eq 340, 3) := by decide +kernel
theorem dL_law_1990 : decode code 1990 = .ok (.iconst 0, 1) := by decide +kernel
theorem dL_law_1991 : decode code 1991 = .ok (.ireturn, 1) := by decide +kernel
theorem dL_law_1992 : decode code 1992 = .ok (.aload_n 1, 1) := by decide +kernel
theorem dL_law_1993 : decode code 1993 = .ok (.aload_n 0, 1) := by decide +kernel
theorem dL_law_1994 : decode code 1994 = .ok (.iload 4, 2) := by decide +kernel
theorem dL_law_1996 : decode code 1996 = .ok (.iconst 1, 1) := by decide +kernel
theorem dL_law_1997 : decode code 1997 = .ok (.iadd, 1) := by decide +kernel
theorem dL_law_1998 : decode code 1998 = .ok (.iaload, 1) := by decide +kernel
theorem dL_law_1999 : decode code 1999 = .ok (.aload_n 0, 1) := by decide +kernel
theorem dL_law_2000 : decode code 2000 = .ok (.iload 4, 2) := by decide +kernel
theorem dL_law_2002 : decode code 2002 = .ok (.iconst 2, 1) := by decide +kernel
theorem dL_law_2003 : decode code 2003 = .ok (.iadd, 1) := by decide +kernel
theorem dL_law_2004 : decode code 2004 = .ok (.iaload, 1) := by decide +kernel
theorem dL_law_2005 : decode code 2005 = .ok (.aload_n 0, 1) := by decide +kernel
theorem dL_law_2006 : decode code 2006 = .ok (.iload 4, 2) := by decide +kernel
theorem dL_law_2008 : decode code 2008 = .ok (.iconst 3, 1) := by decide +kernel
theorem dL_law_2009 : decode code 2009 = .ok (.iadd, 1) := by decide +kernel
theorem dL_law_2010 : decode code 2010 = .ok (.iaload, 1) := by decide +kernel
theorem dL_law_2011 : decode code 2011 = .ok (.invokevirtual 200, 3) := by decide +kernel
theorem dL_law_2014 : decode code 2014 = .ok (.aload_n 2, 1) := by decide +kernel
theorem dL_law_2015 : decode code 2015 = .ok (.aload_n 0, 1) := by decide +kernel
theorem dL_law_2016 : decode code 2016 = .ok (.iload 4, 2) := by decide +kernel
theorem dL_law_2018 : decode code 2018 = .ok (.iconst 1, 1) := by decide +kernel
theorem dL_law_2019 : decode code 2019 = .ok (.iadd, 1) := by decide +kernel
theorem dL_law_2020 : decode code 2020 = .ok (.iaload, 1) := by decide +kernel
theorem dL_law_2021 : decode code 2021 = .ok (.aload_n 0, 1) := by decide +kernel
theorem dL_law_2022 : decode code 2022 = .ok (.iload 4, 2) := by decide +kernel
theorem dL_law_2024 : decode code 2024 = .ok (.iconst 2, 1) := by decide +kernel
theorem dL_law_2025 : decode code 2025 = .ok (.iadd, 1) := by decide +kernel
theorem dL_law_2026 : decode code 2026 = .ok (.iaload, 1) := by decide +kernel
theorem dL_law_2027 : decode code 2027 = .ok (.aload_n 0, 1) := by decide +kernel
theorem dL_law_2028 : decode code 2028 = .ok (.iload 4, 2) := by decide +kernel
theorem dL_law_2030 : decode code 2030 = .ok (.iconst 3, 1) := by decide +kernel
theorem dL_law_2031 : decode code 2031 = .ok (.iadd, 1) := by decide +kernel
theorem dL_law_2032 : decode code 2032 = .ok (.iaload, 1) := by decide +kernel
theorem dL_law_2033 : decode code 2033 = .ok (.invokevirtual 203, 3) := by decide +kernel
theorem dL_law_2036 : decode code 2036 = .ok (.if_icmp .eq 291, 3) := by decide +kernel
theorem dL_law_2039 : decode code 2039 = .ok (.iconst 0, 1) := by decide +kernel
theorem dL_law_2040 : decode code 2040 = .ok (.ireturn, 1) := by decide +kernel
theorem dL_law_2041 : decode code 2041 = .ok (.aload_n 1, 1) := by decide +kernel
theorem dL_law_2042 : decode code 2042 = .ok (.aload_n 0, 1) := by decide +kernel
theorem dL_law_2043 : decode code 2043 = .ok (.iload 4, 2) := by decide +kernel
theorem dL_law_2045 : decode code 2045 = .ok (.iconst 1, 1) := by decide +kernel
theorem dL_law_2046 : decode code 2046 = .ok (.iadd, 1) := by decide +kernel
theorem dL_law_2047 : decode code 2047 = .ok (.iaload, 1) := by decide +kernel
theorem dL_law_2048 : decode code 2048 = .ok (.invokevirtual 204, 3) := by decide +kernel
theorem dL_law_2051 : decode code 2051 = .ok (.aload_n 2, 1) := by decide +kernel
theorem dL_law_2052 : decode code 2052 = .ok (.aload_n 0, 1) := by decide +kernel
theorem dL_law_2053 : decode code 2053 = .ok (.iload 4, 2) := by decide +kernel
theorem dL_law_2055 : decode code 2055 = .ok (.iconst 1, 1) := by decide +kernel
theorem dL_law_2056 : decode code 2056 = .ok (.iadd, 1) := by decide +kernel
theorem dL_law_2057 : decode code 2057 = .ok (.iaload, 1) := by decide +kernel
theorem dL_law_2058 : decode code 2058 = .ok (.invokevirtual 207, 3) := by decide +kernel
theorem dL_law_2061 : decode code 2061 = .ok (.if_icmp .eq 266, 3) := by decide +kernel
theorem dL_law_2064 : decode code 2064 = .ok (.iconst 0, 1) := by decide +kernel
theorem dL_law_2065 : decode code 2065 = .ok (.ireturn, 1) := by decide +kernel
theorem dL_law_2066 : decode code 2066 = .ok (.aload_n 1, 1) := by decide +kernel
theorem dL_law_2067 : decode code 2067 = .ok (.aload_n 0, 1) := by decide +kernel
theorem dL_law_2068 : decode code 2068 = .ok (.iload 4, 2) := by decide +kernel
theorem dL_law_2070 : decode code 2070 = .ok (.iconst 1, 1) := by decide +kernel
theorem dL_law_2071 : decode code 2071 = .ok (.iadd, 1) := by decide +kernel
theorem dL_law_2072 : decode code 2072 = .ok (.iaload, 1) := by decide +kernel
theorem dL_law_2073 : decode code 2073 = .ok (.invokevirtual 208, 3) := by decide +kernel
theorem dL_law_2076 : decode code 2076 = .ok (.aload_n 2, 1) := by decide +kernel
theorem dL_law_2077 : decode code 2077 = .ok (.aload_n 0, 1) := by decide +kernel
theorem dL_law_2078 : decode code 2078 = .ok (.iload 4, 2) := by decide +kernel
theorem dL_law_2080 : decode code 2080 = .ok (.iconst 1, 1) := by decide +kernel
theorem dL_law_2081 : decode code 2081 = .ok (.iadd, 1) := by decide +kernel
theorem dL_law_2082 : decode code 2082 = .ok (.iaload, 1) := by decide +kernel
theorem dL_law_2083 : decode code 2083 = .ok (.invokevirtual 211, 3) := by decide +kernel
theorem dL_law_2086 : decode code 2086 = .ok (.if_icmp .eq 241, 3) := by decide +kernel
theorem dL_law_2089 : decode code 2089 = .ok (.iconst 0, 1) := by decide +kernel
theorem dL_law_2090 : decode code 2090 = .ok (.ireturn, 1) := by decide +kernel
theorem dL_law_2091 : decode code 2091 = .ok (.aload_n 1, 1) := by decide +kernel
theorem dL_law_2092 : decode code 2092 = .ok (.aload_n 0, 1) := by decide +kernel
theorem dL_law_2093 : decode code 2093 = .ok (.iload 4, 2) := by decide +kernel
theorem dL_law_2095 : decode code 2095 = .ok (.iconst 1, 1) := by decide +kernel
theorem dL_law_2096 : decode code 2096 = .ok (.iadd, 1) := by decide +kernel
theorem dL_law_2097 : decode code 2097 = .ok (.iaload, 1) := by decide +kernel
theorem dL_law_2098 : decode code 2098 = .ok (.aload_n 0, 1) := by decide +kernel
theorem dL_law_2099 : decode code 2099 = .ok (.iload 4, 2) := by decide +kernel
theorem dL_law_2101 : decode code 2101 = .ok (.iconst 2, 1) := by decide +kernel
theorem dL_law_2102 : decode code 2102 = .ok (.iadd, 1) := by decide +kernel
theorem dL_law_2103 : decode code 2103 = .ok (.iaload, 1) := by decide +kernel
theorem dL_law_2104 : decode code 2104 = .ok (.invokevirtual 212, 3) := by decide +kernel
theorem dL_law_2107 : decode code 2107 = .ok (.aload_n 2, 1) := by decide +kernel
theorem dL_law_2108 : decode code 2108 = .ok (.aload_n 0, 1) := by decide +kernel
theorem dL_law_2109 : decode code 2109 = .ok (.iload 4, 2) := by decide +kernel
theorem dL_law_2111 : decode code 2111 = .ok (.iconst 1, 1) := by decide +kernel
theorem dL_law_2112 : decode code 2112 = .ok (.iadd, 1) := by decide +kernel
theorem dL_law_2113 : decode code 2113 = .ok (.iaload, 1) := by decide +kernel
theorem dL_law_2114 : decode code 2114 = .ok (.aload_n 0, 1) := by decide +kernel
theorem dL_law_2115 : decode code 2115 = .ok (.iload 4, 2) := by decide +kernel
theorem dL_law_2117 : decode code 2117 = .ok (.iconst 2, 1) := by decide +kernel
theorem dL_law_2118 : decode code 2118 = .ok (.iadd, 1) := by decide +kernel
theorem dL_law_2119 : decode code 2119 = .ok (.iaload, 1) := by decide +kernel
theorem dL_law_2120 : decode code 2120 = .ok (.invokevirtual 215, 3) := by decide +kernel
theorem dL_law_2123 : decode code 2123 = .ok (.lcmp, 1) := by decide +kernel
theorem dL_law_2124 : decode code 2124 = .ok (.ifCond .eq 203, 3) := by decide +kernel
theorem dL_law_2127 : decode code 2127 = .ok (.iconst 0, 1) := by decide +kernel
theorem dL_law_2128 : decode code 2128 = .ok (.ireturn, 1) := by decide +kernel
theorem dL_law_2129 : decode code 2129 = .ok (.aload_n 1, 1) := by decide +kernel
theorem dL_law_2130 : decode code 2130 = .ok (.aload_n 0, 1) := by decide +kernel
theorem dL_law_2131 : decode code 2131 = .ok (.iload 4, 2) := by decide +kernel
theorem dL_law_2133 : decode code 2133 = .ok (.iconst 1, 1) := by decide +kernel
theorem dL_law_2134 : decode code 2134 = .ok (.iadd, 1) := by decide +kernel
theorem dL_law_2135 : decode code 2135 = .ok (.iaload, 1) := by decide +kernel
theorem dL_law_2136 : decode code 2136 = .ok (.aload_n 0, 1) := by decide +kernel
theorem dL_law_2137 : decode code 2137 = .ok (.iload 4, 2) := by decide +kernel
theorem dL_law_2139 : decode code 2139 = .ok (.iconst 2, 1) := by decide +kernel
theorem dL_law_2140 : decode code 2140 = .ok (.iadd, 1) := by decide +kernel
theorem dL_law_2141 : decode code 2141 = .ok (.iaload, 1) := by decide +kernel
theorem dL_law_2142 : decode code 2142 = .ok (.invokevirtual 216, 3) := by decide +kernel
theorem dL_law_2145 : decode code 2145 = .ok (.aload_n 2, 1) := by decide +kernel
theorem dL_law_2146 : decode code 2146 = .ok (.aload_n 0, 1) := by decide +kernel
theorem dL_law_2147 : decode code 2147 = .ok (.iload 4, 2) := by decide +kernel
theorem dL_law_2149 : decode code 2149 = .ok (.iconst 1, 1) := by decide +kernel
theorem dL_law_2150 : decode code 2150 = .ok (.iadd, 1) := by decide +kernel
theorem dL_law_2151 : decode code 2151 = .ok (.iaload, 1) := by decide +kernel
theorem dL_law_2152 : decode code 2152 = .ok (.aload_n 0, 1) := by decide +kernel
theorem dL_law_2153 : decode code 2153 = .ok (.iload 4, 2) := by decide +kernel
theorem dL_law_2155 : decode code 2155 = .ok (.iconst 2, 1) := by decide +kernel
theorem dL_law_2156 : decode code 2156 = .ok (.iadd, 1) := by decide +kernel
theorem dL_law_2157 : decode code 2157 = .ok (.iaload, 1) := by decide +kernel
theorem dL_law_2158 : decode code 2158 = .ok (.invokevirtual 219, 3) := by decide +kernel
theorem dL_law_2161 : decode code 2161 = .ok (.if_icmp .eq 166, 3) := by decide +kernel
theorem dL_law_2164 : decode code 2164 = .ok (.iconst 0, 1) := by decide +kernel
theorem dL_law_2165 : decode code 2165 = .ok (.ireturn, 1) := by decide +kernel
theorem dL_law_2166 : decode code 2166 = .ok (.aload_n 1, 1) := by decide +kernel
theorem dL_law_2167 : decode code 2167 = .ok (.aload_n 0, 1) := by decide +kernel
theorem dL_law_2168 : decode code 2168 = .ok (.iload 4, 2) := by decide +kernel
theorem dL_law_2170 : decode code 2170 = .ok (.iconst 1, 1) := by decide +kernel
theorem dL_law_2171 : decode code 2171 = .ok (.iadd, 1) := by decide +kernel
theorem dL_law_2172 : decode code 2172 = .ok (.iaload, 1) := by decide +kernel
theorem dL_law_2173 : decode code 2173 = .ok (.aload_n 0, 1) := by decide +kernel
theorem dL_law_2174 : decode code 2174 = .ok (.iload 4, 2) := by decide +kernel
theorem dL_law_2176 : decode code 2176 = .ok (.iconst 2, 1) := by decide +kernel
theorem dL_law_2177 : decode code 2177 = .ok (.iadd, 1) := by decide +kernel
theorem dL_law_2178 : decode code 2178 = .ok (.iaload, 1) := by decide +kernel
theorem dL_law_2179 : decode code 2179 = .ok (.invokevirtual 220, 3) := by decide +kernel
theorem dL_law_2182 : decode code 2182 = .ok (.aload_n 2, 1) := by decide +kernel
theorem dL_law_2183 : decode code 2183 = .ok (.aload_n 0, 1) := by decide +kernel
theorem dL_law_2184 : decode code 2184 = .ok (.iload 4, 2) := by decide +kernel
theorem dL_law_2186 : decode code 2186 = .ok (.iconst 1, 1) := by decide +kernel
theorem dL_law_2187 : decode code 2187 = .ok (.iadd, 1) := by decide +kernel
theorem dL_law_2188 : decode code 2188 = .ok (.iaload, 1) := by decide +kernel
theorem dL_law_2189 : decode code 2189 = .ok (.aload_n 0, 1) := by decide +kernel
theorem dL_law_2190 : decode code 2190 = .ok (.iload 4, 2) := by decide +kernel
theorem dL_law_2192 : decode code 2192 = .ok (.iconst 2, 1) := by decide +kernel
theorem dL_law_2193 : decode code 2193 = .ok (.iadd, 1) := by decide +kernel
theorem dL_law_2194 : decode code 2194 = .ok (.iaload, 1) := by decide +kernel
theorem dL_law_2195 : decode code 2195 = .ok (.invokevirtual 223, 3) := by decide +kernel
theorem dL_law_2198 : decode code 2198 = .ok (.if_icmp .eq 129, 3) := by decide +kernel
theorem dL_law_2201 : decode code 2201 = .ok (.iconst 0, 1) := by decide +kernel
theorem dL_law_2202 : decode code 2202 = .ok (.ireturn, 1) := by decide +kernel
theorem dL_law_2203 : decode code 2203 = .ok (.aload_n 1, 1) := by decide +kernel
theorem dL_law_2204 : decode code 2204 = .ok (.aload_n 0, 1) := by decide +kernel
theorem dL_law_2205 : decode code 2205 = .ok (.iload 4, 2) := by decide +kernel
theorem dL_law_2207 : decode code 2207 = .ok (.iconst 1, 1) := by decide +kernel
theorem dL_law_2208 : decode code 2208 = .ok (.iadd, 1) := by decide +kernel
theorem dL_law_2209 : decode code 2209 = .ok (.iaload, 1) := by decide +kernel
theorem dL_law_2210 : decode code 2210 = .ok (.aload_n 0, 1) := by decide +kernel
theorem dL_law_2211 : decode code 2211 = .ok (.iload 4, 2) := by decide +kernel
theorem dL_law_2213 : decode code 2213 = .ok (.iconst 2, 1) := by decide +kernel
theorem dL_law_2214 : decode code 2214 = .ok (.iadd, 1) := by decide +kernel
theorem dL_law_2215 : decode code 2215 = .ok (.iaload, 1) := by decide +kernel
theorem dL_law_2216 : decode code 2216 = .ok (.invokevirtual 224, 3) := by decide +kernel
theorem dL_law_2219 : decode code 2219 = .ok (.aload_n 2, 1) := by decide +kernel
theorem dL_law_2220 : decode code 2220 = .ok (.aload_n 0, 1) := by decide +kernel
theorem dL_law_2221 : decode code 2221 = .ok (.iload 4, 2) := by decide +kernel
theorem dL_law_2223 : decode code 2223 = .ok (.iconst 1, 1) := by decide +kernel
theorem dL_law_2224 : decode code 2224 = .ok (.iadd, 1) := by decide +kernel
theorem dL_law_2225 : decode code 2225 = .ok (.iaload, 1) := by decide +kernel
theorem dL_law_2226 : decode code 2226 = .ok (.aload_n 0, 1) := by decide +kernel
theorem dL_law_2227 : decode code 2227 = .ok (.iload 4, 2) := by decide +kernel
theorem dL_law_2229 : decode code 2229 = .ok (.iconst 2, 1) := by decide +kernel
theorem dL_law_2230 : decode code 2230 = .ok (.iadd, 1) := by decide +kernel
theorem dL_law_2231 : decode code 2231 = .ok (.iaload, 1) := by decide +kernel
theorem dL_law_2232 : decode code 2232 = .ok (.invokevirtual 227, 3) := by decide +kernel
theorem dL_law_2235 : decode code 2235 = .ok (.if_icmp .eq 92, 3) := by decide +kernel
theorem dL_law_2238 : decode code 2238 = .ok (.iconst 0, 1) := by decide +kernel
theorem dL_law_2239 : decode code 2239 = .ok (.ireturn, 1) := by decide +kernel
theorem dL_law_2240 : decode code 2240 = .ok (.aload_n 1, 1) := by decide +kernel
theorem dL_law_2241 : decode code 2241 = .ok (.aload_n 0, 1) := by decide +kernel
theorem dL_law_2242 : decode code 2242 = .ok (.iload 4, 2) := by decide +kernel
theorem dL_law_2244 : decode code 2244 = .ok (.iconst 1, 1) := by decide +kernel
theorem dL_law_2245 : decode code 2245 = .ok (.iadd, 1) := by decide +kernel
theorem dL_law_2246 : decode code 2246 = .ok (.iaload, 1) := by decide +kernel
theorem dL_law_2247 : decode code 2247 = .ok (.invokevirtual 228, 3) := by decide +kernel
theorem dL_law_2250 : decode code 2250 = .ok (.aload_n 2, 1) := by decide +kernel
theorem dL_law_2251 : decode code 2251 = .ok (.aload_n 0, 1) := by decide +kernel
theorem dL_law_2252 : decode code 2252 = .ok (.iload 4, 2) := by decide +kernel
theorem dL_law_2254 : decode code 2254 = .ok (.iconst 1, 1) := by decide +kernel
theorem dL_law_2255 : decode code 2255 = .ok (.iadd, 1) := by decide +kernel
theorem dL_law_2256 : decode code 2256 = .ok (.iaload, 1) := by decide +kernel
theorem dL_law_2257 : decode code 2257 = .ok (.invokevirtual 231, 3) := by decide +kernel
theorem dL_law_2260 : decode code 2260 = .ok (.if_icmp .eq 67, 3) := by decide +kernel
theorem dL_law_2263 : decode code 2263 = .ok (.iconst 0, 1) := by decide +kernel
theorem dL_law_2264 : decode code 2264 = .ok (.ireturn, 1) := by decide +kernel
theorem dL_law_2265 : decode code 2265 = .ok (.aload_n 1, 1) := by decide +kernel
theorem dL_law_2266 : decode code 2266 = .ok (.aload_n 0, 1) := by decide +kernel
theorem dL_law_2267 : decode code 2267 = .ok (.iload 4, 2) := by decide +kernel
theorem dL_law_2269 : decode code 2269 = .ok (.iconst 1, 1) := by decide +kernel
theorem dL_law_2270 : decode code 2270 = .ok (.iadd, 1) := by decide +kernel
theorem dL_law_2271 : decode code 2271 = .ok (.iaload, 1) := by decide +kernel
theorem dL_law_2272 : decode code 2272 = .ok (.aload_n 0, 1) := by decide +kernel
theorem dL_law_2273 : decode code 2273 = .ok (.iload 4, 2) := by decide +kernel
theorem dL_law_2275 : decode code 2275 = .ok (.iconst 2, 1) := by decide +kernel
theorem dL_law_2276 : decode code 2276 = .ok (.iadd, 1) := by decide +kernel
theorem dL_law_2277 : decode code 2277 = .ok (.iaload, 1) := by decide +kernel
theorem dL_law_2278 : decode code 2278 = .ok (.invokevirtual 232, 3) := by decide +kernel
theorem dL_law_2281 : decode code 2281 = .ok (.aload_n 2, 1) := by decide +kernel
theorem dL_law_2282 : decode code 2282 = .ok (.aload_n 0, 1) := by decide +kernel
theorem dL_law_2283 : decode code 2283 = .ok (.iload 4, 2) := by decide +kernel
theorem dL_law_2285 : decode code 2285 = .ok (.iconst 1, 1) := by decide +kernel
theorem dL_law_2286 : decode code 2286 = .ok (.iadd, 1) := by decide +kernel
theorem dL_law_2287 : decode code 2287 = .ok (.iaload, 1) := by decide +kernel
theorem dL_law_2288 : decode code 2288 = .ok (.aload_n 0, 1) := by decide +kernel
theorem dL_law_2289 : decode code 2289 = .ok (.iload 4, 2) := by decide +kernel
theorem dL_law_2291 : decode code 2291 = .ok (.iconst 2, 1) := by decide +kernel
theorem dL_law_2292 : decode code 2292 = .ok (.iadd, 1) := by decide +kernel
theorem dL_law_2293 : decode code 2293 = .ok (.iaload, 1) := by decide +kernel
theorem dL_law_2294 : decode code 2294 = .ok (.invokevirtual 235, 3) := by decide +kernel
theorem dL_law_2297 : decode code 2297 = .ok (.if_icmp .eq 30, 3) := by decide +kernel
theorem dL_law_2300 : decode code 2300 = .ok (.iconst 0, 1) := by decide +kernel
theorem dL_law_2301 : decode code 2301 = .ok (.ireturn, 1) := by decide +kernel
theorem dL_law_2302 : decode code 2302 = .ok (.aload_n 1, 1) := by decide +kernel
theorem dL_law_2303 : decode code 2303 = .ok (.aload_n 0, 1) := by decide +kernel
theorem dL_law_2304 : decode code 2304 = .ok (.iload 4, 2) := by decide +kernel
theorem dL_law_2306 : decode code 2306 = .ok (.iconst 1, 1) := by decide +kernel
theorem dL_law_2307 : decode code 2307 = .ok (.iadd, 1) := by decide +kernel
theorem dL_law_2308 : decode code 2308 = .ok (.iaload, 1) := by decide +kernel
theorem dL_law_2309 : decode code 2309 = .ok (.invokevirtual 236, 3) := by decide +kernel
theorem dL_law_2312 : decode code 2312 = .ok (.aload_n 2, 1) := by decide +kernel
theorem dL_law_2313 : decode code 2313 = .ok (.aload_n 0, 1) := by decide +kernel
theorem dL_law_2314 : decode code 2314 = .ok (.iload 4, 2) := by decide +kernel
theorem dL_law_2316 : decode code 2316 = .ok (.iconst 1, 1) := by decide +kernel
theorem dL_law_2317 : decode code 2317 = .ok (.iadd, 1) := by decide +kernel
theorem dL_law_2318 : decode code 2318 = .ok (.iaload, 1) := by decide +kernel
theorem dL_law_2319 : decode code 2319 = .ok (.invokevirtual 239, 3) := by decide +kernel
theorem dL_law_2322 : decode code 2322 = .ok (.if_icmp .eq 5, 3) := by decide +kernel
theorem dL_law_2325 : decode code 2325 = .ok (.iconst 0, 1) := by decide +kernel
theorem dL_law_2326 : decode code 2326 = .ok (.ireturn, 1) := by decide +kernel
theorem dL_law_2327 : decode code 2327 = .ok (.iinc 4 6, 3) := by decide +kernel
theorem dL_law_2330 : decode code 2330 = .ok (.goto (-2307), 3) := by decide +kernel
theorem dL_law_2333 : decode code 2333 = .ok (.iconst 1, 1) := by decide +kernel
theorem dL_law_2334 : decode code 2334 = .ok (.ireturn, 1) := by decide +kernel
