/-! the law's instructions -/
theorem dL_law_0 : decode code 0 = .ok (.new 8, 3) := by decide +kernel
theorem dL_law_3 : decode code 3 = .ok (.dup, 1) := by decide +kernel
theorem dL_law_4 : decode code 4 = .ok (.invokespecial 15, 3) := by decide +kernel
theorem dL_law_7 : decode code 7 = .ok (.astore_n 1, 1) := by decide +kernel
theorem dL_law_8 : decode code 8 = .ok (.new 16, 3) := by decide +kernel
theorem dL_law_11 : decode code 11 = .ok (.dup, 1) := by decide +kernel
theorem dL_law_12 : decode code 12 = .ok (.invokespecial 18, 3) := by decide +kernel
theorem dL_law_15 : decode code 15 = .ok (.astore_n 2, 1) := by decide +kernel
theorem dL_law_16 : decode code 16 = .ok (.iconst 1, 1) := by decide +kernel
theorem dL_law_17 : decode code 17 = .ok (.newarray .long, 2) := by decide +kernel
theorem dL_law_19 : decode code 19 = .ok (.astore_n 3, 1) := by decide +kernel
theorem dL_law_20 : decode code 20 = .ok (.iconst 0, 1) := by decide +kernel
theorem dL_law_21 : decode code 21 = .ok (.istore 4, 2) := by decide +kernel
theorem dL_law_23 : decode code 23 = .ok (.iload 4, 2) := by decide +kernel
theorem dL_law_25 : decode code 25 = .ok (.aload_n 0, 1) := by decide +kernel
theorem dL_law_26 : decode code 26 = .ok (.arraylength, 1) := by decide +kernel
theorem dL_law_27 : decode code 27 = .ok (.iconst 4, 1) := by decide +kernel
theorem dL_law_28 : decode code 28 = .ok (.isub, 1) := by decide +kernel
theorem dL_law_29 : decode code 29 = .ok (.if_icmp .gt 2116, 3) := by decide +kernel
theorem dL_law_32 : decode code 32 = .ok (.aload_n 0, 1) := by decide +kernel
theorem dL_law_33 : decode code 33 = .ok (.iload 4, 2) := by decide +kernel
theorem dL_law_35 : decode code 35 = .ok (.iaload, 1) := by decide +kernel
theorem dL_law_36 : decode code 36 = .ok (.bipush 63, 2) := by decide +kernel
theorem dL_law_38 : decode code 38 = .ok (.iand, 1) := by decide +kernel
theorem dL_law_39 : decode code 39 = .ok (.tableswitch 2100 0 60 #[257, 282, 307, 320, 345, 382, 407, 444, 469, 506, 531, 556, 593, 630, 655, 680, 717, 754, 779, 792, 841, 854, 867, 892, 917, 930, 955, 968, 981, 1006, 1031, 1080, 1117, 1154, 1203, 1252, 1289, 1326, 1363, 1400, 1449, 1474, 1511, 1536, 1585, 1634, 1659, 1684, 1721, 1758, 1783, 1808, 1857, 1882, 1931, 1956, 1969, 1982, 1995, 2020, 2045], 257) := by decide +kernel
theorem dL_law_296 : decode code 296 = .ok (.aload_n 1, 1) := by decide +kernel
theorem dL_law_297 : decode code 297 = .ok (.aload_n 0, 1) := by decide +kernel
theorem dL_law_298 : decode code 298 = .ok (.iload 4, 2) := by decide +kernel
theorem dL_law_300 : decode code 300 = .ok (.iconst 1, 1) := by decide +kernel
theorem dL_law_301 : decode code 301 = .ok (.iadd, 1) := by decide +kernel
theorem dL_law_302 : decode code 302 = .ok (.iaload, 1) := by decide +kernel
theorem dL_law_303 : decode code 303 = .ok (.invokevirtual 19, 3) := by decide +kernel
theorem dL_law_306 : decode code 306 = .ok (.aload_n 2, 1) := by decide +kernel
theorem dL_law_307 : decode code 307 = .ok (.aload_n 0, 1) := by decide +kernel
theorem dL_law_308 : decode code 308 = .ok (.iload 4, 2) := by decide +kernel
theorem dL_law_310 : decode code 310 = .ok (.iconst 1, 1) := by decide +kernel
theorem dL_law_311 : decode code 311 = .ok (.iadd, 1) := by decide +kernel
theorem dL_law_312 : decode code 312 = .ok (.iaload, 1) := by decide +kernel
theorem dL_law_313 : decode code 313 = .ok (.invokevirtual 23, 3) := by decide +kernel
theorem dL_law_316 : decode code 316 = .ok (.if_icmp .eq 1823, 3) := by decide +kernel
theorem dL_law_319 : decode code 319 = .ok (.iconst 0, 1) := by decide +kernel
theorem dL_law_320 : decode code 320 = .ok (.ireturn, 1) := by decide +kernel
theorem dL_law_321 : decode code 321 = .ok (.aload_n 1, 1) := by decide +kernel
theorem dL_law_322 : decode code 322 = .ok (.aload_n 0, 1) := by decide +kernel
theorem dL_law_323 : decode code 323 = .ok (.iload 4, 2) := by decide +kernel
theorem dL_law_325 : decode code 325 = .ok (.iconst 1, 1) := by decide +kernel
theorem dL_law_326 : decode code 326 = .ok (.iadd, 1) := by decide +kernel
theorem dL_law_327 : decode code 327 = .ok (.iaload, 1) := by decide +kernel
theorem dL_law_328 : decode code 328 = .ok (.invokevirtual 24, 3) := by decide +kernel
theorem dL_law_331 : decode code 331 = .ok (.aload_n 2, 1) := by decide +kernel
theorem dL_law_332 : decode code 332 = .ok (.aload_n 0, 1) := by decide +kernel
theorem dL_law_333 : decode code 333 = .ok (.iload 4, 2) := by decide +kernel
theorem dL_law_335 : decode code 335 = .ok (.iconst 1, 1) := by decide +kernel
theorem dL_law_336 : decode code 336 = .ok (.iadd, 1) := by decide +kernel
theorem dL_law_337 : decode code 337 = .ok (.iaload, 1) := by decide +kernel
theorem dL_law_338 : decode code 338 = .ok (.invokevirtual 28, 3) := by decide +kernel
theorem dL_law_341 : decode code 341 = .ok (.if_icmp .eq 1798, 3) := by decide +kernel
theorem dL_law_344 : decode code 344 = .ok (.iconst 0, 1) := by decide +kernel
theorem dL_law_345 : decode code 345 = .ok (.ireturn, 1) := by decide +kernel
theorem dL_law_346 : decode code 346 = .ok (.aload_n 1, 1) := by decide +kernel
theorem dL_law_347 : decode code 347 = .ok (.invokevirtual 29, 3) := by decide +kernel
theorem dL_law_350 : decode code 350 = .ok (.aload_n 2, 1) := by decide +kernel
theorem dL_law_351 : decode code 351 = .ok (.invokevirtual 33, 3) := by decide +kernel
theorem dL_law_354 : decode code 354 = .ok (.if_icmp .eq 1785, 3) := by decide +kernel
theorem dL_law_357 : decode code 357 = .ok (.iconst 0, 1) := by decide +kernel
theorem dL_law_358 : decode code 358 = .ok (.ireturn, 1) := by decide +kernel
theorem dL_law_359 : decode code 359 = .ok (.aload_n 1, 1) := by decide +kernel
theorem dL_law_360 : decode code 360 = .ok (.aload_n 0, 1) := by decide +kernel
theorem dL_law_361 : decode code 361 = .ok (.iload 4, 2) := by decide +kernel
theorem dL_law_363 : decode code 363 = .ok (.iconst 1, 1) := by decide +kernel
theorem dL_law_364 : decode code 364 = .ok (.iadd, 1) := by decide +kernel
theorem dL_law_365 : decode code 365 = .ok (.iaload, 1) := by decide +kernel
theorem dL_law_366 : decode code 366 = .ok (.invokevirtual 34, 3) := by decide +kernel
theorem dL_law_369 : decode code 369 = .ok (.aload_n 2, 1) := by decide +kernel
theorem dL_law_370 : decode code 370 = .ok (.aload_n 0, 1) := by decide +kernel
theorem dL_law_371 : decode code 371 = .ok (.iload 4, 2) := by decide +kernel
theorem dL_law_373 : decode code 373 = .ok (.iconst 1, 1) := by decide +kernel
theorem dL_law_374 : decode code 374 = .ok (.iadd, 1) := by decide +kernel
theorem dL_law_375 : decode code 375 = .ok (.iaload, 1) := by decide +kernel
theorem dL_law_376 : decode code 376 = .ok (.invokevirtual 37, 3) := by decide +kernel
theorem dL_law_379 : decode code 379 = .ok (.if_icmp .eq 1760, 3) := by decide +kernel
theorem dL_law_382 : decode code 382 = .ok (.iconst 0, 1) := by decide +kernel
theorem dL_law_383 : decode code 383 = .ok (.ireturn, 1) := by decide +kernel
theorem dL_law_384 : decode code 384 = .ok (.aload_n 1, 1) := by decide +kernel
theorem dL_law_385 : decode code 385 = .ok (.aload_n 0, 1) := by decide +kernel
theorem dL_law_386 : decode code 386 = .ok (.iload 4, 2) := by decide +kernel
theorem dL_law_388 : decode code 388 = .ok (.iconst 1, 1) := by decide +kernel
theorem dL_law_389 : decode code 389 = .ok (.iadd, 1) := by decide +kernel
theorem dL_law_390 : decode code 390 = .ok (.iaload, 1) := by decide +kernel
theorem dL_law_391 : decode code 391 = .ok (.aload_n 0, 1) := by decide +kernel
theorem dL_law_392 : decode code 392 = .ok (.iload 4, 2) := by decide +kernel
theorem dL_law_394 : decode code 394 = .ok (.iconst 2, 1) := by decide +kernel
theorem dL_law_395 : decode code 395 = .ok (.iadd, 1) := by decide +kernel
theorem dL_law_396 : decode code 396 = .ok (.iaload, 1) := by decide +kernel
theorem dL_law_397 : decode code 397 = .ok (.invokevirtual 38, 3) := by decide +kernel
theorem dL_law_400 : decode code 400 = .ok (.aload_n 2, 1) := by decide +kernel
theorem dL_law_401 : decode code 401 = .ok (.aload_n 0, 1) := by decide +kernel
theorem dL_law_402 : decode code 402 = .ok (.iload 4, 2) := by decide +kernel
theorem dL_law_404 : decode code 404 = .ok (.iconst 1, 1) := by decide +kernel
theorem dL_law_405 : decode code 405 = .ok (.iadd, 1) := by decide +kernel
theorem dL_law_406 : decode code 406 = .ok (.iaload, 1) := by decide +kernel
theorem dL_law_407 : decode code 407 = .ok (.aload_n 0, 1) := by decide +kernel
theorem dL_law_408 : decode code 408 = .ok (.iload 4, 2) := by decide +kernel
theorem dL_law_410 : decode code 410 = .ok (.iconst 2, 1) := by decide +kernel
theorem dL_law_411 : decode code 411 = .ok (.iadd, 1) := by decide +kernel
theorem dL_law_412 : decode code 412 = .ok (.iaload, 1) := by decide +kernel
theorem dL_law_413 : decode code 413 = .ok (.invokevirtual 42, 3) := by decide +kernel
theorem dL_law_416 : decode code 416 = .ok (.if_icmp .eq 1723, 3) := by decide +kernel
theorem dL_law_419 : decode code 419 = .ok (.iconst 0, 1) := by decide +kernel
theorem dL_law_420 : decode code 420 = .ok (.ireturn, 1) := by decide +kernel
theorem dL_law_421 : decode code 421 = .ok (.aload_n 1, 1) := by decide +kernel
theorem dL_law_422 : decode code 422 = .ok (.aload_n 0, 1) := by decide +kernel
theorem dL_law_423 : decode code 423 = .ok (.iload 4, 2) := by decide +kernel
theorem dL_law_425 : decode code 425 = .ok (.iconst 1, 1) := by decide +kernel
theorem dL_law_426 : decode code 426 = .ok (.iadd, 1) := by decide +kernel
theorem dL_law_427 : decode code 427 = .ok (.iaload, 1) := by decide +kernel
theorem dL_law_428 : decode code 428 = .ok (.invokevirtual 43, 3) := by decide +kernel
theorem dL_law_431 : decode code 431 = .ok (.aload_n 2, 1) := by decide +kernel
theorem dL_law_432 : decode code 432 = .ok (.aload_n 0, 1) := by decide +kernel
theorem dL_law_433 : decode code 433 = .ok (.iload 4, 2) := by decide +kernel
theorem dL_law_435 : decode code 435 = .ok (.iconst 1, 1) := by decide +kernel
theorem dL_law_436 : decode code 436 = .ok (.iadd, 1) := by decide +kernel
theorem dL_law_437 : decode code 437 = .ok (.iaload, 1) := by decide +kernel
theorem dL_law_438 : decode code 438 = .ok (.invokevirtual 46, 3) := by decide +kernel
theorem dL_law_441 : decode code 441 = .ok (.if_icmp .eq 1698, 3) := by decide +kernel
theorem dL_law_444 : decode code 444 = .ok (.iconst 0, 1) := by decide +kernel
theorem dL_law_445 : decode code 445 = .ok (.ireturn, 1) := by decide +kernel
theorem dL_law_446 : decode code 446 = .ok (.aload_n 1, 1) := by decide +kernel
theorem dL_law_447 : decode code 447 = .ok (.aload_n 0, 1) := by decide +kernel
theorem dL_law_448 : decode code 448 = .ok (.iload 4, 2) := by decide +kernel
theorem dL_law_450 : decode code 450 = .ok (.iconst 1, 1) := by decide +kernel
theorem dL_law_451 : decode code 451 = .ok (.iadd, 1) := by decide +kernel
theorem dL_law_452 : decode code 452 = .ok (.iaload, 1) := by decide +kernel
theorem dL_law_453 : decode code 453 = .ok (.aload_n 0, 1) := by decide +kernel
theorem dL_law_454 : decode code 454 = .ok (.iload 4, 2) := by decide +kernel
theorem dL_law_456 : decode code 456 = .ok (.iconst 2, 1) := by decide +kernel
theorem dL_law_457 : decode code 457 = .ok (.iadd, 1) := by decide +kernel
theorem dL_law_458 : decode code 458 = .ok (.iaload, 1) := by decide +kernel
theorem dL_law_459 : decode code 459 = .ok (.invokevirtual 47, 3) := by decide +kernel
theorem dL_law_462 : decode code 462 = .ok (.aload_n 2, 1) := by decide +kernel
theorem dL_law_463 : decode code 463 = .ok (.aload_n 0, 1) := by decide +kernel
theorem dL_law_464 : decode code 464 = .ok (.iload 4, 2) := by decide +kernel
theorem dL_law_466 : decode code 466 = .ok (.iconst 1, 1) := by decide +kernel
theorem dL_law_467 : decode code 467 = .ok (.iadd, 1) := by decide +kernel
theorem dL_law_468 : decode code 468 = .ok (.iaload, 1) := by decide +kernel
theorem dL_law_469 : decode code 469 = .ok (.aload_n 0, 1) := by decide +kernel
theorem dL_law_470 : decode code 470 = .ok (.iload 4, 2) := by decide +kernel
theorem dL_law_472 : decode code 472 = .ok (.iconst 2, 1) := by decide +kernel
theorem dL_law_473 : decode code 473 = .ok (.iadd, 1) := by decide +kernel
theorem dL_law_474 : decode code 474 = .ok (.iaload, 1) := by decide +kernel
theorem dL_law_475 : decode code 475 = .ok (.invokevirtual 50, 3) := by decide +kernel
theorem dL_law_478 : decode code 478 = .ok (.if_icmp .eq 1661, 3) := by decide +kernel
theorem dL_law_481 : decode code 481 = .ok (.iconst 0, 1) := by decide +kernel
theorem dL_law_482 : decode code 482 = .ok (.ireturn, 1) := by decide +kernel
theorem dL_law_483 : decode code 483 = .ok (.aload_n 1, 1) := by decide +kernel
theorem dL_law_484 : decode code 484 = .ok (.aload_n 0, 1) := by decide +kernel
theorem dL_law_485 : decode code 485 = .ok (.iload 4, 2) := by decide +kernel
theorem dL_law_487 : decode code 487 = .ok (.iconst 1, 1) := by decide +kernel
theorem dL_law_488 : decode code 488 = .ok (.iadd, 1) := by decide +kernel
theorem dL_law_489 : decode code 489 = .ok (.iaload, 1) := by decide +kernel
theorem dL_law_490 : decode code 490 = .ok (.invokevirtual 51, 3) := by decide +kernel
theorem dL_law_493 : decode code 493 = .ok (.aload_n 2, 1) := by decide +kernel
theorem dL_law_494 : decode code 494 = .ok (.aload_n 0, 1) := by decide +kernel
theorem dL_law_495 : decode code 495 = .ok (.iload 4, 2) := by decide +kernel
theorem dL_law_497 : decode code 497 = .ok (.iconst 1, 1) := by decide +kernel
theorem dL_law_498 : decode code 498 = .ok (.iadd, 1) := by decide +kernel
theorem dL_law_499 : decode code 499 = .ok (.iaload, 1) := by decide +kernel
theorem dL_law_500 : decode code 500 = .ok (.invokevirtual 54, 3) := by decide +kernel
theorem dL_law_503 : decode code 503 = .ok (.if_icmp .eq 1636, 3) := by decide +kernel
theorem dL_law_506 : decode code 506 = .ok (.iconst 0, 1) := by decide +kernel
theorem dL_law_507 : decode code 507 = .ok (.ireturn, 1) := by decide +kernel
theorem dL_law_508 : decode code 508 = .ok (.aload_n 1, 1) := by decide +kernel
theorem dL_law_509 : decode code 509 = .ok (.aload_n 0, 1) := by decide +kernel
theorem dL_law_510 : decode code 510 = .ok (.iload 4, 2) := by decide +kernel
theorem dL_law_512 : decode code 512 = .ok (.iconst 1, 1) := by decide +kernel
theorem dL_law_513 : decode code 513 = .ok (.iadd, 1) := by decide +kernel
theorem dL_law_514 : decode code 514 = .ok (.iaload, 1) := by decide +kernel
theorem dL_law_515 : decode code 515 = .ok (.aload_n 0, 1) := by decide +kernel
theorem dL_law_516 : decode code 516 = .ok (.iload 4, 2) := by decide +kernel
theorem dL_law_518 : decode code 518 = .ok (.iconst 2, 1) := by decide +kernel
theorem dL_law_519 : decode code 519 = .ok (.iadd, 1) := by decide +kernel
theorem dL_law_520 : decode code 520 = .ok (.iaload, 1) := by decide +kernel
theorem dL_law_521 : decode code 521 = .ok (.invokevirtual 55, 3) := by decide +kernel
theorem dL_law_524 : decode code 524 = .ok (.aload_n 2, 1) := by decide +kernel
theorem dL_law_525 : decode code 525 = .ok (.aload_n 0, 1) := by decide +kernel
theorem dL_law_526 : decode code 526 = .ok (.iload 4, 2) := by decide +kernel
theorem dL_law_528 : decode code 528 = .ok (.iconst 1, 1) := by decide +kernel
theorem dL_law_529 : decode code 529 = .ok (.iadd, 1) := by decide +kernel
theorem dL_law_530 : decode code 530 = .ok (.iaload, 1) := by decide +kernel
theorem dL_law_531 : decode code 531 = .ok (.aload_n 0, 1) := by decide +kernel
theorem dL_law_532 : decode code 532 = .ok (.iload 4, 2) := by decide +kernel
theorem dL_law_534 : decode code 534 = .ok (.iconst 2, 1) := by decide +kernel
theorem dL_law_535 : decode code 535 = .ok (.iadd, 1) := by decide +kernel
theorem dL_law_536 : decode code 536 = .ok (.iaload, 1) := by decide +kernel
theorem dL_law_537 : decode code 537 = .ok (.invokevirtual 58, 3) := by decide +kernel
theorem dL_law_540 : decode code 540 = .ok (.if_icmp .eq 1599, 3) := by decide +kernel
theorem dL_law_543 : decode code 543 = .ok (.iconst 0, 1) := by decide +kernel
theorem dL_law_544 : decode code 544 = .ok (.ireturn, 1) := by decide +kernel
theorem dL_law_545 : decode code 545 = .ok (.aload_n 1, 1) := by decide +kernel
theorem dL_law_546 : decode code 546 = .ok (.aload_n 0, 1) := by decide +kernel
theorem dL_law_547 : decode code 547 = .ok (.iload 4, 2) := by decide +kernel
theorem dL_law_549 : decode code 549 = .ok (.iconst 1, 1) := by decide +kernel
theorem dL_law_550 : decode code 550 = .ok (.iadd, 1) := by decide +kernel
theorem dL_law_551 : decode code 551 = .ok (.iaload, 1) := by decide +kernel
theorem dL_law_552 : decode code 552 = .ok (.invokevirtual 59, 3) := by decide +kernel
theorem dL_law_555 : decode code 555 = .ok (.aload_n 2, 1) := by decide +kernel
theorem dL_law_556 : decode code 556 = .ok (.aload_n 0, 1) := by decide +kernel
theorem dL_law_557 : decode code 557 = .ok (.iload 4, 2) := by decide +kernel
theorem dL_law_559 : decode code 559 = .ok (.iconst 1, 1) := by decide +kernel
theorem dL_law_560 : decode code 560 = .ok (.iadd, 1) := by decide +kernel
theorem dL_law_561 : decode code 561 = .ok (.iaload, 1) := by decide +kernel
theorem dL_law_562 : decode code 562 = .ok (.invokevirtual 62, 3) := by decide +kernel
theorem dL_law_565 : decode code 565 = .ok (.if_icmp .eq 1574, 3) := by decide +kernel
theorem dL_law_568 : decode code 568 = .ok (.iconst 0, 1) := by decide +kernel
theorem dL_law_569 : decode code 569 = .ok (.ireturn, 1) := by decide +kernel
theorem dL_law_570 : decode code 570 = .ok (.aload_n 1, 1) := by decide +kernel
theorem dL_law_571 : decode code 571 = .ok (.aload_n 0, 1) := by decide +kernel
theorem dL_law_572 : decode code 572 = .ok (.iload 4, 2) := by decide +kernel
theorem dL_law_574 : decode code 574 = .ok (.iconst 1, 1) := by decide +kernel
theorem dL_law_575 : decode code 575 = .ok (.iadd, 1) := by decide +kernel
theorem dL_law_576 : decode code 576 = .ok (.iaload, 1) := by decide +kernel
theorem dL_law_577 : decode code 577 = .ok (.invokevirtual 63, 3) := by decide +kernel
theorem dL_law_580 : decode code 580 = .ok (.aload_n 2, 1) := by decide +kernel
theorem dL_law_581 : decode code 581 = .ok (.aload_n 0, 1) := by decide +kernel
theorem dL_law_582 : decode code 582 = .ok (.iload 4, 2) := by decide +kernel
theorem dL_law_584 : decode code 584 = .ok (.iconst 1, 1) := by decide +kernel
theorem dL_law_585 : decode code 585 = .ok (.iadd, 1) := by decide +kernel
theorem dL_law_586 : decode code 586 = .ok (.iaload, 1) := by decide +kernel
theorem dL_law_587 : decode code 587 = .ok (.invokevirtual 66, 3) := by decide +kernel
theorem dL_law_590 : decode code 590 = .ok (.if_icmp .eq 1549, 3) := by decide +kernel
theorem dL_law_593 : decode code 593 = .ok (.iconst 0, 1) := by decide +kernel
theorem dL_law_594 : decode code 594 = .ok (.ireturn, 1) := by decide +kernel
theorem dL_law_595 : decode code 595 = .ok (.aload_n 1, 1) := by decide +kernel
theorem dL_law_596 : decode code 596 = .ok (.aload_n 0, 1) := by decide +kernel
theorem dL_law_597 : decode code 597 = .ok (.iload 4, 2) := by decide +kernel
theorem dL_law_599 : decode code 599 = .ok (.iconst 1, 1) := by decide +kernel
theorem dL_law_600 : decode code 600 = .ok (.iadd, 1) := by decide +kernel
theorem dL_law_601 : decode code 601 = .ok (.iaload, 1) := by decide +kernel
theorem dL_law_602 : decode code 602 = .ok (.aload_n 0, 1) := by decide +kernel
theorem dL_law_603 : decode code 603 = .ok (.iload 4, 2) := by decide +kernel
theorem dL_law_605 : decode code 605 = .ok (.iconst 2, 1) := by decide +kernel
theorem dL_law_606 : decode code 606 = .ok (.iadd, 1) := by decide +kernel
theorem dL_law_607 : decode code 607 = .ok (.iaload, 1) := by decide +kernel
theorem dL_law_608 : decode code 608 = .ok (.invokevirtual 67, 3) := by decide +kernel
theorem dL_law_611 : decode code 611 = .ok (.aload_n 2, 1) := by decide +kernel
theorem dL_law_612 : decode code 612 = .ok (.aload_n 0, 1) := by decide +kernel
theorem dL_law_613 : decode code 613 = .ok (.iload 4, 2) := by decide +kernel
theorem dL_law_615 : decode code 615 = .ok (.iconst 1, 1) := by decide +kernel
theorem dL_law_616 : decode code 616 = .ok (.iadd, 1) := by decide +kernel
theorem dL_law_617 : decode code 617 = .ok (.iaload, 1) := by decide +kernel
theorem dL_law_618 : decode code 618 = .ok (.aload_n 0, 1) := by decide +kernel
theorem dL_law_619 : decode code 619 = .ok (.iload 4, 2) := by decide +kernel
theorem dL_law_621 : decode code 621 = .ok (.iconst 2, 1) := by decide +kernel
theorem dL_law_622 : decode code 622 = .ok (.iadd, 1) := by decide +kernel
theorem dL_law_623 : decode code 623 = .ok (.iaload, 1) := by decide +kernel
theorem dL_law_624 : decode code 624 = .ok (.invokevirtual 70, 3) := by decide +kernel
theorem dL_law_627 : decode code 627 = .ok (.if_icmp .eq 1512, 3) := by decide +kernel
theorem dL_law_630 : decode code 630 = .ok (.iconst 0, 1) := by decide +kernel
theorem dL_law_631 : decode code 631 = .ok (.ireturn, 1) := by decide +kernel
theorem dL_law_632 : decode code 632 = .ok (.aload_n 1, 1) := by decide +kernel
theorem dL_law_633 : decode code 633 = .ok (.aload_n 0, 1) := by decide +kernel
theorem dL_law_634 : decode code 634 = .ok (.iload 4, 2) := by decide +kernel
theorem dL_law_636 : decode code 636 = .ok (.iconst 1, 1) := by decide +kernel
theorem dL_law_637 : decode code 637 = .ok (.iadd, 1) := by decide +kernel
theorem dL_law_638 : decode code 638 = .ok (.iaload, 1) := by decide +kernel
theorem dL_law_639 : decode code 639 = .ok (.aload_n 0, 1) := by decide +kernel
theorem dL_law_640 : decode code 640 = .ok (.iload 4, 2) := by decide +kernel
theorem dL_law_642 : decode code 642 = .ok (.iconst 2, 1) := by decide +kernel
theorem dL_law_643 : decode code 643 = .ok (.iadd, 1) := by decide +kernel
theorem dL_law_644 : decode code 644 = .ok (.iaload, 1) := by decide +kernel
theorem dL_law_645 : decode code 645 = .ok (.invokevirtual 71, 3) := by decide +kernel
theorem dL_law_648 : decode code 648 = .ok (.aload_n 2, 1) := by decide +kernel
theorem dL_law_649 : decode code 649 = .ok (.aload_n 0, 1) := by decide +kernel
theorem dL_law_650 : decode code 650 = .ok (.iload 4, 2) := by decide +kernel
theorem dL_law_652 : decode code 652 = .ok (.iconst 1, 1) := by decide +kernel
theorem dL_law_653 : decode code 653 = .ok (.iadd, 1) := by decide +kernel
theorem dL_law_654 : decode code 654 = .ok (.iaload, 1) := by decide +kernel
theorem dL_law_655 : decode code 655 = .ok (.aload_n 0, 1) := by decide +kernel
theorem dL_law_656 : decode code 656 = .ok (.iload 4, 2) := by decide +kernel
theorem dL_law_658 : decode code 658 = .ok (.iconst 2, 1) := by decide +kernel
theorem dL_law_659 : decode code 659 = .ok (.iadd, 1) := by decide +kernel
theorem dL_law_660 : decode code 660 = .ok (.iaload, 1) := by decide +kernel
theorem dL_law_661 : decode code 661 = .ok (.invokevirtual 74, 3) := by decide +kernel
theorem dL_law_664 : decode code 664 = .ok (.if_icmp .eq 1475, 3) := by decide +kernel
theorem dL_law_667 : decode code 667 = .ok (.iconst 0, 1) := by decide +kernel
theorem dL_law_668 : decode code 668 = .ok (.ireturn, 1) := by decide +kernel
theorem dL_law_669 : decode code 669 = .ok (.aload_n 1, 1) := by decide +kernel
theorem dL_law_670 : decode code 670 = .ok (.aload_n 0, 1) := by decide +kernel
theorem dL_law_671 : decode code 671 = .ok (.iload 4, 2) := by decide +kernel
theorem dL_law_673 : decode code 673 = .ok (.iconst 1, 1) := by decide +kernel
theorem dL_law_674 : decode code 674 = .ok (.iadd, 1) := by decide +kernel
theorem dL_law_675 : decode code 675 = .ok (.iaload, 1) := by decide +kernel
theorem dL_law_676 : decode code 676 = .ok (.invokevirtual 75, 3) := by decide +kernel
theorem dL_law_679 : decode code 679 = .ok (.aload_n 2, 1) := by decide +kernel
theorem dL_law_680 : decode code 680 = .ok (.aload_n 0, 1) := by decide +kernel
theorem dL_law_681 : decode code 681 = .ok (.iload 4, 2) := by decide +kernel
theorem dL_law_683 : decode code 683 = .ok (.iconst 1, 1) := by decide +kernel
theorem dL_law_684 : decode code 684 = .ok (.iadd, 1) := by decide +kernel
theorem dL_law_685 : decode code 685 = .ok (.iaload, 1) := by decide +kernel
theorem dL_law_686 : decode code 686 = .ok (.invokevirtual 78, 3) := by decide +kernel
theorem dL_law_689 : decode code 689 = .ok (.if_icmp .eq 1450, 3) := by decide +kernel
theorem dL_law_692 : decode code 692 = .ok (.iconst 0, 1) := by decide +kernel
theorem dL_law_693 : decode code 693 = .ok (.ireturn, 1) := by decide +kernel
theorem dL_law_694 : decode code 694 = .ok (.aload_n 1, 1) := by decide +kernel
theorem dL_law_695 : decode code 695 = .ok (.aload_n 0, 1) := by decide +kernel
theorem dL_law_696 : decode code 696 = .ok (.iload 4, 2) := by decide +kernel
theorem dL_law_698 : decode code 698 = .ok (.iconst 1, 1) := by decide +kernel
theorem dL_law_699 : decode code 699 = .ok (.iadd, 1) := by decide +kernel
theorem dL_law_700 : decode code 700 = .ok (.iaload, 1) := by decide +kernel
theorem dL_law_701 : decode code 701 = .ok (.invokevirtual 79, 3) := by decide +kernel
theorem dL_law_704 : decode code 704 = .ok (.aload_n 2, 1) := by decide +kernel
theorem dL_law_705 : decode code 705 = .ok (.aload_n 0, 1) := by decide +kernel
theorem dL_law_706 : decode code 706 = .ok (.iload 4, 2) := by decide +kernel
theorem dL_law_708 : decode code 708 = .ok (.iconst 1, 1) := by decide +kernel
theorem dL_law_709 : decode code 709 = .ok (.iadd, 1) := by decide +kernel
theorem dL_law_710 : decode code 710 = .ok (.iaload, 1) := by decide +kernel
theorem dL_law_711 : decode code 711 = .ok (.invokevirtual 82, 3) := by decide +kernel
theorem dL_law_714 : decode code 714 = .ok (.if_icmp .eq 1425, 3) := by decide +kernel
theorem dL_law_717 : decode code 717 = .ok (.iconst 0, 1) := by decide +kernel
theorem dL_law_718 : decode code 718 = .ok (.ireturn, 1) := by decide +kernel
theorem dL_law_719 : decode code 719 = .ok (.aload_n 1, 1) := by decide +kernel
theorem dL_law_720 : decode code 720 = .ok (.aload_n 0, 1) := by decide +kernel
theorem dL_law_721 : decode code 721 = .ok (.iload 4, 2) := by decide +kernel
theorem dL_law_723 : decode code 723 = .ok (.iconst 1, 1) := by decide +kernel
theorem dL_law_724 : decode code 724 = .ok (.iadd, 1) := by decide +kernel
theorem dL_law_725 : decode code 725 = .ok (.iaload, 1) := by decide +kernel
theorem dL_law_726 : decode code 726 = .ok (.aload_n 0, 1) := by decide +kernel
theorem dL_law_727 : decode code 727 = .ok (.iload 4, 2) := by decide +kernel
theorem dL_law_729 : decode code 729 = .ok (.iconst 2, 1) := by decide +kernel
theorem dL_law_730 : decode code 730 = .ok (.iadd, 1) := by decide +kernel
theorem dL_law_731 : decode code 731 = .ok (.iaload, 1) := by decide +kernel
theorem dL_law_732 : decode code 732 = .ok (.invokevirtual 83, 3) := by decide +kernel
theorem dL_law_735 : decode code 735 = .ok (.aload_n 2, 1) := by decide +kernel
theorem dL_law_736 : decode code 736 = .ok (.aload_n 0, 1) := by decide +kernel
theorem dL_law_737 : decode code 737 = .ok (.iload 4, 2) := by decide +kernel
theorem dL_law_739 : decode code 739 = .ok (.iconst 1, 1) := by decide +kernel
theorem dL_law_740 : decode code 740 = .ok (.iadd, 1) := by decide +kernel
theorem dL_law_741 : decode code 741 = .ok (.iaload, 1) := by decide +kernel
theorem dL_law_742 : decode code 742 = .ok (.aload_n 0, 1) := by decide +kernel
theorem dL_law_743 : decode code 743 = .ok (.iload 4, 2) := by decide +kernel
theorem dL_law_745 : decode code 745 = .ok (.iconst 2, 1) := by decide +kernel
theorem dL_law_746 : decode code 746 = .ok (.iadd, 1) := by decide +kernel
theorem dL_law_747 : decode code 747 = .ok (.iaload, 1) := by decide +kernel
theorem dL_law_748 : decode code 748 = .ok (.invokevirtual 86, 3) := by decide +kernel
theorem dL_law_751 : decode code 751 = .ok (.if_icmp .eq 1388, 3) := by decide +kernel
theorem dL_law_754 : decode code 754 = .ok (.iconst 0, 1) := by decide +kernel
theorem dL_law_755 : decode code 755 = .ok (.ireturn, 1) := by decide +kernel
theorem dL_law_756 : decode code 756 = .ok (.aload_n 1, 1) := by decide +kernel
theorem dL_law_757 : decode code 757 = .ok (.aload_n 0, 1) := by decide +kernel
theorem dL_law_758 : decode code 758 = .ok (.iload 4, 2) := by decide +kernel
theorem dL_law_760 : decode code 760 = .ok (.iconst 1, 1) := by decide +kernel
theorem dL_law_761 : decode code 761 = .ok (.iadd, 1) := by decide +kernel
theorem dL_law_762 : decode code 762 = .ok (.iaload, 1) := by decide +kernel
theorem dL_law_763 : decode code 763 = .ok (.aload_n 0, 1) := by decide +kernel
theorem dL_law_764 : decode code 764 = .ok (.iload 4, 2) := by decide +kernel
theorem dL_law_766 : decode code 766 = .ok (.iconst 2, 1) := by decide +kernel
theorem dL_law_767 : decode code 767 = .ok (.iadd, 1) := by decide +kernel
theorem dL_law_768 : decode code 768 = .ok (.iaload, 1) := by decide +kernel
theorem dL_law_769 : decode code 769 = .ok (.invokevirtual 87, 3) := by decide +kernel
theorem dL_law_772 : decode code 772 = .ok (.aload_n 2, 1) := by decide +kernel
theorem dL_law_773 : decode code 773 = .ok (.aload_n 0, 1) := by decide +kernel
theorem dL_law_774 : decode code 774 = .ok (.iload 4, 2) := by decide +kernel
theorem dL_law_776 : decode code 776 = .ok (.iconst 1, 1) := by decide +kernel
theorem dL_law_777 : decode code 777 = .ok (.iadd, 1) := by decide +kernel
theorem dL_law_778 : decode code 778 = .ok (.iaload, 1) := by decide +kernel
theorem dL_law_779 : decode code 779 = .ok (.aload_n 0, 1) := by decide +kernel
theorem dL_law_780 : decode code 780 = .ok (.iload 4, 2) := by decide +kernel
theorem dL_law_782 : decode code 782 = .ok (.iconst 2, 1) := by decide +kernel
theorem dL_law_783 : decode code 783 = .ok (.iadd, 1) := by decide +kernel
theorem dL_law_784 : decode code 784 = .ok (.iaload, 1) := by decide +kernel
theorem dL_law_785 : decode code 785 = .ok (.invokevirtual 90, 3) := by decide +kernel
theorem dL_law_788 : decode code 788 = .ok (.if_icmp .eq 1351, 3) := by decide +kernel
theorem dL_law_791 : decode code 791 = .ok (.iconst 0, 1) := by decide +kernel
theorem dL_law_792 : decode code 792 = .ok (.ireturn, 1) := by decide +kernel
theorem dL_law_793 : decode code 793 = .ok (.aload_n 1, 1) := by decide +kernel
theorem dL_law_794 : decode code 794 = .ok (.aload_n 0, 1) := by decide +kernel
theorem dL_law_795 : decode code 795 = .ok (.iload 4, 2) := by decide +kernel
theorem dL_law_797 : decode code 797 = .ok (.iconst 1, 1) := by decide +kernel
theorem dL_law_798 : decode code 798 = .ok (.iadd, 1) := by decide +kernel
theorem dL_law_799 : decode code 799 = .ok (.iaload, 1) := by decide +kernel
theorem dL_law_800 : decode code 800 = .ok (.invokevirtual 91, 3) := by decide +kernel
theorem dL_law_803 : decode code 803 = .ok (.aload_n 2, 1) := by decide +kernel
theorem dL_law_804 : decode code 804 = .ok (.aload_n 0, 1) := by decide +kernel
theorem dL_law_805 : decode code 805 = .ok (.iload 4, 2) := by decide +kernel
theorem dL_law_807 : decode code 807 = .ok (.iconst 1, 1) := by decide +kernel
theorem dL_law_808 : decode code 808 = .ok (.iadd, 1) := by decide +kernel
theorem dL_law_809 : decode code 809 = .ok (.iaload, 1) := by decide +kernel
theorem dL_law_810 : decode code 810 = .ok (.invokevirtual 94, 3) := by decide +kernel
theorem dL_law_813 : decode code 813 = .ok (.if_icmp .eq 1326, 3) := by decide +kernel
theorem dL_law_816 : decode code 816 = .ok (.iconst 0, 1) := by decide +kernel
theorem dL_law_817 : decode code 817 = .ok (.ireturn, 1) := by decide +kernel
theorem dL_law_818 : decode code 818 = .ok (.aload_n 1, 1) := by decide +kernel
theorem dL_law_819 : decode code 819 = .ok (.invokevirtual 95, 3) := by decide +kernel
theorem dL_law_822 : decode code 822 = .ok (.aload_n 2, 1) := by decide +kernel
theorem dL_law_823 : decode code 823 = .ok (.invokevirtual 98, 3) := by decide +kernel
theorem dL_law_826 : decode code 826 = .ok (.if_icmp .eq 1313, 3) := by decide +kernel
theorem dL_law_829 : decode code 829 = .ok (.iconst 0, 1) := by decide +kernel
theorem dL_law_830 : decode code 830 = .ok (.ireturn, 1) := by decide +kernel
theorem dL_law_831 : decode code 831 = .ok (.aload_n 1, 1) := by decide +kernel
theorem dL_law_832 : decode code 832 = .ok (.aload_n 0, 1) := by decide +kernel
theorem dL_law_833 : decode code 833 = .ok (.iload 4, 2) := by decide +kernel
theorem dL_law_835 : decode code 835 = .ok (.iconst 1, 1) := by decide +kernel
theorem dL_law_836 : decode code 836 = .ok (.iadd, 1) := by decide +kernel
theorem dL_law_837 : decode code 837 = .ok (.iaload, 1) := by decide +kernel
theorem dL_law_838 : decode code 838 = .ok (.aload_n 0, 1) := by decide +kernel
theorem dL_law_839 : decode code 839 = .ok (.iload 4, 2) := by decide +kernel
theorem dL_law_841 : decode code 841 = .ok (.iconst 2, 1) := by decide +kernel
theorem dL_law_842 : decode code 842 = .ok (.iadd, 1) := by decide +kernel
theorem dL_law_843 : decode code 843 = .ok (.iaload, 1) := by decide +kernel
theorem dL_law_844 : decode code 844 = .ok (.aload_n 0, 1) := by decide +kernel
theorem dL_law_845 : decode code 845 = .ok (.iload 4, 2) := by decide +kernel
theorem dL_law_847 : decode code 847 = .ok (.iconst 3, 1) := by decide +kernel
theorem dL_law_848 : decode code 848 = .ok (.iadd, 1) := by decide +kernel
theorem dL_law_849 : decode code 849 = .ok (.iaload, 1) := by decide +kernel
theorem dL_law_850 : decode code 850 = .ok (.invokevirtual 99, 3) := by decide +kernel
theorem dL_law_853 : decode code 853 = .ok (.aload_n 2, 1) := by decide +kernel
theorem dL_law_854 : decode code 854 = .ok (.aload_n 0, 1) := by decide +kernel
theorem dL_law_855 : decode code 855 = .ok (.iload 4, 2) := by decide +kernel
theorem dL_law_857 : decode code 857 = .ok (.iconst 1, 1) := by decide +kernel
theorem dL_law_858 : decode code 858 = .ok (.iadd, 1) := by decide +kernel
theorem dL_law_859 : decode code 859 = .ok (.iaload, 1) := by decide +kernel
theorem dL_law_860 : decode code 860 = .ok (.aload_n 0, 1) := by decide +kernel
theorem dL_law_861 : decode code 861 = .ok (.iload 4, 2) := by decide +kernel
theorem dL_law_863 : decode code 863 = .ok (.iconst 2, 1) := by decide +kernel
theorem dL_law_864 : decode code 864 = .ok (.iadd, 1) := by decide +kernel
theorem dL_law_865 : decode code 865 = .ok (.iaload, 1) := by decide +kernel
theorem dL_law_866 : decode code 866 = .ok (.aload_n 0, 1) := by decide +kernel
theorem dL_law_867 : decode code 867 = .ok (.iload 4, 2) := by decide +kernel
theorem dL_law_869 : decode code 869 = .ok (.iconst 3, 1) := by decide +kernel
theorem dL_law_870 : decode code 870 = .ok (.iadd, 1) := by decide +kernel
theorem dL_law_871 : decode code 871 = .ok (.iaload, 1) := by decide +kernel
theorem dL_law_872 : decode code 872 = .ok (.invokevirtual 103, 3) := by decide +kernel
theorem dL_law_875 : decode code 875 = .ok (.if_icmp .eq 1264, 3) := by decide +kernel
theorem dL_law_878 : decode code 878 = .ok (.iconst 0, 1) := by decide +kernel
theorem dL_law_879 : decode code 879 = .ok (.ireturn, 1) := by decide +kernel
theorem dL_law_880 : decode code 880 = .ok (.aload_n 1, 1) := by decide +kernel
theorem dL_law_881 : decode code 881 = .ok (.invokevirtual 104, 3) := by decide +kernel
theorem dL_law_884 : decode code 884 = .ok (.aload_n 2, 1) := by decide +kernel
theorem dL_law_885 : decode code 885 = .ok (.invokevirtual 107, 3) := by decide +kernel
theorem dL_law_888 : decode code 888 = .ok (.if_icmp .eq 1251, 3) := by decide +kernel
theorem dL_law_891 : decode code 891 = .ok (.iconst 0, 1) := by decide +kernel
theorem dL_law_892 : decode code 892 = .ok (.ireturn, 1) := by decide +kernel
theorem dL_law_893 : decode code 893 = .ok (.aload_n 1, 1) := by decide +kernel
theorem dL_law_894 : decode code 894 = .ok (.invokevirtual 108, 3) := by decide +kernel
theorem dL_law_897 : decode code 897 = .ok (.aload_n 2, 1) := by decide +kernel
theorem dL_law_898 : decode code 898 = .ok (.invokevirtual 111, 3) := by decide +kernel
theorem dL_law_901 : decode code 901 = .ok (.if_icmp .eq 1238, 3) := by decide +kernel
theorem dL_law_904 : decode code 904 = .ok (.iconst 0, 1) := by decide +kernel
theorem dL_law_905 : decode code 905 = .ok (.ireturn, 1) := by decide +kernel
theorem dL_law_906 : decode code 906 = .ok (.aload_n 1, 1) := by decide +kernel
theorem dL_law_907 : decode code 907 = .ok (.aload_n 0, 1) := by decide +kernel
theorem dL_law_908 : decode code 908 = .ok (.iload 4, 2) := by decide +kernel
theorem dL_law_910 : decode code 910 = .ok (.iconst 1, 1) := by decide +kernel
theorem dL_law_911 : decode code 911 = .ok (.iadd, 1) := by decide +kernel
theorem dL_law_912 : decode code 912 = .ok (.iaload, 1) := by decide +kernel
theorem dL_law_913 : decode code 913 = .ok (.invokevirtual 112, 3) := by decide +kernel
theorem dL_law_916 : decode code 916 = .ok (.aload_n 2, 1) := by decide +kernel
theorem dL_law_917 : decode code 917 = .ok (.aload_n 0, 1) := by decide +kernel
theorem dL_law_918 : decode code 918 = .ok (.iload 4, 2) := by decide +kernel
theorem dL_law_920 : decode code 920 = .ok (.iconst 1, 1) := by decide +kernel
theorem dL_law_921 : decode code 921 = .ok (.iadd, 1) := by decide +kernel
theorem dL_law_922 : decode code 922 = .ok (.iaload, 1) := by decide +kernel
theorem dL_law_923 : decode code 923 = .ok (.invokevirtual 115, 3) := by decide +kernel
theorem dL_law_926 : decode code 926 = .ok (.if_icmp .eq 1213, 3) := by decide +kernel
theorem dL_law_929 : decode code 929 = .ok (.iconst 0, 1) := by decide +kernel
theorem dL_law_930 : decode code 930 = .ok (.ireturn, 1) := by decide +kernel
theorem dL_law_931 : decode code 931 = .ok (.aload_n 1, 1) := by decide +kernel
theorem dL_law_932 : decode code 932 = .ok (.aload_n 0, 1) := by decide +kernel
theorem dL_law_933 : decode code 933 = .ok (.iload 4, 2) := by decide +kernel
theorem dL_law_935 : decode code 935 = .ok (.iconst 1, 1) := by decide +kernel
theorem dL_law_936 : decode code 936 = .ok (.iadd, 1) := by decide +kernel
theorem dL_law_937 : decode code 937 = .ok (.iaload, 1) := by decide +kernel
theorem dL_law_938 : decode code 938 = .ok (.invokevirtual 116, 3) := by decide +kernel
theorem dL_law_941 : decode code 941 = .ok (.aload_n 2, 1) := by decide +kernel
theorem dL_law_942 : decode code 942 = .ok (.aload_n 0, 1) := by decide +kernel
theorem dL_law_943 : decode code 943 = .ok (.iload 4, 2) := by decide +kernel
theorem dL_law_945 : decode code 945 = .ok (.iconst 1, 1) := by decide +kernel
theorem dL_law_946 : decode code 946 = .ok (.iadd, 1) := by decide +kernel
theorem dL_law_947 : decode code 947 = .ok (.iaload, 1) := by decide +kernel
theorem dL_law_948 : decode code 948 = .ok (.invokevirtual 119, 3) := by decide +kernel
theorem dL_law_951 : decode code 951 = .ok (.if_icmp .eq 1188, 3) := by decide +kernel
theorem dL_law_954 : decode code 954 = .ok (.iconst 0, 1) := by decide +kernel
theorem dL_law_955 : decode code 955 = .ok (.ireturn, 1) := by decide +kernel
theorem dL_law_956 : decode code 956 = .ok (.aload_n 1, 1) := by decide +kernel
theorem dL_law_957 : decode code 957 = .ok (.invokevirtual 120, 3) := by decide +kernel
theorem dL_law_960 : decode code 960 = .ok (.aload_n 2, 1) := by decide +kernel
theorem dL_law_961 : decode code 961 = .ok (.invokevirtual 123, 3) := by decide +kernel
theorem dL_law_964 : decode code 964 = .ok (.if_icmp .eq 1175, 3) := by decide +kernel
theorem dL_law_967 : decode code 967 = .ok (.iconst 0, 1) := by decide +kernel
theorem dL_law_968 : decode code 968 = .ok (.ireturn, 1) := by decide +kernel
theorem dL_law_969 : decode code 969 = .ok (.aload_n 1, 1) := by decide +kernel
theorem dL_law_970 : decode code 970 = .ok (.aload_n 0, 1) := by decide +kernel
theorem dL_law_971 : decode code 971 = .ok (.iload 4, 2) := by decide +kernel
theorem dL_law_973 : decode code 973 = .ok (.iconst 1, 1) := by decide +kernel
theorem dL_law_974 : decode code 974 = .ok (.iadd, 1) := by decide +kernel
theorem dL_law_975 : decode code 975 = .ok (.iaload, 1) := by decide +kernel
theorem dL_law_976 : decode code 976 = .ok (.invokevirtual 124, 3) := by decide +kernel
theorem dL_law_979 : decode code 979 = .ok (.aload_n 2, 1) := by decide +kernel
theorem dL_law_980 : decode code 980 = .ok (.aload_n 0, 1) := by decide +kernel
theorem dL_law_981 : decode code 981 = .ok (.iload 4, 2) := by decide +kernel
theorem dL_law_983 : decode code 983 = .ok (.iconst 1, 1) := by decide +kernel
theorem dL_law_984 : decode code 984 = .ok (.iadd, 1) := by decide +kernel
theorem dL_law_985 : decode code 985 = .ok (.iaload, 1) := by decide +kernel
theorem dL_law_986 : decode code 986 = .ok (.invokevirtual 127, 3) := by decide +kernel
theorem dL_law_989 : decode code 989 = .ok (.if_icmp .eq 1150, 3) := by decide +kernel
theorem dL_law_992 : decode code 992 = .ok (.iconst 0, 1) := by decide +kernel
theorem dL_law_993 : decode code 993 = .ok (.ireturn, 1) := by decide +kernel
theorem dL_law_994 : decode code 994 = .ok (.aload_n 1, 1) := by decide +kernel
theorem dL_law_995 : decode code 995 = .ok (.invokevirtual 128, 3) := by decide +kernel
theorem dL_law_998 : decode code 998 = .ok (.aload_n 2, 1) := by decide +kernel
theorem dL_law_999 : decode code 999 = .ok (.invokevirtual 131, 3) := by decide +kernel
theorem dL_law_1002 : decode code 1002 = .ok (.if_icmp .eq 1137, 3) := by decide +kernel
theorem dL_law_1005 : decode code 1005 = .ok (.iconst 0, 1) := by decide +kernel
theorem dL_law_1006 : decode code 1006 = .ok (.ireturn, 1) := by decide +kernel
theorem dL_law_1007 : decode code 1007 = .ok (.aload_n 1, 1) := by decide +kernel
theorem dL_law_1008 : decode code 1008 = .ok (.invokevirtual 132, 3) := by decide +kernel
theorem dL_law_1011 : decode code 1011 = .ok (.aload_n 2, 1) := by decide +kernel
theorem dL_law_1012 : decode code 1012 = .ok (.invokevirtual 135, 3) := by decide +kernel
theorem dL_law_1015 : decode code 1015 = .ok (.if_icmp .eq 1124, 3) := by decide +kernel
theorem dL_law_1018 : decode code 1018 = .ok (.iconst 0, 1) := by decide +kernel
theorem dL_law_1019 : decode code 1019 = .ok (.ireturn, 1) := by decide +kernel
theorem dL_law_1020 : decode code 1020 = .ok (.aload_n 1, 1) := by decide +kernel
theorem dL_law_1021 : decode code 1021 = .ok (.aload_n 0, 1) := by decide +kernel
theorem dL_law_1022 : decode code 1022 = .ok (.iload 4, 2) := by decide +kernel
theorem dL_law_1024 : decode code 1024 = .ok (.iconst 1, 1) := by decide +kernel
theorem dL_law_1025 : decode code 1025 = .ok (.iadd, 1) := by decide +kernel
theorem dL_law_1026 : decode code 1026 = .ok (.iaload, 1) := by decide +kernel
theorem dL_law_1027 : decode code 1027 = .ok (.invokevirtual 136, 3) := by decide +kernel
theorem dL_law_1030 : decode code 1030 = .ok (.aload_n 2, 1) := by decide +kernel
theorem dL_law_1031 : decode code 1031 = .ok (.aload_n 0, 1) := by decide +kernel
theorem dL_law_1032 : decode code 1032 = .ok (.iload 4, 2) := by decide +kernel
theorem dL_law_1034 : decode code 1034 = .ok (.iconst 1, 1) := by decide +kernel
theorem dL_law_1035 : decode code 1035 = .ok (.iadd, 1) := by decide +kernel
theorem dL_law_1036 : decode code 1036 = .ok (.iaload, 1) := by decide +kernel
theorem dL_law_1037 : decode code 1037 = .ok (.invokevirtual 139, 3) := by decide +kernel
theorem dL_law_1040 : decode code 1040 = .ok (.if_icmp .eq 1099, 3) := by decide +kernel
theorem dL_law_1043 : decode code 1043 = .ok (.iconst 0, 1) := by decide +kernel
theorem dL_law_1044 : decode code 1044 = .ok (.ireturn, 1) := by decide +kernel
theorem dL_law_1045 : decode code 1045 = .ok (.aload_n 1, 1) := by decide +kernel
theorem dL_law_1046 : decode code 1046 = .ok (.aload_n 0, 1) := by decide +kernel
theorem dL_law_1047 : decode code 1047 = .ok (.iload 4, 2) := by decide +kernel
theorem dL_law_1049 : decode code 1049 = .ok (.iconst 1, 1) := by decide +kernel
theorem dL_law_1050 : decode code 1050 = .ok (.iadd, 1) := by decide +kernel
theorem dL_law_1051 : decode code 1051 = .ok (.iaload, 1) := by decide +kernel
theorem dL_law_1052 : decode code 1052 = .ok (.invokevirtual 140, 3) := by decide +kernel
theorem dL_law_1055 : decode code 1055 = .ok (.aload_n 2, 1) := by decide +kernel
theorem dL_law_1056 : decode code 1056 = .ok (.aload_n 0, 1) := by decide +kernel
theorem dL_law_1057 : decode code 1057 = .ok (.iload 4, 2) := by decide +kernel
theorem dL_law_1059 : decode code 1059 = .ok (.iconst 1, 1) := by decide +kernel
theorem dL_law_1060 : decode code 1060 = .ok (.iadd, 1) := by decide +kernel
theorem dL_law_1061 : decode code 1061 = .ok (.iaload, 1) := by decide +kernel
theorem dL_law_1062 : decode code 1062 = .ok (.invokevirtual 143, 3) := by decide +kernel
theorem dL_law_1065 : decode code 1065 = .ok (.if_icmp .eq 1074, 3) := by decide +kernel
theorem dL_law_1068 : decode code 1068 = .ok (.iconst 0, 1) := by decide +kernel
theorem dL_law_1069 : decode code 1069 = .ok (.ireturn, 1) := by decide +kernel
theorem dL_law_1070 : decode code 1070 = .ok (.aload_n 1, 1) := by decide +kernel
theorem dL_law_1071 : decode code 1071 = .ok (.aload_n 0, 1) := by decide +kernel
theorem dL_law_1072 : decode code 1072 = .ok (.iload 4, 2) := by decide +kernel
theorem dL_law_1074 : decode code 1074 = .ok (.iconst 1, 1) := by decide +kernel
theorem dL_law_1075 : decode code 1075 = .ok (.iadd, 1) := by decide +kernel
theorem dL_law_1076 : decode code 1076 = .ok (.iaload, 1) := by decide +kernel
theorem dL_law_1077 : decode code 1077 = .ok (.aload_n 0, 1) := by decide +kernel
theorem dL_law_1078 : decode code 1078 = .ok (.iload 4, 2) := by decide +kernel
theorem dL_law_1080 : decode code 1080 = .ok (.iconst 2, 1) := by decide +kernel
theorem dL_law_1081 : decode code 1081 = .ok (.iadd, 1) := by decide +kernel
theorem dL_law_1082 : decode code 1082 = .ok (.iaload, 1) := by decide +kernel
theorem dL_law_1083 : decode code 1083 = .ok (.aload_n 0, 1) := by decide +kernel
theorem dL_law_1084 : decode code 1084 = .ok (.iload 4, 2) := by decide +kernel
theorem dL_law_1086 : decode code 1086 = .ok (.iconst 3, 1) := by decide +kernel
theorem dL_law_1087 : decode code 1087 = .ok (.iadd, 1) := by decide +kernel
theorem dL_law_1088 : decode code 1088 = .ok (.iaload, 1) := by decide +kernel
theorem dL_law_1089 : decode code 1089 = .ok (.invokevirtual 144, 3) := by decide +kernel
theorem dL_law_1092 : decode code 1092 = .ok (.aload_n 2, 1) := by decide +kernel
theorem dL_law_1093 : decode code 1093 = .ok (.aload_n 0, 1) := by decide +kernel
theorem dL_law_1094 : decode code 1094 = .ok (.iload 4, 2) := by decide +kernel
theorem dL_law_1096 : decode code 1096 = .ok (.iconst 1, 1) := by decide +kernel
theorem dL_law_1097 : decode code 1097 = .ok (.iadd, 1) := by decide +kernel
theorem dL_law_1098 : decode code 1098 = .ok (.iaload, 1) := by decide +kernel
theorem dL_law_1099 : decode code 1099 = .ok (.aload_n 0, 1) := by decide +kernel
theorem dL_law_1100 : decode code 1100 = .ok (.iload 4, 2) := by decide +kernel
theorem dL_law_1102 : decode code 1102 = .ok (.iconst 2, 1) := by decide +kernel
theorem dL_law_1103 : decode code 1103 = .ok (.iadd, 1) := by decide +kernel
theorem dL_law_1104 : decode code 1104 = .ok (.iaload, 1) := by decide +kernel
theorem dL_law_1105 : decode code 1105 = .ok (.aload_n 0, 1) := by decide +kernel
theorem dL_law_1106 : decode code 1106 = .ok (.iload 4, 2) := by decide +kernel
theorem dL_law_1108 : decode code 1108 = .ok (.iconst 3, 1) := by decide +kernel
theorem dL_law_1109 : decode code 1109 = .ok (.iadd, 1) := by decide +kernel
theorem dL_law_1110 : decode code 1110 = .ok (.iaload, 1) := by decide +kernel
theorem dL_law_1111 : decode code 1111 = .ok (.invokevirtual 147, 3) := by decide +kernel
theorem dL_law_1114 : decode code 1114 = .ok (.if_icmp .eq 1025, 3) := by decide +kernel
theorem dL_law_1117 : decode code 1117 = .ok (.iconst 0, 1) := by decide +kernel
theorem dL_law_1118 : decode code 1118 = .ok (.ireturn, 1) := by decide +kernel
theorem dL_law_1119 : decode code 1119 = .ok (.aload_n 1, 1) := by decide +kernel
theorem dL_law_1120 : decode code 1120 = .ok (.aload_n 0, 1) := by decide +kernel
theorem dL_law_1121 : decode code 1121 = .ok (.iload 4, 2) := by decide +kernel
theorem dL_law_1123 : decode code 1123 = .ok (.iconst 1, 1) := by decide +kernel
theorem dL_law_1124 : decode code 1124 = .ok (.iadd, 1) := by decide +kernel
theorem dL_law_1125 : decode code 1125 = .ok (.iaload, 1) := by decide +kernel
theorem dL_law_1126 : decode code 1126 = .ok (.aload_n 0, 1) := by decide +kernel
theorem dL_law_1127 : decode code 1127 = .ok (.iload 4, 2) := by decide +kernel
theorem dL_law_1129 : decode code 1129 = .ok (.iconst 2, 1) := by decide +kernel
theorem dL_law_1130 : decode code 1130 = .ok (.iadd, 1) := by decide +kernel
theorem dL_law_1131 : decode code 1131 = .ok (.iaload, 1) := by decide +kernel
theorem dL_law_1132 : decode code 1132 = .ok (.invokevirtual 148, 3) := by decide +kernel
theorem dL_law_1135 : decode code 1135 = .ok (.aload_n 2, 1) := by decide +kernel
theorem dL_law_1136 : decode code 1136 = .ok (.aload_n 0, 1) := by decide +kernel
theorem dL_law_1137 : decode code 1137 = .ok (.iload 4, 2) := by decide +kernel
theorem dL_law_1139 : decode code 1139 = .ok (.iconst 1, 1) := by decide +kernel
theorem dL_law_1140 : decode code 1140 = .ok (.iadd, 1) := by decide +kernel
theorem dL_law_1141 : decode code 1141 = .ok (.iaload, 1) := by decide +kernel
theorem dL_law_1142 : decode code 1142 = .ok (.aload_n 0, 1) := by decide +kernel
theorem dL_law_1143 : decode code 1143 = .ok (.iload 4, 2) := by decide +kernel
theorem dL_law_1145 : decode code 1145 = .ok (.iconst 2, 1) := by decide +kernel
theorem dL_law_1146 : decode code 1146 = .ok (.iadd, 1) := by decide +kernel
theorem dL_law_1147 : decode code 1147 = .ok (.iaload, 1) := by decide +kernel
theorem dL_law_1148 : decode code 1148 = .ok (.invokevirtual 151, 3) := by decide +kernel
theorem dL_law_1151 : decode code 1151 = .ok (.if_icmp .eq 988, 3) := by decide +kernel
theorem dL_law_1154 : decode code 1154 = .ok (.iconst 0, 1) := by decide +kernel
theorem dL_law_1155 : decode code 1155 = .ok (.ireturn, 1) := by decide +kernel
theorem dL_law_1156 : decode code 1156 = .ok (.aload_n 1, 1) := by decide +kernel
theorem dL_law_1157 : decode code 1157 = .ok (.aload_n 0, 1) := by decide +kernel
theorem dL_law_1158 : decode code 1158 = .ok (.iload 4, 2) := by decide +kernel
theorem dL_law_1160 : decode code 1160 = .ok (.iconst 1, 1) := by decide +kernel
theorem dL_law_1161 : decode code 1161 = .ok (.iadd, 1) := by decide +kernel
theorem dL_law_1162 : decode code 1162 = .ok (.iaload, 1) := by decide +kernel
theorem dL_law_1163 : decode code 1163 = .ok (.aload_n 0, 1) := by decide +kernel
theorem dL_law_1164 : decode code 1164 = .ok (.iload 4, 2) := by decide +kernel
theorem dL_law_1166 : decode code 1166 = .ok (.iconst 2, 1) := by decide +kernel
theorem dL_law_1167 : decode code 1167 = .ok (.iadd, 1) := by decide +kernel
theorem dL_law_1168 : decode code 1168 = .ok (.iaload, 1) := by decide +kernel
theorem dL_law_1169 : decode code 1169 = .ok (.invokevirtual 152, 3) := by decide +kernel
theorem dL_law_1172 : decode code 1172 = .ok (.aload_n 2, 1) := by decide +kernel
theorem dL_law_1173 : decode code 1173 = .ok (.aload_n 0, 1) := by decide +kernel
theorem dL_law_1174 : decode code 1174 = .ok (.iload 4, 2) := by decide +kernel
theorem dL_law_1176 : decode code 1176 = .ok (.iconst 1, 1) := by decide +kernel
theorem dL_law_1177 : decode code 1177 = .ok (.iadd, 1) := by decide +kernel
theorem dL_law_1178 : decode code 1178 = .ok (.iaload, 1) := by decide +kernel
theorem dL_law_1179 : decode code 1179 = .ok (.aload_n 0, 1) := by decide +kernel
theorem dL_law_1180 : decode code 1180 = .ok (.iload 4, 2) := by decide +kernel
theorem dL_law_1182 : decode code 1182 = .ok (.iconst 2, 1) := by decide +kernel
theorem dL_law_1183 : decode code 1183 = .ok (.iadd, 1) := by decide +kernel
theorem dL_law_1184 : decode code 1184 = .ok (.iaload, 1) := by decide +kernel
theorem dL_law_1185 : decode code 1185 = .ok (.invokevirtual 155, 3) := by decide +kernel
theorem dL_law_1188 : decode code 1188 = .ok (.if_icmp .eq 951, 3) := by decide +kernel
theorem dL_law_1191 : decode code 1191 = .ok (.iconst 0, 1) := by decide +kernel
theorem dL_law_1192 : decode code 1192 = .ok (.ireturn, 1) := by decide +kernel
theorem dL_law_1193 : decode code 1193 = .ok (.aload_n 1, 1) := by decide +kernel
theorem dL_law_1194 : decode code 1194 = .ok (.aload_n 0, 1) := by decide +kernel
theorem dL_law_1195 : decode code 1195 = .ok (.iload 4, 2) := by decide +kernel
theorem dL_law_1197 : decode code 1197 = .ok (.iconst 1, 1) := by decide +kernel
theorem dL_law_1198 : decode code 1198 = .ok (.iadd, 1) := by decide +kernel
theorem dL_law_1199 : decode code 1199 = .ok (.iaload, 1) := by decide +kernel
theorem dL_law_1200 : decode code 1200 = .ok (.aload_n 0, 1) := by decide +kernel
theorem dL_law_1201 : decode code 1201 = .ok (.iload 4, 2) := by decide +kernel
theorem dL_law_1203 : decode code 1203 = .ok (.iconst 2, 1) := by decide +kernel
theorem dL_law_1204 : decode code 1204 = .ok (.iadd, 1) := by decide +kernel
theorem dL_law_1205 : decode code 1205 = .ok (.iaload, 1) := by decide +kernel
theorem dL_law_1206 : decode code 1206 = .ok (.aload_n 0, 1) := by decide +kernel
theorem dL_law_1207 : decode code 1207 = .ok (.iload 4, 2) := by decide +kernel
theorem dL_law_1209 : decode code 1209 = .ok (.iconst 3, 1) := by decide +kernel
theorem dL_law_1210 : decode code 1210 = .ok (.iadd, 1) := by decide +kernel
theorem dL_law_1211 : decode code 1211 = .ok (.iaload, 1) := by decide +kernel
theorem dL_law_1212 : decode code 1212 = .ok (.invokevirtual 156, 3) := by decide +kernel
theorem dL_law_1215 : decode code 1215 = .ok (.aload_n 2, 1) := by decide +kernel
theorem dL_law_1216 : decode code 1216 = .ok (.aload_n 0, 1) := by decide +kernel
theorem dL_law_1217 : decode code 1217 = .ok (.iload 4, 2) := by decide +kernel
theorem dL_law_1219 : decode code 1219 = .ok (.iconst 1, 1) := by decide +kernel
theorem dL_law_1220 : decode code 1220 = .ok (.iadd, 1) := by decide +kernel
theorem dL_law_1221 : decode code 1221 = .ok (.iaload, 1) := by decide +kernel
theorem dL_law_1222 : decode code 1222 = .ok (.aload_n 0, 1) := by decide +kernel
theorem dL_law_1223 : decode code 1223 = .ok (.iload 4, 2) := by decide +kernel
theorem dL_law_1225 : decode code 1225 = .ok (.iconst 2, 1) := by decide +kernel
theorem dL_law_1226 : decode code 1226 = .ok (.iadd, 1) := by decide +kernel
theorem dL_law_1227 : decode code 1227 = .ok (.iaload, 1) := by decide +kernel
theorem dL_law_1228 : decode code 1228 = .ok (.aload_n 0, 1) := by decide +kernel
theorem dL_law_1229 : decode code 1229 = .ok (.iload 4, 2) := by decide +kernel
theorem dL_law_1231 : decode code 1231 = .ok (.iconst 3, 1) := by decide +kernel
theorem dL_law_1232 : decode code 1232 = .ok (.iadd, 1) := by decide +kernel
theorem dL_law_1233 : decode code 1233 = .ok (.iaload, 1) := by decide +kernel
theorem dL_law_1234 : decode code 1234 = .ok (.invokevirtual 159, 3) := by decide +kernel
theorem dL_law_1237 : decode code 1237 = .ok (.if_icmp .eq 902, 3) := by decide +kernel
theorem dL_law_1240 : decode code 1240 = .ok (.iconst 0, 1) := by decide +kernel
theorem dL_law_1241 : decode code 1241 = .ok (.ireturn, 1) := by decide +kernel
theorem dL_law_1242 : decode code 1242 = .ok (.aload_n 1, 1) := by decide +kernel
theorem dL_law_1243 : decode code 1243 = .ok (.aload_n 0, 1) := by decide +kernel
theorem dL_law_1244 : decode code 1244 = .ok (.iload 4, 2) := by decide +kernel
theorem dL_law_1246 : decode code 1246 = .ok (.iconst 1, 1) := by decide +kernel
theorem dL_law_1247 : decode code 1247 = .ok (.iadd, 1) := by decide +kernel
theorem dL_law_1248 : decode code 1248 = .ok (.iaload, 1) := by decide +kernel
theorem dL_law_1249 : decode code 1249 = .ok (.aload_n 0, 1) := by decide +kernel
theorem dL_law_1250 : decode code 1250 = .ok (.iload 4, 2) := by decide +kernel
theorem dL_law_1252 : decode code 1252 = .ok (.iconst 2, 1) := by decide +kernel
theorem dL_law_1253 : decode code 1253 = .ok (.iadd, 1) := by decide +kernel
theorem dL_law_1254 : decode code 1254 = .ok (.iaload, 1) := by decide +kernel
theorem dL_law_1255 : decode code 1255 = .ok (.aload_n 0, 1) := by decide +kernel
theorem dL_law_1256 : decode code 1256 = .ok (.iload 4, 2) := by decide +kernel
theorem dL_law_1258 : decode code 1258 = .ok (.iconst 3, 1) := by decide +kernel
theorem dL_law_1259 : decode code 1259 = .ok (.iadd, 1) := by decide +kernel
theorem dL_law_1260 : decode code 1260 = .ok (.iaload, 1) := by decide +kernel
theorem dL_law_1261 : decode code 1261 = .ok (.invokevirtual 160, 3) := by decide +kernel
theorem dL_law_1264 : decode code 1264 = .ok (.aload_n 2, 1) := by decide +kernel
theorem dL_law_1265 : decode code 1265 = .ok (.aload_n 0, 1) := by decide +kernel
theorem dL_law_1266 : decode code 1266 = .ok (.iload 4, 2) := by decide +kernel
theorem dL_law_1268 : decode code 1268 = .ok (.iconst 1, 1) := by decide +kernel
theorem dL_law_1269 : decode code 1269 = .ok (.iadd, 1) := by decide +kernel
theorem dL_law_1270 : decode code 1270 = .ok (.iaload, 1) := by decide +kernel
theorem dL_law_1271 : decode code 1271 = .ok (.aload_n 0, 1) := by decide +kernel
theorem dL_law_1272 : decode code 1272 = .ok (.iload 4, 2) := by decide +kernel
theorem dL_law_1274 : decode code 1274 = .ok (.iconst 2, 1) := by decide +kernel
theorem dL_law_1275 : decode code 1275 = .ok (.iadd, 1) := by decide +kernel
theorem dL_law_1276 : decode code 1276 = .ok (.iaload, 1) := by decide +kernel
theorem dL_law_1277 : decode code 1277 = .ok (.aload_n 0, 1) := by decide +kernel
theorem dL_law_1278 : decode code 1278 = .ok (.iload 4, 2) := by decide +kernel
theorem dL_law_1280 : decode code 1280 = .ok (.iconst 3, 1) := by decide +kernel
theorem dL_law_1281 : decode code 1281 = .ok (.iadd, 1) := by decide +kernel
theorem dL_law_1282 : decode code 1282 = .ok (.iaload, 1) := by decide +kernel
theorem dL_law_1283 : decode code 1283 = .ok (.invokevirtual 163, 3) := by decide +kernel
theorem dL_law_1286 : decode code 1286 = .ok (.if_icmp .eq 853, 3) := by decide +kernel
theorem dL_law_1289 : decode code 1289 = .ok (.iconst 0, 1) := by decide +kernel
theorem dL_law_1290 : decode code 1290 = .ok (.ireturn, 1) := by decide +kernel
theorem dL_law_1291 : decode code 1291 = .ok (.aload_n 1, 1) := by decide +kernel
theorem dL_law_1292 : decode code 1292 = .ok (.aload_n 0, 1) := by decide +kernel
theorem dL_law_1293 : decode code 1293 = .ok (.iload 4, 2) := by decide +kernel
theorem dL_law_1295 : decode code 1295 = .ok (.iconst 1, 1) := by decide +kernel
theorem dL_law_1296 : decode code 1296 = .ok (.iadd, 1) := by decide +kernel
theorem dL_law_1297 : decode code 1297 = .ok (.iaload, 1) := by decide +kernel
theorem dL_law_1298 : decode code 1298 = .ok (.aload_n 0, 1) := by decide +kernel
theorem dL_law_1299 : decode code 1299 = .ok (.iload 4, 2) := by decide +kernel
theorem dL_law_1301 : decode code 1301 = .ok (.iconst 2, 1) := by decide +kernel
theorem dL_law_1302 : decode code 1302 = .ok (.iadd, 1) := by decide +kernel
theorem dL_law_1303 : decode code 1303 = .ok (.iaload, 1) := by decide +kernel
theorem dL_law_1304 : decode code 1304 = .ok (.invokevirtual 164, 3) := by decide +kernel
theorem dL_law_1307 : decode code 1307 = .ok (.aload_n 2, 1) := by decide +kernel
theorem dL_law_1308 : decode code 1308 = .ok (.aload_n 0, 1) := by decide +kernel
theorem dL_law_1309 : decode code 1309 = .ok (.iload 4, 2) := by decide +kernel
theorem dL_law_1311 : decode code 1311 = .ok (.iconst 1, 1) := by decide +kernel
theorem dL_law_1312 : decode code 1312 = .ok (.iadd, 1) := by decide +kernel
theorem dL_law_1313 : decode code 1313 = .ok (.iaload, 1) := by decide +kernel
theorem dL_law_1314 : decode code 1314 = .ok (.aload_n 0, 1) := by decide +kernel
theorem dL_law_1315 : decode code 1315 = .ok (.iload 4, 2) := by decide +kernel
theorem dL_law_1317 : decode code 1317 = .ok (.iconst 2, 1) := by decide +kernel
theorem dL_law_1318 : decode code 1318 = .ok (.iadd, 1) := by decide +kernel
theorem dL_law_1319 : decode code 1319 = .ok (.iaload, 1) := by decide +kernel
theorem dL_law_1320 : decode code 1320 = .ok (.invokevirtual 167, 3) := by decide +kernel
theorem dL_law_1323 : decode code 1323 = .ok (.if_icmp .eq 816, 3) := by decide +kernel
theorem dL_law_1326 : decode code 1326 = .ok (.iconst 0, 1) := by decide +kernel
theorem dL_law_1327 : decode code 1327 = .ok (.ireturn, 1) := by decide +kernel
theorem dL_law_1328 : decode code 1328 = .ok (.aload_n 1, 1) := by decide +kernel
theorem dL_law_1329 : decode code 1329 = .ok (.aload_n 0, 1) := by decide +kernel
theorem dL_law_1330 : decode code 1330 = .ok (.iload 4, 2) := by decide +kernel
theorem dL_law_1332 : decode code 1332 = .ok (.iconst 1, 1) := by decide +kernel
theorem dL_law_1333 : decode code 1333 = .ok (.iadd, 1) := by decide +kernel
theorem dL_law_1334 : decode code 1334 = .ok (.iaload, 1) := by decide +kernel
theorem dL_law_1335 : decode code 1335 = .ok (.aload_n 0, 1) := by decide +kernel
theorem dL_law_1336 : decode code 1336 = .ok (.iload 4, 2) := by decide +kernel
theorem dL_law_1338 : decode code 1338 = .ok (.iconst 2, 1) := by decide +kernel
theorem dL_law_1339 : decode code 1339 = .ok (.iadd, 1) := by decide +kernel
theorem dL_law_1340 : decode code 1340 = .ok (.iaload, 1) := by decide +kernel
theorem dL_law_1341 : decode code 1341 = .ok (.invokevirtual 168, 3) := by decide +kernel
theorem dL_law_1344 : decode code 1344 = .ok (.aload_n 2, 1) := by decide +kernel
theorem dL_law_1345 : decode code 1345 = .ok (.aload_n 0, 1) := by decide +kernel
theorem dL_law_1346 : decode code 1346 = .ok (.iload 4, 2) := by decide +kernel
theorem dL_law_1348 : decode code 1348 = .ok (.iconst 1, 1) := by decide +kernel
theorem dL_law_1349 : decode code 1349 = .ok (.iadd, 1) := by decide +kernel
theorem dL_law_1350 : decode code 1350 = .ok (.iaload, 1) := by decide +kernel
theorem dL_law_1351 : decode code 1351 = .ok (.aload_n 0, 1) := by decide +kernel
theorem dL_law_1352 : decode code 1352 = .ok (.iload 4, 2) := by decide +kernel
theorem dL_law_1354 : decode code 1354 = .ok (.iconst 2, 1) := by decide +kernel
theorem dL_law_1355 : decode code 1355 = .ok (.iadd, 1) := by decide +kernel
theorem dL_law_1356 : decode code 1356 = .ok (.iaload, 1) := by decide +kernel
theorem dL_law_1357 : decode code 1357 = .ok (.invokevirtual 171, 3) := by decide +kernel
theorem dL_law_1360 : decode code 1360 = .ok (.if_icmp .eq 779, 3) := by decide +kernel
theorem dL_law_1363 : decode code 1363 = .ok (.iconst 0, 1) := by decide +kernel
theorem dL_law_1364 : decode code 1364 = .ok (.ireturn, 1) := by decide +kernel
theorem dL_law_1365 : decode code 1365 = .ok (.aload_n 1, 1) := by decide +kernel
theorem dL_law_1366 : decode code 1366 = .ok (.aload_n 0, 1) := by decide +kernel
theorem dL_law_1367 : decode code 1367 = .ok (.iload 4, 2) := by decide +kernel
theorem dL_law_1369 : decode code 1369 = .ok (.iconst 1, 1) := by decide +kernel
theorem dL_law_1370 : decode code 1370 = .ok (.iadd, 1) := by decide +kernel
theorem dL_law_1371 : decode code 1371 = .ok (.iaload, 1) := by decide +kernel
theorem dL_law_1372 : decode code 1372 = .ok (.aload_n 0, 1) := by decide +kernel
theorem dL_law_1373 : decode code 1373 = .ok (.iload 4, 2) := by decide +kernel
theorem dL_law_1375 : decode code 1375 = .ok (.iconst 2, 1) := by decide +kernel
theorem dL_law_1376 : decode code 1376 = .ok (.iadd, 1) := by decide +kernel
theorem dL_law_1377 : decode code 1377 = .ok (.iaload, 1) := by decide +kernel
theorem dL_law_1378 : decode code 1378 = .ok (.invokevirtual 172, 3) := by decide +kernel
theorem dL_law_1381 : decode code 1381 = .ok (.aload_n 2, 1) := by decide +kernel
theorem dL_law_1382 : decode code 1382 = .ok (.aload_n 0, 1) := by decide +kernel
theorem dL_law_1383 : decode code 1383 = .ok (.iload 4, 2) := by decide +kernel
theorem dL_law_1385 : decode code 1385 = .ok (.iconst 1, 1) := by decide +kernel
theorem dL_law_1386 : decode code 1386 = .ok (.iadd, 1) := by decide +kernel
theorem dL_law_1387 : decode code 1387 = .ok (.iaload, 1) := by decide +kernel
theorem dL_law_1388 : decode code 1388 = .ok (.aload_n 0, 1) := by decide +kernel
theorem dL_law_1389 : decode code 1389 = .ok (.iload 4, 2) := by decide +kernel
theorem dL_law_1391 : decode code 1391 = .ok (.iconst 2, 1) := by decide +kernel
theorem dL_law_1392 : decode code 1392 = .ok (.iadd, 1) := by decide +kernel
theorem dL_law_1393 : decode code 1393 = .ok (.iaload, 1) := by decide +kernel
theorem dL_law_1394 : decode code 1394 = .ok (.invokevirtual 175, 3) := by decide +kernel
theorem dL_law_1397 : decode code 1397 = .ok (.if_icmp .eq 742, 3) := by decide +kernel
theorem dL_law_1400 : decode code 1400 = .ok (.iconst 0, 1) := by decide +kernel
theorem dL_law_1401 : decode code 1401 = .ok (.ireturn, 1) := by decide +kernel
theorem dL_law_1402 : decode code 1402 = .ok (.aload_n 1, 1) := by decide +kernel
theorem dL_law_1403 : decode code 1403 = .ok (.aload_n 0, 1) := by decide +kernel
theorem dL_law_1404 : decode code 1404 = .ok (.iload 4, 2) := by decide +kernel
theorem dL_law_1406 : decode code 1406 = .ok (.iconst 1, 1) := by decide +kernel
theorem dL_law_1407 : decode code 1407 = .ok (.iadd, 1) := by decide +kernel
theorem dL_law_1408 : decode code 1408 = .ok (.iaload, 1) := by decide +kernel
theorem dL_law_1409 : decode code 1409 = .ok (.aload_n 0, 1) := by decide +kernel
theorem dL_law_1410 : decode code 1410 = .ok (.iload 4, 2) := by decide +kernel
theorem dL_law_1412 : decode code 1412 = .ok (.iconst 2, 1) := by decide +kernel
theorem dL_law_1413 : decode code 1413 = .ok (.iadd, 1) := by decide +kernel
theorem dL_law_1414 : decode code 1414 = .ok (.iaload, 1) := by decide +kernel
theorem dL_law_1415 : decode code 1415 = .ok (.invokevirtual 176, 3) := by decide +kernel
theorem dL_law_1418 : decode code 1418 = .ok (.aload_n 2, 1) := by decide +kernel
theorem dL_law_1419 : decode code 1419 = .ok (.aload_n 0, 1) := by decide +kernel
theorem dL_law_1420 : decode code 1420 = .ok (.iload 4, 2) := by decide +kernel
theorem dL_law_1422 : decode code 1422 = .ok (.iconst 1, 1) := by decide +kernel
theorem dL_law_1423 : decode code 1423 = .ok (.iadd, 1) := by decide +kernel
theorem dL_law_1424 : decode code 1424 = .ok (.iaload, 1) := by decide +kernel
theorem dL_law_1425 : decode code 1425 = .ok (.aload_n 0, 1) := by decide +kernel
theorem dL_law_1426 : decode code 1426 = .ok (.iload 4, 2) := by decide +kernel
theorem dL_law_1428 : decode code 1428 = .ok (.iconst 2, 1) := by decide +kernel
theorem dL_law_1429 : decode code 1429 = .ok (.iadd, 1) := by decide +kernel
theorem dL_law_1430 : decode code 1430 = .ok (.iaload, 1) := by decide +kernel
theorem dL_law_1431 : decode code 1431 = .ok (.invokevirtual 179, 3) := by decide +kernel
theorem dL_law_1434 : decode code 1434 = .ok (.if_icmp .eq 705, 3) := by decide +kernel
theorem dL_law_1437 : decode code 1437 = .ok (.iconst 0, 1) := by decide +kernel
theorem dL_law_1438 : decode code 1438 = .ok (.ireturn, 1) := by decide +kernel
theorem dL_law_1439 : decode code 1439 = .ok (.aload_n 1, 1) := by decide +kernel
theorem dL_law_1440 : decode code 1440 = .ok (.aload_n 0, 1) := by decide +kernel
theorem dL_law_1441 : decode code 1441 = .ok (.iload 4, 2) := by decide +kernel
theorem dL_law_1443 : decode code 1443 = .ok (.iconst 1, 1) := by decide +kernel
theorem dL_law_1444 : decode code 1444 = .ok (.iadd, 1) := by decide +kernel
theorem dL_law_1445 : decode code 1445 = .ok (.iaload, 1) := by decide +kernel
theorem dL_law_1446 : decode code 1446 = .ok (.aload_n 0, 1) := by decide +kernel
theorem dL_law_1447 : decode code 1447 = .ok (.iload 4, 2) := by decide +kernel
theorem dL_law_1449 : decode code 1449 = .ok (.iconst 2, 1) := by decide +kernel
theorem dL_law_1450 : decode code 1450 = .ok (.iadd, 1) := by decide +kernel
theorem dL_law_1451 : decode code 1451 = .ok (.iaload, 1) := by decide +kernel
theorem dL_law_1452 : decode code 1452 = .ok (.aload_n 0, 1) := by decide +kernel
theorem dL_law_1453 : decode code 1453 = .ok (.iload 4, 2) := by decide +kernel
theorem dL_law_1455 : decode code 1455 = .ok (.iconst 3, 1) := by decide +kernel
theorem dL_law_1456 : decode code 1456 = .ok (.iadd, 1) := by decide +kernel
theorem dL_law_1457 : decode code 1457 = .ok (.iaload, 1) := by decide +kernel
theorem dL_law_1458 : decode code 1458 = .ok (.invokevirtual 180, 3) := by decide +kernel
theorem dL_law_1461 : decode code 1461 = .ok (.aload_n 2, 1) := by decide +kernel
theorem dL_law_1462 : decode code 1462 = .ok (.aload_n 0, 1) := by decide +kernel
theorem dL_law_1463 : decode code 1463 = .ok (.iload 4, 2) := by decide +kernel
theorem dL_law_1465 : decode code 1465 = .ok (.iconst 1, 1) := by decide +kernel
theorem dL_law_1466 : decode code 1466 = .ok (.iadd, 1) := by decide +kernel
theorem dL_law_1467 : decode code 1467 = .ok (.iaload, 1) := by decide +kernel
theorem dL_law_1468 : decode code 1468 = .ok (.aload_n 0, 1) := by decide +kernel
theorem dL_law_1469 : decode code 1469 = .ok (.iload 4, 2) := by decide +kernel
theorem dL_law_1471 : decode code 1471 = .ok (.iconst 2, 1) := by decide +kernel
theorem dL_law_1472 : decode code 1472 = .ok (.iadd, 1) := by decide +kernel
theorem dL_law_1473 : decode code 1473 = .ok (.iaload, 1) := by decide +kernel
theorem dL_law_1474 : decode code 1474 = .ok (.aload_n 0, 1) := by decide +kernel
theorem dL_law_1475 : decode code 1475 = .ok (.iload 4, 2) := by decide +kernel
theorem dL_law_1477 : decode code 1477 = .ok (.iconst 3, 1) := by decide +kernel
theorem dL_law_1478 : decode code 1478 = .ok (.iadd, 1) := by decide +kernel
theorem dL_law_1479 : decode code 1479 = .ok (.iaload, 1) := by decide +kernel
theorem dL_law_1480 : decode code 1480 = .ok (.invokevirtual 183, 3) := by decide +kernel
theorem dL_law_1483 : decode code 1483 = .ok (.if_icmp .eq 656, 3) := by decide +kernel
theorem dL_law_1486 : decode code 1486 = .ok (.iconst 0, 1) := by decide +kernel
theorem dL_law_1487 : decode code 1487 = .ok (.ireturn, 1) := by decide +kernel
theorem dL_law_1488 : decode code 1488 = .ok (.aload_n 1, 1) := by decide +kernel
theorem dL_law_1489 : decode code 1489 = .ok (.aload_n 0, 1) := by decide +kernel
theorem dL_law_1490 : decode code 1490 = .ok (.iload 4, 2) := by decide +kernel
theorem dL_law_1492 : decode code 1492 = .ok (.iconst 1, 1) := by decide +kernel
theorem dL_law_1493 : decode code 1493 = .ok (.iadd, 1) := by decide +kernel
theorem dL_law_1494 : decode code 1494 = .ok (.iaload, 1) := by decide +kernel
theorem dL_law_1495 : decode code 1495 = .ok (.invokevirtual 184, 3) := by decide +kernel
theorem dL_law_1498 : decode code 1498 = .ok (.aload_n 2, 1) := by decide +kernel
theorem dL_law_1499 : decode code 1499 = .ok (.aload_n 0, 1) := by decide +kernel
theorem dL_law_1500 : decode code 1500 = .ok (.iload 4, 2) := by decide +kernel
theorem dL_law_1502 : decode code 1502 = .ok (.iconst 1, 1) := by decide +kernel
theorem dL_law_1503 : decode code 1503 = .ok (.iadd, 1) := by decide +kernel
theorem dL_law_1504 : decode code 1504 = .ok (.iaload, 1) := by decide +kernel
theorem dL_law_1505 : decode code 1505 = .ok (.invokevirtual 187, 3) := by decide +kernel
theorem dL_law_1508 : decode code 1508 = .ok (.if_icmp .eq 631, 3) := by decide +kernel
theorem dL_law_1511 : decode code 1511 = .ok (.iconst 0, 1) := by decide +kernel
theorem dL_law_1512 : decode code 1512 = .ok (.ireturn, 1) := by decide +kernel
theorem dL_law_1513 : decode code 1513 = .ok (.aload_n 1, 1) := by decide +kernel
theorem dL_law_1514 : decode code 1514 = .ok (.aload_n 0, 1) := by decide +kernel
theorem dL_law_1515 : decode code 1515 = .ok (.iload 4, 2) := by decide +kernel
theorem dL_law_1517 : decode code 1517 = .ok (.iconst 1, 1) := by decide +kernel
theorem dL_law_1518 : decode code 1518 = .ok (.iadd, 1) := by decide +kernel
theorem dL_law_1519 : decode code 1519 = .ok (.iaload, 1) := by decide +kernel
theorem dL_law_1520 : decode code 1520 = .ok (.aload_n 0, 1) := by decide +kernel
theorem dL_law_1521 : decode code 1521 = .ok (.iload 4, 2) := by decide +kernel
theorem dL_law_1523 : decode code 1523 = .ok (.iconst 2, 1) := by decide +kernel
theorem dL_law_1524 : decode code 1524 = .ok (.iadd, 1) := by decide +kernel
theorem dL_law_1525 : decode code 1525 = .ok (.iaload, 1) := by decide +kernel
theorem dL_law_1526 : decode code 1526 = .ok (.invokevirtual 188, 3) := by decide +kernel
theorem dL_law_1529 : decode code 1529 = .ok (.aload_n 2, 1) := by decide +kernel
theorem dL_law_1530 : decode code 1530 = .ok (.aload_n 0, 1) := by decide +kernel
theorem dL_law_1531 : decode code 1531 = .ok (.iload 4, 2) := by decide +kernel
theorem dL_law_1533 : decode code 1533 = .ok (.iconst 1, 1) := by decide +kernel
theorem dL_law_1534 : decode code 1534 = .ok (.iadd, 1) := by decide +kernel
theorem dL_law_1535 : decode code 1535 = .ok (.iaload, 1) := by decide +kernel
theorem dL_law_1536 : decode code 1536 = .ok (.aload_n 0, 1) := by decide +kernel
theorem dL_law_1537 : decode code 1537 = .ok (.iload 4, 2) := by decide +kernel
theorem dL_law_1539 : decode code 1539 = .ok (.iconst 2, 1) := by decide +kernel
theorem dL_law_1540 : decode code 1540 = .ok (.iadd, 1) := by decide +kernel
theorem dL_law_1541 : decode code 1541 = .ok (.iaload, 1) := by decide +kernel
theorem dL_law_1542 : decode code 1542 = .ok (.invokevirtual 191, 3) := by decide +kernel
theorem dL_law_1545 : decode code 1545 = .ok (.if_icmp .eq 594, 3) := by decide +kernel
theorem dL_law_1548 : decode code 1548 = .ok (.iconst 0, 1) := by decide +kernel
theorem dL_law_1549 : decode code 1549 = .ok (.ireturn, 1) := by decide +kernel
theorem dL_law_1550 : decode code 1550 = .ok (.aload_n 1, 1) := by decide +kernel
theorem dL_law_1551 : decode code 1551 = .ok (.aload_n 0, 1) := by decide +kernel
theorem dL_law_1552 : decode code 1552 = .ok (.iload 4, 2) := by decide +kernel
theorem dL_law_1554 : decode code 1554 = .ok (.iconst 1, 1) := by decide +kernel
theorem dL_law_1555 : decode code 1555 = .ok (.iadd, 1) := by decide +kernel
theorem dL_law_1556 : decode code 1556 = .ok (.iaload, 1) := by decide +kernel
theorem dL_law_1557 : decode code 1557 = .ok (.invokevirtual 192, 3) := by decide +kernel
theorem dL_law_1560 : decode code 1560 = .ok (.aload_n 2, 1) := by decide +kernel
theorem dL_law_1561 : decode code 1561 = .ok (.aload_n 0, 1) := by decide +kernel
theorem dL_law_1562 : decode code 1562 = .ok (.iload 4, 2) := by decide +kernel
theorem dL_law_1564 : decode code 1564 = .ok (.iconst 1, 1) := by decide +kernel
theorem dL_law_1565 : decode code 1565 = .ok (.iadd, 1) := by decide +kernel
theorem dL_law_1566 : decode code 1566 = .ok (.iaload, 1) := by decide +kernel
theorem dL_law_1567 : decode code 1567 = .ok (.invokevirtual 195, 3) := by decide +kernel
theorem dL_law_1570 : decode code 1570 = .ok (.if_icmp .eq 569, 3) := by decide +kernel
theorem dL_law_1573 : decode code 1573 = .ok (.iconst 0, 1) := by decide +kernel
theorem dL_law_1574 : decode code 1574 = .ok (.ireturn, 1) := by decide +kernel
theorem dL_law_1575 : decode code 1575 = .ok (.aload_n 1, 1) := by decide +kernel
theorem dL_law_1576 : decode code 1576 = .ok (.aload_n 0, 1) := by decide +kernel
theorem dL_law_1577 : decode code 1577 = .ok (.iload 4, 2) := by decide +kernel
theorem dL_law_1579 : decode code 1579 = .ok (.iconst 1, 1) := by decide +kernel
theorem dL_law_1580 : decode code 1580 = .ok (.iadd, 1) := by decide +kernel
theorem dL_law_1581 : decode code 1581 = .ok (.iaload, 1) := by decide +kernel
theorem dL_law_1582 : decode code 1582 = .ok (.aload_n 0, 1) := by decide +kernel
theorem dL_law_1583 : decode code 1583 = .ok (.iload 4, 2) := by decide +kernel
theorem dL_law_1585 : decode code 1585 = .ok (.iconst 2, 1) := by decide +kernel
theorem dL_law_1586 : decode code 1586 = .ok (.iadd, 1) := by decide +kernel
theorem dL_law_1587 : decode code 1587 = .ok (.iaload, 1) := by decide +kernel
theorem dL_law_1588 : decode code 1588 = .ok (.aload_n 0, 1) := by decide +kernel
theorem dL_law_1589 : decode code 1589 = .ok (.iload 4, 2) := by decide +kernel
theorem dL_law_1591 : decode code 1591 = .ok (.iconst 3, 1) := by decide +kernel
theorem dL_law_1592 : decode code 1592 = .ok (.iadd, 1) := by decide +kernel
theorem dL_law_1593 : decode code 1593 = .ok (.iaload, 1) := by decide +kernel
theorem dL_law_1594 : decode code 1594 = .ok (.invokevirtual 196, 3) := by decide +kernel
theorem dL_law_1597 : decode code 1597 = .ok (.aload_n 2, 1) := by decide +kernel
theorem dL_law_1598 : decode code 1598 = .ok (.aload_n 0, 1) := by decide +kernel
theorem dL_law_1599 : decode code 1599 = .ok (.iload 4, 2) := by decide +kernel
theorem dL_law_1601 : decode code 1601 = .ok (.iconst 1, 1) := by decide +kernel
theorem dL_law_1602 : decode code 1602 = .ok (.iadd, 1) := by decide +kernel
theorem dL_law_1603 : decode code 1603 = .ok (.iaload, 1) := by decide +kernel
theorem dL_law_1604 : decode code 1604 = .ok (.aload_n 0, 1) := by decide +kernel
theorem dL_law_1605 : decode code 1605 = .ok (.iload 4, 2) := by decide +kernel
theorem dL_law_1607 : decode code 1607 = .ok (.iconst 2, 1) := by decide +kernel
theorem dL_law_1608 : decode code 1608 = .ok (.iadd, 1) := by decide +kernel
theorem dL_law_1609 : decode code 1609 = .ok (.iaload, 1) := by decide +kernel
theorem dL_law_1610 : decode code 1610 = .ok (.aload_n 0, 1) := by decide +kernel
theorem dL_law_1611 : decode code 1611 = .ok (.iload 4, 2) := by decide +kernel
theorem dL_law_1613 : decode code 1613 = .ok (.iconst 3, 1) := by decide +kernel
theorem dL_law_1614 : decode code 1614 = .ok (.iadd, 1) := by decide +kernel
theorem dL_law_1615 : decode code 1615 = .ok (.iaload, 1) := by decide +kernel
theorem dL_law_1616 : decode code 1616 = .ok (.invokevirtual 199, 3) := by decide +kernel
theorem dL_law_1619 : decode code 1619 = .ok (.if_icmp .eq 520, 3) := by decide +kernel
theorem dL_law_1622 : decode code 1622 = .ok (.iconst 0, 1) := by decide +kernel
theorem dL_law_1623 : decode code 1623 = .ok (.ireturn, 1) := by decide +kernel
theorem dL_law_1624 : decode code 1624 = .ok (.aload_n 1, 1) := by decide +kernel
theorem dL_law_1625 : decode code 1625 = .ok (.aload_n 0, 1) := by decide +kernel
theorem dL_law_1626 : decode code 1626 = .ok (.iload 4, 2) := by decide +kernel
theorem dL_law_1628 : decode code 1628 = .ok (.iconst 1, 1) := by decide +kernel
theorem dL_law_1629 : decode code 1629 = .ok (.iadd, 1) := by decide +kernel
theorem dL_law_1630 : decode code 1630 = .ok (.iaload, 1) := by decide +kernel
theorem dL_law_1631 : decode code 1631 = .ok (.aload_n 0, 1) := by decide +kernel
theorem dL_law_1632 : decode code 1632 = .ok (.iload 4, 2) := by decide +kernel
theorem dL_law_1634 : decode code 1634 = .ok (.iconst 2, 1) := by decide +kernel
theorem dL_law_1635 : decode code 1635 = .ok (.iadd, 1) := by decide +kernel
theorem dL_law_1636 : decode code 1636 = .ok (.iaload, 1) := by decide +kernel
theorem dL_law_1637 : decode code 1637 = .ok (.aload_n 0, 1) := by decide +kernel
theorem dL_law_1638 : decode code 1638 = .ok (.iload 4, 2) := by decide +kernel
theorem dL_law_1640 : decode code 1640 = .ok (.iconst 3, 1) := by decide +kernel
theorem dL_law_1641 : decode code 1641 = .ok (.iadd, 1) := by decide +kernel
theorem dL_law_1642 : decode code 1642 = .ok (.iaload, 1) := by decide +kernel
theorem dL_law_1643 : decode code 1643 = .ok (.invokevirtual 200, 3) := by decide +kernel
theorem dL_law_1646 : decode code 1646 = .ok (.aload_n 2, 1) := by decide +kernel
theorem dL_law_1647 : decode code 1647 = .ok (.aload_n 0, 1) := by decide +kernel
theorem dL_law_1648 : decode code 1648 = .ok (.iload 4, 2) := by decide +kernel
theorem dL_law_1650 : decode code 1650 = .ok (.iconst 1, 1) := by decide +kernel
theorem dL_law_1651 : decode code 1651 = .ok (.iadd, 1) := by decide +kernel
theorem dL_law_1652 : decode code 1652 = .ok (.iaload, 1) := by decide +kernel
theorem dL_law_1653 : decode code 1653 = .ok (.aload_n 0, 1) := by decide +kernel
theorem dL_law_1654 : decode code 1654 = .ok (.iload 4, 2) := by decide +kernel
theorem dL_law_1656 : decode code 1656 = .ok (.iconst 2, 1) := by decide +kernel
theorem dL_law_1657 : decode code 1657 = .ok (.iadd, 1) := by decide +kernel
theorem dL_law_1658 : decode code 1658 = .ok (.iaload, 1) := by decide +kernel
theorem dL_law_1659 : decode code 1659 = .ok (.aload_n 0, 1) := by decide +kernel
theorem dL_law_1660 : decode code 1660 = .ok (.iload 4, 2) := by decide +kernel
theorem dL_law_1662 : decode code 1662 = .ok (.iconst 3, 1) := by decide +kernel
theorem dL_law_1663 : decode code 1663 = .ok (.iadd, 1) := by decide +kernel
theorem dL_law_1664 : decode code 1664 = .ok (.iaload, 1) := by decide +kernel
theorem dL_law_1665 : decode code 1665 = .ok (.invokevirtual 203, 3) := by decide +kernel
theorem dL_law_1668 : decode code 1668 = .ok (.if_icmp .eq 471, 3) := by decide +kernel
theorem dL_law_1671 : decode code 1671 = .ok (.iconst 0, 1) := by decide +kernel
theorem dL_law_1672 : decode code 1672 = .ok (.ireturn, 1) := by decide +kernel
theorem dL_law_1673 : decode code 1673 = .ok (.aload_n 1, 1) := by decide +kernel
theorem dL_law_1674 : decode code 1674 = .ok (.aload_n 0, 1) := by decide +kernel
theorem dL_law_1675 : decode code 1675 = .ok (.iload 4, 2) := by decide +kernel
theorem dL_law_1677 : decode code 1677 = .ok (.iconst 1, 1) := by decide +kernel
theorem dL_law_1678 : decode code 1678 = .ok (.iadd, 1) := by decide +kernel
theorem dL_law_1679 : decode code 1679 = .ok (.iaload, 1) := by decide +kernel
theorem dL_law_1680 : decode code 1680 = .ok (.invokevirtual 204, 3) := by decide +kernel
theorem dL_law_1683 : decode code 1683 = .ok (.aload_n 2, 1) := by decide +kernel
theorem dL_law_1684 : decode code 1684 = .ok (.aload_n 0, 1) := by decide +kernel
theorem dL_law_1685 : decode code 1685 = .ok (.iload 4, 2) := by decide +kernel
theorem dL_law_1687 : decode code 1687 = .ok (.iconst 1, 1) := by decide +kernel
theorem dL_law_1688 : decode code 1688 = .ok (.iadd, 1) := by decide +kernel
theorem dL_law_1689 : decode code 1689 = .ok (.iaload, 1) := by decide +kernel
theorem dL_law_1690 : decode code 1690 = .ok (.invokevirtual 207, 3) := by decide +kernel
theorem dL_law_1693 : decode code 1693 = .ok (.if_icmp .eq 446, 3) := by decide +kernel
theorem dL_law_1696 : decode code 1696 = .ok (.iconst 0, 1) := by decide +kernel
theorem dL_law_1697 : decode code 1697 = .ok (.ireturn, 1) := by decide +kernel
theorem dL_law_1698 : decode code 1698 = .ok (.aload_n 1, 1) := by decide +kernel
theorem dL_law_1699 : decode code 1699 = .ok (.aload_n 0, 1) := by decide +kernel
theorem dL_law_1700 : decode code 1700 = .ok (.iload 4, 2) := by decide +kernel
theorem dL_law_1702 : decode code 1702 = .ok (.iconst 1, 1) := by decide +kernel
theorem dL_law_1703 : decode code 1703 = .ok (.iadd, 1) := by decide +kernel
theorem dL_law_1704 : decode code 1704 = .ok (.iaload, 1) := by decide +kernel
theorem dL_law_1705 : decode code 1705 = .ok (.invokevirtual 208, 3) := by decide +kernel
theorem dL_law_1708 : decode code 1708 = .ok (.aload_n 2, 1) := by decide +kernel
theorem dL_law_1709 : decode code 1709 = .ok (.aload_n 0, 1) := by decide +kernel
theorem dL_law_1710 : decode code 1710 = .ok (.iload 4, 2) := by decide +kernel
theorem dL_law_1712 : decode code 1712 = .ok (.iconst 1, 1) := by decide +kernel
theorem dL_law_1713 : decode code 1713 = .ok (.iadd, 1) := by decide +kernel
theorem dL_law_1714 : decode code 1714 = .ok (.iaload, 1) := by decide +kernel
theorem dL_law_1715 : decode code 1715 = .ok (.invokevirtual 211, 3) := by decide +kernel
theorem dL_law_1718 : decode code 1718 = .ok (.if_icmp .eq 421, 3) := by decide +kernel
theorem dL_law_1721 : decode code 1721 = .ok (.iconst 0, 1) := by decide +kernel
theorem dL_law_1722 : decode code 1722 = .ok (.ireturn, 1) := by decide +kernel
theorem dL_law_1723 : decode code 1723 = .ok (.aload_n 1, 1) := by decide +kernel
theorem dL_law_1724 : decode code 1724 = .ok (.aload_n 0, 1) := by decide +kernel
theorem dL_law_1725 : decode code 1725 = .ok (.iload 4, 2) := by decide +kernel
theorem dL_law_1727 : decode code 1727 = .ok (.iconst 1, 1) := by decide +kernel
theorem dL_law_1728 : decode code 1728 = .ok (.iadd, 1) := by decide +kernel
theorem dL_law_1729 : decode code 1729 = .ok (.iaload, 1) := by decide +kernel
theorem dL_law_1730 : decode code 1730 = .ok (.aload_n 0, 1) := by decide +kernel
theorem dL_law_1731 : decode code 1731 = .ok (.iload 4, 2) := by decide +kernel
theorem dL_law_1733 : decode code 1733 = .ok (.iconst 2, 1) := by decide +kernel
theorem dL_law_1734 : decode code 1734 = .ok (.iadd, 1) := by decide +kernel
theorem dL_law_1735 : decode code 1735 = .ok (.iaload, 1) := by decide +kernel
theorem dL_law_1736 : decode code 1736 = .ok (.invokevirtual 212, 3) := by decide +kernel
theorem dL_law_1739 : decode code 1739 = .ok (.aload_n 2, 1) := by decide +kernel
theorem dL_law_1740 : decode code 1740 = .ok (.aload_n 0, 1) := by decide +kernel
theorem dL_law_1741 : decode code 1741 = .ok (.iload 4, 2) := by decide +kernel
theorem dL_law_1743 : decode code 1743 = .ok (.iconst 1, 1) := by decide +kernel
theorem dL_law_1744 : decode code 1744 = .ok (.iadd, 1) := by decide +kernel
theorem dL_law_1745 : decode code 1745 = .ok (.iaload, 1) := by decide +kernel
theorem dL_law_1746 : decode code 1746 = .ok (.aload_n 0, 1) := by decide +kernel
theorem dL_law_1747 : decode code 1747 = .ok (.iload 4, 2) := by decide +kernel
theorem dL_law_1749 : decode code 1749 = .ok (.iconst 2, 1) := by decide +kernel
theorem dL_law_1750 : decode code 1750 = .ok (.iadd, 1) := by decide +kernel
theorem dL_law_1751 : decode code 1751 = .ok (.iaload, 1) := by decide +kernel
theorem dL_law_1752 : decode code 1752 = .ok (.invokevirtual 215, 3) := by decide +kernel
theorem dL_law_1755 : decode code 1755 = .ok (.if_icmp .eq 384, 3) := by decide +kernel
theorem dL_law_1758 : decode code 1758 = .ok (.iconst 0, 1) := by decide +kernel
theorem dL_law_1759 : decode code 1759 = .ok (.ireturn, 1) := by decide +kernel
theorem dL_law_1760 : decode code 1760 = .ok (.aload_n 1, 1) := by decide +kernel
theorem dL_law_1761 : decode code 1761 = .ok (.aload_n 0, 1) := by decide +kernel
theorem dL_law_1762 : decode code 1762 = .ok (.iload 4, 2) := by decide +kernel
theorem dL_law_1764 : decode code 1764 = .ok (.iconst 1, 1) := by decide +kernel
theorem dL_law_1765 : decode code 1765 = .ok (.iadd, 1) := by decide +kernel
theorem dL_law_1766 : decode code 1766 = .ok (.iaload, 1) := by decide +kernel
theorem dL_law_1767 : decode code 1767 = .ok (.aload_n 0, 1) := by decide +kernel
theorem dL_law_1768 : decode code 1768 = .ok (.iload 4, 2) := by decide +kernel
theorem dL_law_1770 : decode code 1770 = .ok (.iconst 2, 1) := by decide +kernel
theorem dL_law_1771 : decode code 1771 = .ok (.iadd, 1) := by decide +kernel
theorem dL_law_1772 : decode code 1772 = .ok (.iaload, 1) := by decide +kernel
theorem dL_law_1773 : decode code 1773 = .ok (.invokevirtual 216, 3) := by decide +kernel
theorem dL_law_1776 : decode code 1776 = .ok (.aload_n 2, 1) := by decide +kernel
theorem dL_law_1777 : decode code 1777 = .ok (.aload_n 0, 1) := by decide +kernel
theorem dL_law_1778 : decode code 1778 = .ok (.iload 4, 2) := by decide +kernel
theorem dL_law_1780 : decode code 1780 = .ok (.iconst 1, 1) := by decide +kernel
theorem dL_law_1781 : decode code 1781 = .ok (.iadd, 1) := by decide +kernel
theorem dL_law_1782 : decode code 1782 = .ok (.iaload, 1) := by decide +kernel
theorem dL_law_1783 : decode code 1783 = .ok (.aload_n 0, 1) := by decide +kernel
theorem dL_law_1784 : decode code 1784 = .ok (.iload 4, 2) := by decide +kernel
theorem dL_law_1786 : decode code 1786 = .ok (.iconst 2, 1) := by decide +kernel
theorem dL_law_1787 : decode code 1787 = .ok (.iadd, 1) := by decide +kernel
theorem dL_law_1788 : decode code 1788 = .ok (.iaload, 1) := by decide +kernel
theorem dL_law_1789 : decode code 1789 = .ok (.invokevirtual 219, 3) := by decide +kernel
theorem dL_law_1792 : decode code 1792 = .ok (.if_icmp .eq 347, 3) := by decide +kernel
theorem dL_law_1795 : decode code 1795 = .ok (.iconst 0, 1) := by decide +kernel
theorem dL_law_1796 : decode code 1796 = .ok (.ireturn, 1) := by decide +kernel
theorem dL_law_1797 : decode code 1797 = .ok (.aload_n 1, 1) := by decide +kernel
theorem dL_law_1798 : decode code 1798 = .ok (.aload_n 0, 1) := by decide +kernel
theorem dL_law_1799 : decode code 1799 = .ok (.iload 4, 2) := by decide +kernel
theorem dL_law_1801 : decode code 1801 = .ok (.iconst 1, 1) := by decide +kernel
theorem dL_law_1802 : decode code 1802 = .ok (.iadd, 1) := by decide +kernel
theorem dL_law_1803 : decode code 1803 = .ok (.iaload, 1) := by decide +kernel
theorem dL_law_1804 : decode code 1804 = .ok (.invokevirtual 220, 3) := by decide +kernel
theorem dL_law_1807 : decode code 1807 = .ok (.aload_n 2, 1) := by decide +kernel
theorem dL_law_1808 : decode code 1808 = .ok (.aload_n 0, 1) := by decide +kernel
theorem dL_law_1809 : decode code 1809 = .ok (.iload 4, 2) := by decide +kernel
theorem dL_law_1811 : decode code 1811 = .ok (.iconst 1, 1) := by decide +kernel
theorem dL_law_1812 : decode code 1812 = .ok (.iadd, 1) := by decide +kernel
theorem dL_law_1813 : decode code 1813 = .ok (.iaload, 1) := by decide +kernel
theorem dL_law_1814 : decode code 1814 = .ok (.invokevirtual 223, 3) := by decide +kernel
theorem dL_law_1817 : decode code 1817 = .ok (.if_icmp .eq 322, 3) := by decide +kernel
theorem dL_law_1820 : decode code 1820 = .ok (.iconst 0, 1) := by decide +kernel
theorem dL_law_1821 : decode code 1821 = .ok (.ireturn, 1) := by decide +kernel
theorem dL_law_1822 : decode code 1822 = .ok (.aload_n 1, 1) := by decide +kernel
theorem dL_law_1823 : decode code 1823 = .ok (.aload_n 0, 1) := by decide +kernel
theorem dL_law_1824 : decode code 1824 = .ok (.iload 4, 2) := by decide +kernel
theorem dL_law_1826 : decode code 1826 = .ok (.iconst 1, 1) := by decide +kernel
theorem dL_law_1827 : decode code 1827 = .ok (.iadd, 1) := by decide +kernel
theorem dL_law_1828 : decode code 1828 = .ok (.iaload, 1) := by decide +kernel
theorem dL_law_1829 : decode code 1829 = .ok (.invokevirtual 224, 3) := by decide +kernel
theorem dL_law_1832 : decode code 1832 = .ok (.aload_n 2, 1) := by decide +kernel
theorem dL_law_1833 : decode code 1833 = .ok (.aload_n 0, 1) := by decide +kernel
theorem dL_law_1834 : decode code 1834 = .ok (.iload 4, 2) := by decide +kernel
theorem dL_law_1836 : decode code 1836 = .ok (.iconst 1, 1) := by decide +kernel
theorem dL_law_1837 : decode code 1837 = .ok (.iadd, 1) := by decide +kernel
theorem dL_law_1838 : decode code 1838 = .ok (.iaload, 1) := by decide +kernel
theorem dL_law_1839 : decode code 1839 = .ok (.invokevirtual 227, 3) := by decide +kernel
theorem dL_law_1842 : decode code 1842 = .ok (.if_icmp .eq 297, 3) := by decide +kernel
theorem dL_law_1845 : decode code 1845 = .ok (.iconst 0, 1) := by decide +kernel
theorem dL_law_1846 : decode code 1846 = .ok (.ireturn, 1) := by decide +kernel
theorem dL_law_1847 : decode code 1847 = .ok (.aload_n 1, 1) := by decide +kernel
theorem dL_law_1848 : decode code 1848 = .ok (.aload_n 0, 1) := by decide +kernel
theorem dL_law_1849 : decode code 1849 = .ok (.iload 4, 2) := by decide +kernel
theorem dL_law_1851 : decode code 1851 = .ok (.iconst 1, 1) := by decide +kernel
theorem dL_law_1852 : decode code 1852 = .ok (.iadd, 1) := by decide +kernel
theorem dL_law_1853 : decode code 1853 = .ok (.iaload, 1) := by decide +kernel
theorem dL_law_1854 : decode code 1854 = .ok (.aload_n 0, 1) := by decide +kernel
theorem dL_law_1855 : decode code 1855 = .ok (.iload 4, 2) := by decide +kernel
theorem dL_law_1857 : decode code 1857 = .ok (.iconst 2, 1) := by decide +kernel
theorem dL_law_1858 : decode code 1858 = .ok (.iadd, 1) := by decide +kernel
theorem dL_law_1859 : decode code 1859 = .ok (.iaload, 1) := by decide +kernel
theorem dL_law_1860 : decode code 1860 = .ok (.aload_n 0, 1) := by decide +kernel
theorem dL_law_1861 : decode code 1861 = .ok (.iload 4, 2) := by decide +kernel
theorem dL_law_1863 : decode code 1863 = .ok (.iconst 3, 1) := by decide +kernel
theorem dL_law_1864 : decode code 1864 = .ok (.iadd, 1) := by decide +kernel
theorem dL_law_1865 : decode code 1865 = .ok (.iaload, 1) := by decide +kernel
theorem dL_law_1866 : decode code 1866 = .ok (.invokevirtual 228, 3) := by decide +kernel
theorem dL_law_1869 : decode code 1869 = .ok (.aload_n 2, 1) := by decide +kernel
theorem dL_law_1870 : decode code 1870 = .ok (.aload_n 0, 1) := by decide +kernel
theorem dL_law_1871 : decode code 1871 = .ok (.iload 4, 2) := by decide +kernel
theorem dL_law_1873 : decode code 1873 = .ok (.iconst 1, 1) := by decide +kernel
theorem dL_law_1874 : decode code 1874 = .ok (.iadd, 1) := by decide +kernel
theorem dL_law_1875 : decode code 1875 = .ok (.iaload, 1) := by decide +kernel
theorem dL_law_1876 : decode code 1876 = .ok (.aload_n 0, 1) := by decide +kernel
theorem dL_law_1877 : decode code 1877 = .ok (.iload 4, 2) := by decide +kernel
theorem dL_law_1879 : decode code 1879 = .ok (.iconst 2, 1) := by decide +kernel
theorem dL_law_1880 : decode code 1880 = .ok (.iadd, 1) := by decide +kernel
theorem dL_law_1881 : decode code 1881 = .ok (.iaload, 1) := by decide +kernel
theorem dL_law_1882 : decode code 1882 = .ok (.aload_n 0, 1) := by decide +kernel
theorem dL_law_1883 : decode code 1883 = .ok (.iload 4, 2) := by decide +kernel
theorem dL_law_1885 : decode code 1885 = .ok (.iconst 3, 1) := by decide +kernel
theorem dL_law_1886 : decode code 1886 = .ok (.iadd, 1) := by decide +kernel
theorem dL_law_1887 : decode code 1887 = .ok (.iaload, 1) := by decide +kernel
theorem dL_law_1888 : decode code 1888 = .ok (.invokevirtual 231, 3) := by decide +kernel
theorem dL_law_1891 : decode code 1891 = .ok (.if_icmp .eq 248, 3) := by decide +kernel
theorem dL_law_1894 : decode code 1894 = .ok (.iconst 0, 1) := by decide +kernel
theorem dL_law_1895 : decode code 1895 = .ok (.ireturn, 1) := by decide +kernel
theorem dL_law_1896 : decode code 1896 = .ok (.aload_n 1, 1) := by decide +kernel
theorem dL_law_1897 : decode code 1897 = .ok (.aload_n 0, 1) := by decide +kernel
theorem dL_law_1898 : decode code 1898 = .ok (.iload 4, 2) := by decide +kernel
theorem dL_law_1900 : decode code 1900 = .ok (.iconst 1, 1) := by decide +kernel
theorem dL_law_1901 : decode code 1901 = .ok (.iadd, 1) := by decide +kernel
theorem dL_law_1902 : decode code 1902 = .ok (.iaload, 1) := by decide +kernel
theorem dL_law_1903 : decode code 1903 = .ok (.invokevirtual 232, 3) := by decide +kernel
theorem dL_law_1906 : decode code 1906 = .ok (.aload_n 2, 1) := by decide +kernel
theorem dL_law_1907 : decode code 1907 = .ok (.aload_n 0, 1) := by decide +kernel
theorem dL_law_1908 : decode code 1908 = .ok (.iload 4, 2) := by decide +kernel
theorem dL_law_1910 : decode code 1910 = .ok (.iconst 1, 1) := by decide +kernel
theorem dL_law_1911 : decode code 1911 = .ok (.iadd, 1) := by decide +kernel
theorem dL_law_1912 : decode code 1912 = .ok (.iaload, 1) := by decide +kernel
theorem dL_law_1913 : decode code 1913 = .ok (.invokevirtual 235, 3) := by decide +kernel
theorem dL_law_1916 : decode code 1916 = .ok (.if_icmp .eq 223, 3) := by decide +kernel
theorem dL_law_1919 : decode code 1919 = .ok (.iconst 0, 1) := by decide +kernel
theorem dL_law_1920 : decode code 1920 = .ok (.ireturn, 1) := by decide +kernel
theorem dL_law_1921 : decode code 1921 = .ok (.aload_n 1, 1) := by decide +kernel
theorem dL_law_1922 : decode code 1922 = .ok (.aload_n 0, 1) := by decide +kernel
theorem dL_law_1923 : decode code 1923 = .ok (.iload 4, 2) := by decide +kernel
theorem dL_law_1925 : decode code 1925 = .ok (.iconst 1, 1) := by decide +kernel
theorem dL_law_1926 : decode code 1926 = .ok (.iadd, 1) := by decide +kernel
theorem dL_law_1927 : decode code 1927 = .ok (.iaload, 1) := by decide +kernel
theorem dL_law_1928 : decode code 1928 = .ok (.aload_n 0, 1) := by decide +kernel
theorem dL_law_1929 : decode code 1929 = .ok (.iload 4, 2) := by decide +kernel
theorem dL_law_1931 : decode code 1931 = .ok (.iconst 2, 1) := by decide +kernel
theorem dL_law_1932 : decode code 1932 = .ok (.iadd, 1) := by decide +kernel
theorem dL_law_1933 : decode code 1933 = .ok (.iaload, 1) := by decide +kernel
theorem dL_law_1934 : decode code 1934 = .ok (.aload_n 0, 1) := by decide +kernel
theorem dL_law_1935 : decode code 1935 = .ok (.iload 4, 2) := by decide +kernel
theorem dL_law_1937 : decode code 1937 = .ok (.iconst 3, 1) := by decide +kernel
theorem dL_law_1938 : decode code 1938 = .ok (.iadd, 1) := by decide +kernel
theorem dL_law_1939 : decode code 1939 = .ok (.iaload, 1) := by decide +kernel
theorem dL_law_1940 : decode code 1940 = .ok (.invokevirtual 236, 3) := by decide +kernel
theorem dL_law_1943 : decode code 1943 = .ok (.aload_n 2, 1) := by decide +kernel
theorem dL_law_1944 : decode code 1944 = .ok (.aload_n 0, 1) := by decide +kernel
theorem dL_law_1945 : decode code 1945 = .ok (.iload 4, 2) := by decide +kernel
theorem dL_law_1947 : decode code 1947 = .ok (.iconst 1, 1) := by decide +kernel
theorem dL_law_1948 : decode code 1948 = .ok (.iadd, 1) := by decide +kernel
theorem dL_law_1949 : decode code 1949 = .ok (.iaload, 1) := by decide +kernel
theorem dL_law_1950 : decode code 1950 = .ok (.aload_n 0, 1) := by decide +kernel
theorem dL_law_1951 : decode code 1951 = .ok (.iload 4, 2) := by decide +kernel
theorem dL_law_1953 : decode code 1953 = .ok (.iconst 2, 1) := by decide +kernel
theorem dL_law_1954 : decode code 1954 = .ok (.iadd, 1) := by decide +kernel
theorem dL_law_1955 : decode code 1955 = .ok (.iaload, 1) := by decide +kernel
theorem dL_law_1956 : decode code 1956 = .ok (.aload_n 0, 1) := by decide +kernel
theorem dL_law_1957 : decode code 1957 = .ok (.iload 4, 2) := by decide +kernel
theorem dL_law_1959 : decode code 1959 = .ok (.iconst 3, 1) := by decide +kernel
theorem dL_law_1960 : decode code 1960 = .ok (.iadd, 1) := by decide +kernel
theorem dL_law_1961 : decode code 1961 = .ok (.iaload, 1) := by decide +kernel
theorem dL_law_1962 : decode code 1962 = .ok (.invokevirtual 239, 3) := by decide +kernel
theorem dL_law_1965 : decode code 1965 = .ok (.if_icmp .eq 174, 3) := by decide +kernel
theorem dL_law_1968 : decode code 1968 = .ok (.iconst 0, 1) := by decide +kernel
theorem dL_law_1969 : decode code 1969 = .ok (.ireturn, 1) := by decide +kernel
theorem dL_law_1970 : decode code 1970 = .ok (.aload_n 1, 1) := by decide +kernel
theorem dL_law_1971 : decode code 1971 = .ok (.aload_n 0, 1) := by decide +kernel
theorem dL_law_1972 : decode code 1972 = .ok (.iload 4, 2) := by decide +kernel
theorem dL_law_1974 : decode code 1974 = .ok (.iconst 1, 1) := by decide +kernel
theorem dL_law_1975 : decode code 1975 = .ok (.iadd, 1) := by decide +kernel
theorem dL_law_1976 : decode code 1976 = .ok (.iaload, 1) := by decide +kernel
theorem dL_law_1977 : decode code 1977 = .ok (.invokevirtual 240, 3) := by decide +kernel
theorem dL_law_1980 : decode code 1980 = .ok (.aload_n 2, 1) := by decide +kernel
theorem dL_law_1981 : decode code 1981 = .ok (.aload_n 0, 1) := by decide +kernel
theorem dL_law_1982 : decode code 1982 = .ok (.iload 4, 2) := by decide +kernel
theorem dL_law_1984 : decode code 1984 = .ok (.iconst 1, 1) := by decide +kernel
theorem dL_law_1985 : decode code 1985 = .ok (.iadd, 1) := by decide +kernel
theorem dL_law_1986 : decode code 1986 = .ok (.iaload, 1) := by decide +kernel
theorem dL_law_1987 : decode code 1987 = .ok (.invokevirtual 243, 3) := by decide +kernel
theorem dL_law_1990 : decode code 1990 = .ok (.if_icmp .eq 149, 3) := by decide +kernel
theorem dL_law_1993 : decode code 1993 = .ok (.iconst 0, 1) := by decide +kernel
theorem dL_law_1994 : decode code 1994 = .ok (.ireturn, 1) := by decide +kernel
theorem dL_law_1995 : decode code 1995 = .ok (.aload_n 1, 1) := by decide +kernel
theorem dL_law_1996 : decode code 1996 = .ok (.invokevirtual 244, 3) := by decide +kernel
theorem dL_law_1999 : decode code 1999 = .ok (.aload_n 2, 1) := by decide +kernel
theorem dL_law_2000 : decode code 2000 = .ok (.invokevirtual 247, 3) := by decide +kernel
theorem dL_law_2003 : decode code 2003 = .ok (.if_icmp .eq 136, 3) := by decide +kernel
theorem dL_law_2006 : decode code 2006 = .ok (.iconst 0, 1) := by decide +kernel
theorem dL_law_2007 : decode code 2007 = .ok (.ireturn, 1) := by decide +kernel
theorem dL_law_2008 : decode code 2008 = .ok (.aload_n 1, 1) := by decide +kernel
theorem dL_law_2009 : decode code 2009 = .ok (.invokevirtual 248, 3) := by decide +kernel
theorem dL_law_2012 : decode code 2012 = .ok (.aload_n 2, 1) := by decide +kernel
theorem dL_law_2013 : decode code 2013 = .ok (.invokevirtual 251, 3) := by decide +kernel
theorem dL_law_2016 : decode code 2016 = .ok (.if_icmp .eq 123, 3) := by decide +kernel
theorem dL_law_2019 : decode code 2019 = .ok (.iconst 0, 1) := by decide +kernel
theorem dL_law_2020 : decode code 2020 = .ok (.ireturn, 1) := by decide +kernel
theorem dL_law_2021 : decode code 2021 = .ok (.aload_n 1, 1) := by decide +kernel
theorem dL_law_2022 : decode code 2022 = .ok (.invokevirtual 252, 3) := by decide +kernel
theorem dL_law_2025 : decode code 2025 = .ok (.aload_n 2, 1) := by decide +kernel
theorem dL_law_2026 : decode code 2026 = .ok (.invokevirtual 255, 3) := by decide +kernel
theorem dL_law_2029 : decode code 2029 = .ok (.if_icmp .eq 110, 3) := by decide +kernel
theorem dL_law_2032 : decode code 2032 = .ok (.iconst 0, 1) := by decide +kernel
theorem dL_law_2033 : decode code 2033 = .ok (.ireturn, 1) := by decide +kernel
theorem dL_law_2034 : decode code 2034 = .ok (.aload_n 1, 1) := by decide +kernel
theorem dL_law_2035 : decode code 2035 = .ok (.aload_n 0, 1) := by decide +kernel
theorem dL_law_2036 : decode code 2036 = .ok (.iload 4, 2) := by decide +kernel
theorem dL_law_2038 : decode code 2038 = .ok (.iconst 1, 1) := by decide +kernel
theorem dL_law_2039 : decode code 2039 = .ok (.iadd, 1) := by decide +kernel
theorem dL_law_2040 : decode code 2040 = .ok (.iaload, 1) := by decide +kernel
theorem dL_law_2041 : decode code 2041 = .ok (.invokevirtual 256, 3) := by decide +kernel
theorem dL_law_2044 : decode code 2044 = .ok (.aload_n 2, 1) := by decide +kernel
theorem dL_law_2045 : decode code 2045 = .ok (.aload_n 0, 1) := by decide +kernel
theorem dL_law_2046 : decode code 2046 = .ok (.iload 4, 2) := by decide +kernel
theorem dL_law_2048 : decode code 2048 = .ok (.iconst 1, 1) := by decide +kernel
theorem dL_law_2049 : decode code 2049 = .ok (.iadd, 1) := by decide +kernel
theorem dL_law_2050 : decode code 2050 = .ok (.iaload, 1) := by decide +kernel
theorem dL_law_2051 : decode code 2051 = .ok (.invokevirtual 259, 3) := by decide +kernel
theorem dL_law_2054 : decode code 2054 = .ok (.if_icmp .eq 85, 3) := by decide +kernel
theorem dL_law_2057 : decode code 2057 = .ok (.iconst 0, 1) := by decide +kernel
theorem dL_law_2058 : decode code 2058 = .ok (.ireturn, 1) := by decide +kernel
theorem dL_law_2059 : decode code 2059 = .ok (.aload_n 1, 1) := by decide +kernel
theorem dL_law_2060 : decode code 2060 = .ok (.aload_n 0, 1) := by decide +kernel
theorem dL_law_2061 : decode code 2061 = .ok (.iload 4, 2) := by decide +kernel
theorem dL_law_2063 : decode code 2063 = .ok (.iconst 1, 1) := by decide +kernel
theorem dL_law_2064 : decode code 2064 = .ok (.iadd, 1) := by decide +kernel
theorem dL_law_2065 : decode code 2065 = .ok (.iaload, 1) := by decide +kernel
theorem dL_law_2066 : decode code 2066 = .ok (.invokevirtual 260, 3) := by decide +kernel
theorem dL_law_2069 : decode code 2069 = .ok (.aload_n 2, 1) := by decide +kernel
theorem dL_law_2070 : decode code 2070 = .ok (.aload_n 0, 1) := by decide +kernel
theorem dL_law_2071 : decode code 2071 = .ok (.iload 4, 2) := by decide +kernel
theorem dL_law_2073 : decode code 2073 = .ok (.iconst 1, 1) := by decide +kernel
theorem dL_law_2074 : decode code 2074 = .ok (.iadd, 1) := by decide +kernel
theorem dL_law_2075 : decode code 2075 = .ok (.iaload, 1) := by decide +kernel
theorem dL_law_2076 : decode code 2076 = .ok (.invokevirtual 263, 3) := by decide +kernel
theorem dL_law_2079 : decode code 2079 = .ok (.if_icmp .eq 60, 3) := by decide +kernel
theorem dL_law_2082 : decode code 2082 = .ok (.iconst 0, 1) := by decide +kernel
theorem dL_law_2083 : decode code 2083 = .ok (.ireturn, 1) := by decide +kernel
theorem dL_law_2084 : decode code 2084 = .ok (.aload_n 1, 1) := by decide +kernel
theorem dL_law_2085 : decode code 2085 = .ok (.aload_n 0, 1) := by decide +kernel
theorem dL_law_2086 : decode code 2086 = .ok (.iload 4, 2) := by decide +kernel
theorem dL_law_2088 : decode code 2088 = .ok (.iconst 1, 1) := by decide +kernel
theorem dL_law_2089 : decode code 2089 = .ok (.iadd, 1) := by decide +kernel
theorem dL_law_2090 : decode code 2090 = .ok (.iaload, 1) := by decide +kernel
theorem dL_law_2091 : decode code 2091 = .ok (.aload_n 3, 1) := by decide +kernel
theorem dL_law_2092 : decode code 2092 = .ok (.invokestatic 264, 3) := by decide +kernel
theorem dL_law_2095 : decode code 2095 = .ok (.istore 5, 2) := by decide +kernel
theorem dL_law_2097 : decode code 2097 = .ok (.aload_n 2, 1) := by decide +kernel
theorem dL_law_2098 : decode code 2098 = .ok (.aload_n 0, 1) := by decide +kernel
theorem dL_law_2099 : decode code 2099 = .ok (.iload 4, 2) := by decide +kernel
theorem dL_law_2101 : decode code 2101 = .ok (.iconst 1, 1) := by decide +kernel
theorem dL_law_2102 : decode code 2102 = .ok (.iadd, 1) := by decide +kernel
theorem dL_law_2103 : decode code 2103 = .ok (.iaload, 1) := by decide +kernel
theorem dL_law_2104 : decode code 2104 = .ok (.invokevirtual 269, 3) := by decide +kernel
theorem dL_law_2107 : decode code 2107 = .ok (.lstore 6, 2) := by decide +kernel
theorem dL_law_2109 : decode code 2109 = .ok (.aload_n 2, 1) := by decide +kernel
theorem dL_law_2110 : decode code 2110 = .ok (.invokevirtual 270, 3) := by decide +kernel
theorem dL_law_2113 : decode code 2113 = .ok (.iload 5, 2) := by decide +kernel
theorem dL_law_2115 : decode code 2115 = .ok (.if_icmp .eq 5, 3) := by decide +kernel
theorem dL_law_2118 : decode code 2118 = .ok (.iconst 0, 1) := by decide +kernel
theorem dL_law_2119 : decode code 2119 = .ok (.ireturn, 1) := by decide +kernel
theorem dL_law_2120 : decode code 2120 = .ok (.iload 5, 2) := by decide +kernel
theorem dL_law_2122 : decode code 2122 = .ok (.ifCond .ne 14, 3) := by decide +kernel
theorem dL_law_2125 : decode code 2125 = .ok (.aload_n 3, 1) := by decide +kernel
theorem dL_law_2126 : decode code 2126 = .ok (.iconst 0, 1) := by decide +kernel
theorem dL_law_2127 : decode code 2127 = .ok (.laload, 1) := by decide +kernel
theorem dL_law_2128 : decode code 2128 = .ok (.lload 6, 2) := by decide +kernel
theorem dL_law_2130 : decode code 2130 = .ok (.lcmp, 1) := by decide +kernel
theorem dL_law_2131 : decode code 2131 = .ok (.ifCond .eq 5, 3) := by decide +kernel
theorem dL_law_2134 : decode code 2134 = .ok (.iconst 0, 1) := by decide +kernel
theorem dL_law_2135 : decode code 2135 = .ok (.ireturn, 1) := by decide +kernel
theorem dL_law_2136 : decode code 2136 = .ok (.goto 3, 3) := by decide +kernel
theorem dL_law_2139 : decode code 2139 = .ok (.iinc 4 4, 3) := by decide +kernel
theorem dL_law_2142 : decode code 2142 = .ok (.goto (-2119), 3) := by decide +kernel
theorem dL_law_2145 : decode code 2145 = .ok (.iconst 1, 1) := by decide +kernel
theorem dL_law_2146 : decode code 2146 = .ok (.ireturn, 1) := by decide +kernel
