theorem dX8_split_384 : decode cX8_split 384 = .ok (.if_icmp .ne 7, 3) := by decide +kernel
theorem dX8_split_387 : decode cX8_split 387 = .ok (.iload_n 1, 1) := by decide +kernel
theorem dX8_split_388 : decode cX8_split 388 = .ok (.goto 5, 3) := by decide +kernel
theorem dX8_split_391 : decode cX8_split 391 = .ok (.iload 9, 2) := by decide +kernel
theorem dX8_split_393 : decode cX8_split 393 = .ok (.aload_n 0, 1) := by decide +kernel
theorem dX8_split_394 : decode cX8_split 394 = .ok (.getfield 53, 3) := by decide +kernel
theorem dX8_split_397 : decode cX8_split 397 = .ok (.aload_n 0, 1) := by decide +kernel
theorem dX8_split_398 : decode cX8_split 398 = .ok (.getfield 59, 3) := by decide +kernel
theorem dX8_split_401 : decode cX8_split 401 = .ok (.iload 10, 2) := by decide +kernel
theorem dX8_split_403 : decode cX8_split 403 = .ok (.iaload, 1) := by decide +kernel
theorem dX8_split_404 : decode cX8_split 404 = .ok (.iaload, 1) := by decide +kernel
theorem dX8_split_405 : decode cX8_split 405 = .ok (.invokevirtual 135, 3) := by decide +kernel
theorem dX8_split_408 : decode cX8_split 408 = .ok (.iinc 10 1, 3) := by decide +kernel
theorem dX8_split_411 : decode cX8_split 411 = .ok (.goto (-47), 3) := by decide +kernel
theorem dX8_split_414 : decode cX8_split 414 = .ok (.aload_n 0, 1) := by decide +kernel
theorem dX8_split_415 : decode cX8_split 415 = .ok (.iload_n 1, 1) := by decide +kernel
theorem dX8_split_416 : decode cX8_split 416 = .ok (.invokevirtual 118, 3) := by decide +kernel
theorem dX8_split_419 : decode cX8_split 419 = .ok (.aload_n 0, 1) := by decide +kernel
theorem dX8_split_420 : decode cX8_split 420 = .ok (.iload 9, 2) := by decide +kernel
theorem dX8_split_422 : decode cX8_split 422 = .ok (.invokevirtual 118, 3) := by decide +kernel
theorem dX8_split_425 : decode cX8_split 425 = .ok (.iload_n 1, 1) := by decide +kernel
theorem dX8_split_426 : decode cX8_split 426 = .ok (.aload_n 0, 1) := by decide +kernel
theorem dX8_split_427 : decode cX8_split 427 = .ok (.getfield 93, 3) := by decide +kernel
theorem dX8_split_430 : decode cX8_split 430 = .ok (.if_icmp .ne 47, 3) := by decide +kernel
theorem dX8_split_433 : decode cX8_split 433 = .ok (.aload_n 0, 1) := by decide +kernel
theorem dX8_split_434 : decode cX8_split 434 = .ok (.aload_n 0, 1) := by decide +kernel
theorem dX8_split_435 : decode cX8_split 435 = .ok (.aload_n 0, 1) := by decide +kernel
theorem dX8_split_436 : decode cX8_split 436 = .ok (.getfield 20, 3) := by decide +kernel
theorem dX8_split_439 : decode cX8_split 439 = .ok (.iload_n 1, 1) := by decide +kernel
theorem dX8_split_440 : decode cX8_split 440 = .ok (.iaload, 1) := by decide +kernel
theorem dX8_split_441 : decode cX8_split 441 = .ok (.iconst 1, 1) := by decide +kernel
theorem dX8_split_442 : decode cX8_split 442 = .ok (.iadd, 1) := by decide +kernel
theorem dX8_split_443 : decode cX8_split 443 = .ok (.invokevirtual 89, 3) := by decide +kernel
theorem dX8_split_446 : decode cX8_split 446 = .ok (.putfield 93, 3) := by decide +kernel
theorem dX8_split_449 : decode cX8_split 449 = .ok (.aload_n 0, 1) := by decide +kernel
theorem dX8_split_450 : decode cX8_split 450 = .ok (.aload_n 0, 1) := by decide +kernel
theorem dX8_split_451 : decode cX8_split 451 = .ok (.getfield 93, 3) := by decide +kernel
theorem dX8_split_454 : decode cX8_split 454 = .ok (.iload_n 1, 1) := by decide +kernel
theorem dX8_split_455 : decode cX8_split 455 = .ok (.invokevirtual 135, 3) := by decide +kernel
theorem dX8_split_458 : decode cX8_split 458 = .ok (.aload_n 0, 1) := by decide +kernel
theorem dX8_split_459 : decode cX8_split 459 = .ok (.aload_n 0, 1) := by decide +kernel
theorem dX8_split_460 : decode cX8_split 460 = .ok (.getfield 93, 3) := by decide +kernel
theorem dX8_split_463 : decode cX8_split 463 = .ok (.iload 9, 2) := by decide +kernel
theorem dX8_split_465 : decode cX8_split 465 = .ok (.invokevirtual 135, 3) := by decide +kernel
theorem dX8_split_468 : decode cX8_split 468 = .ok (.aload_n 0, 1) := by decide +kernel
theorem dX8_split_469 : decode cX8_split 469 = .ok (.aload_n 0, 1) := by decide +kernel
theorem dX8_split_470 : decode cX8_split 470 = .ok (.getfield 93, 3) := by decide +kernel
theorem dX8_split_473 : decode cX8_split 473 = .ok (.invokevirtual 118, 3) := by decide +kernel
theorem dX8_split_476 : decode cX8_split 476 = .ok (.return_, 1) := by decide +kernel
theorem dX8_split_477 : decode cX8_split 477 = .ok (.aload_n 0, 1) := by decide +kernel
theorem dX8_split_478 : decode cX8_split 478 = .ok (.getfield 32, 3) := by decide +kernel
theorem dX8_split_481 : decode cX8_split 481 = .ok (.iload_n 1, 1) := by decide +kernel
theorem dX8_split_482 : decode cX8_split 482 = .ok (.iaload, 1) := by decide +kernel
theorem dX8_split_483 : decode cX8_split 483 = .ok (.istore 10, 2) := by decide +kernel
theorem dX8_split_485 : decode cX8_split 485 = .ok (.aload_n 0, 1) := by decide +kernel
theorem dX8_split_486 : decode cX8_split 486 = .ok (.iload 10, 2) := by decide +kernel
theorem dX8_split_488 : decode cX8_split 488 = .ok (.iload_n 1, 1) := by decide +kernel
theorem dX8_split_489 : decode cX8_split 489 = .ok (.invokevirtual 122, 3) := by decide +kernel
theorem dX8_split_492 : decode cX8_split 492 = .ok (.iconst 1, 1) := by decide +kernel
theorem dX8_split_493 : decode cX8_split 493 = .ok (.iadd, 1) := by decide +kernel
theorem dX8_split_494 : decode cX8_split 494 = .ok (.istore 11, 2) := by decide +kernel
theorem dX8_split_496 : decode cX8_split 496 = .ok (.aload_n 0, 1) := by decide +kernel
theorem dX8_split_497 : decode cX8_split 497 = .ok (.getfield 23, 3) := by decide +kernel
theorem dX8_split_500 : decode cX8_split 500 = .ok (.iload 10, 2) := by decide +kernel
theorem dX8_split_502 : decode cX8_split 502 = .ok (.iaload, 1) := by decide +kernel
theorem dX8_split_503 : decode cX8_split 503 = .ok (.istore 12, 2) := by decide +kernel
theorem dX8_split_505 : decode cX8_split 505 = .ok (.iload 12, 2) := by decide +kernel
theorem dX8_split_507 : decode cX8_split 507 = .ok (.iload 11, 2) := by decide +kernel
theorem dX8_split_509 : decode cX8_split 509 = .ok (.if_icmp .le 37, 3) := by decide +kernel
theorem dX8_split_512 : decode cX8_split 512 = .ok (.aload_n 0, 1) := by decide +kernel
theorem dX8_split_513 : decode cX8_split 513 = .ok (.getfield 26, 3) := by decide +kernel
theorem dX8_split_516 : decode cX8_split 516 = .ok (.bipush 11, 2) := by decide +kernel
theorem dX8_split_518 : decode cX8_split 518 = .ok (.iload 10, 2) := by decide +kernel
theorem dX8_split_520 : decode cX8_split 520 = .ok (.imul, 1) := by decide +kernel
theorem dX8_split_521 : decode cX8_split 521 = .ok (.iload 12, 2) := by decide +kernel
theorem dX8_split_523 : decode cX8_split 523 = .ok (.iadd, 1) := by decide +kernel
theorem dX8_split_524 : decode cX8_split 524 = .ok (.aload_n 0, 1) := by decide +kernel
theorem dX8_split_525 : decode cX8_split 525 = .ok (.getfield 26, 3) := by decide +kernel
theorem dX8_split_528 : decode cX8_split 528 = .ok (.bipush 11, 2) := by decide +kernel
theorem dX8_split_530 : decode cX8_split 530 = .ok (.iload 10, 2) := by decide +kernel
theorem dX8_split_532 : decode cX8_split 532 = .ok (.imul, 1) := by decide +kernel
theorem dX8_split_533 : decode cX8_split 533 = .ok (.iload 12, 2) := by decide +kernel
theorem dX8_split_535 : decode cX8_split 535 = .ok (.iadd, 1) := by decide +kernel
theorem dX8_split_536 : decode cX8_split 536 = .ok (.iconst 1, 1) := by decide +kernel
theorem dX8_split_537 : decode cX8_split 537 = .ok (.isub, 1) := by decide +kernel
theorem dX8_split_538 : decode cX8_split 538 = .ok (.iaload, 1) := by decide +kernel
theorem dX8_split_539 : decode cX8_split 539 = .ok (.iastore, 1) := by decide +kernel
theorem dX8_split_540 : decode cX8_split 540 = .ok (.iinc 12 (-1), 3) := by decide +kernel
theorem dX8_split_543 : decode cX8_split 543 = .ok (.goto (-38), 3) := by decide +kernel
theorem dX8_split_546 : decode cX8_split 546 = .ok (.aload_n 0, 1) := by decide +kernel
theorem dX8_split_547 : decode cX8_split 547 = .ok (.getfield 26, 3) := by decide +kernel
theorem dX8_split_550 : decode cX8_split 550 = .ok (.bipush 11, 2) := by decide +kernel
theorem dX8_split_552 : decode cX8_split 552 = .ok (.iload 10, 2) := by decide +kernel
theorem dX8_split_554 : decode cX8_split 554 = .ok (.imul, 1) := by decide +kernel
theorem dX8_split_555 : decode cX8_split 555 = .ok (.iload 11, 2) := by decide +kernel
theorem dX8_split_557 : decode cX8_split 557 = .ok (.iadd, 1) := by decide +kernel
theorem dX8_split_558 : decode cX8_split 558 = .ok (.iload 9, 2) := by decide +kernel
theorem dX8_split_560 : decode cX8_split 560 = .ok (.iastore, 1) := by decide +kernel
theorem dX8_split_561 : decode cX8_split 561 = .ok (.aload_n 0, 1) := by decide +kernel
theorem dX8_split_562 : decode cX8_split 562 = .ok (.getfield 23, 3) := by decide +kernel
theorem dX8_split_565 : decode cX8_split 565 = .ok (.iload 10, 2) := by decide +kernel
theorem dX8_split_567 : decode cX8_split 567 = .ok (.dup2, 1) := by decide +kernel
theorem dX8_split_568 : decode cX8_split 568 = .ok (.iaload, 1) := by decide +kernel
theorem dX8_split_569 : decode cX8_split 569 = .ok (.iconst 1, 1) := by decide +kernel
theorem dX8_split_570 : decode cX8_split 570 = .ok (.iadd, 1) := by decide +kernel
theorem dX8_split_571 : decode cX8_split 571 = .ok (.iastore, 1) := by decide +kernel
theorem dX8_split_572 : decode cX8_split 572 = .ok (.aload_n 0, 1) := by decide +kernel
theorem dX8_split_573 : decode cX8_split 573 = .ok (.getfield 32, 3) := by decide +kernel
theorem dX8_split_576 : decode cX8_split 576 = .ok (.iload 9, 2) := by decide +kernel
theorem dX8_split_578 : decode cX8_split 578 = .ok (.iload 10, 2) := by decide +kernel
theorem dX8_split_580 : decode cX8_split 580 = .ok (.iastore, 1) := by decide +kernel
theorem dX8_split_581 : decode cX8_split 581 = .ok (.aload_n 0, 1) := by decide +kernel
theorem dX8_split_582 : decode cX8_split 582 = .ok (.iload 10, 2) := by decide +kernel
theorem dX8_split_584 : decode cX8_split 584 = .ok (.invokevirtual 139, 3) := by decide +kernel
theorem dX8_split_587 : decode cX8_split 587 = .ok (.return_, 1) := by decide +kernel
theorem dX8_come_0 : decode cX8_come 0 = .ok (.aload_n 0, 1) := by decide +kernel
theorem dX8_come_1 : decode cX8_come 1 = .ok (.getfield 56, 3) := by decide +kernel
theorem dX8_come_4 : decode cX8_come 4 = .ok (.iload_n 1, 1) := by decide +kernel
theorem dX8_come_5 : decode cX8_come 5 = .ok (.iload_n 2, 1) := by decide +kernel
theorem dX8_come_6 : decode cX8_come 6 = .ok (.iastore, 1) := by decide +kernel
theorem dX8_come_7 : decode cX8_come 7 = .ok (.aload_n 0, 1) := by decide +kernel
theorem dX8_come_8 : decode cX8_come 8 = .ok (.getfield 59, 3) := by decide +kernel
theorem dX8_come_11 : decode cX8_come 11 = .ok (.iload 4, 2) := by decide +kernel
theorem dX8_come_13 : decode cX8_come 13 = .ok (.iload_n 1, 1) := by decide +kernel
theorem dX8_come_14 : decode cX8_come 14 = .ok (.iastore, 1) := by decide +kernel
theorem dX8_come_15 : decode cX8_come 15 = .ok (.iconst 0, 1) := by decide +kernel
theorem dX8_come_16 : decode cX8_come 16 = .ok (.istore 5, 2) := by decide +kernel
theorem dX8_come_18 : decode cX8_come 18 = .ok (.iload 5, 2) := by decide +kernel
theorem dX8_come_20 : decode cX8_come 20 = .ok (.iconst 4, 1) := by decide +kernel
theorem dX8_come_21 : decode cX8_come 21 = .ok (.if_icmp .ge 90, 3) := by decide +kernel
theorem dX8_come_24 : decode cX8_come 24 = .ok (.aload_n 0, 1) := by decide +kernel
theorem dX8_come_25 : decode cX8_come 25 = .ok (.iload_n 3, 1) := by decide +kernel
theorem dX8_come_26 : decode cX8_come 26 = .ok (.aload_n 0, 1) := by decide +kernel
theorem dX8_come_27 : decode cX8_come 27 = .ok (.getfield 53, 3) := by decide +kernel
theorem dX8_come_30 : decode cX8_come 30 = .ok (.iload_n 1, 1) := by decide +kernel
theorem dX8_come_31 : decode cX8_come 31 = .ok (.iaload, 1) := by decide +kernel
theorem dX8_come_32 : decode cX8_come 32 = .ok (.iload 5, 2) := by decide +kernel
theorem dX8_come_34 : decode cX8_come 34 = .ok (.invokevirtual 96, 3) := by decide +kernel
theorem dX8_come_37 : decode cX8_come 37 = .ok (.istore 6, 2) := by decide +kernel
theorem dX8_come_39 : decode cX8_come 39 = .ok (.iconst 4, 1) := by decide +kernel
theorem dX8_come_40 : decode cX8_come 40 = .ok (.iload_n 2, 1) := by decide +kernel
theorem dX8_come_41 : decode cX8_come 41 = .ok (.iconst 1, 1) := by decide +kernel
theorem dX8_come_42 : decode cX8_come 42 = .ok (.isub, 1) := by decide +kernel
theorem dX8_come_43 : decode cX8_come 43 = .ok (.imul, 1) := by decide +kernel
theorem dX8_come_44 : decode cX8_come 44 = .ok (.iload 5, 2) := by decide +kernel
theorem dX8_come_46 : decode cX8_come 46 = .ok (.iadd, 1) := by decide +kernel
theorem dX8_come_47 : decode cX8_come 47 = .ok (.istore 7, 2) := by decide +kernel
theorem dX8_come_49 : decode cX8_come 49 = .ok (.aload_n 0, 1) := by decide +kernel
theorem dX8_come_50 : decode cX8_come 50 = .ok (.getfield 62, 3) := by decide +kernel
theorem dX8_come_53 : decode cX8_come 53 = .ok (.iload 7, 2) := by decide +kernel
theorem dX8_come_55 : decode cX8_come 55 = .ok (.aload_n 0, 1) := by decide +kernel
theorem dX8_come_56 : decode cX8_come 56 = .ok (.getfield 65, 3) := by decide +kernel
theorem dX8_come_59 : decode cX8_come 59 = .ok (.iload_n 2, 1) := by decide +kernel
theorem dX8_come_60 : decode cX8_come 60 = .ok (.iconst 1, 1) := by decide +kernel
theorem dX8_come_61 : decode cX8_come 61 = .ok (.isub, 1) := by decide +kernel
theorem dX8_come_62 : decode cX8_come 62 = .ok (.iaload, 1) := by decide +kernel
theorem dX8_come_63 : decode cX8_come 63 = .ok (.ifCond .ne 8, 3) := by decide +kernel
theorem dX8_come_66 : decode cX8_come 66 = .ok (.iload 6, 2) := by decide +kernel
theorem dX8_come_68 : decode cX8_come 68 = .ok (.goto 36, 3) := by decide +kernel
theorem dX8_come_71 : decode cX8_come 71 = .ok (.iload 5, 2) := by decide +kernel
theorem dX8_come_73 : decode cX8_come 73 = .ok (.iconst 2, 1) := by decide +kernel
theorem dX8_come_74 : decode cX8_come 74 = .ok (.if_icmp .ge 18, 3) := by decide +kernel
theorem dX8_come_77 : decode cX8_come 77 = .ok (.aload_n 0, 1) := by decide +kernel
theorem dX8_come_78 : decode cX8_come 78 = .ok (.getfield 62, 3) := by decide +kernel
theorem dX8_come_81 : decode cX8_come 81 = .ok (.iload 7, 2) := by decide +kernel
theorem dX8_come_83 : decode cX8_come 83 = .ok (.iaload, 1) := by decide +kernel
theorem dX8_come_84 : decode cX8_come 84 = .ok (.iload 6, 2) := by decide +kernel
theorem dX8_come_86 : decode cX8_come 86 = .ok (.invokestatic 104, 3) := by decide +kernel
theorem dX8_come_89 : decode cX8_come 89 = .ok (.goto 15, 3) := by decide +kernel
theorem dX8_come_92 : decode cX8_come 92 = .ok (.aload_n 0, 1) := by decide +kernel
theorem dX8_come_93 : decode cX8_come 93 = .ok (.getfield 62, 3) := by decide +kernel
theorem dX8_come_96 : decode cX8_come 96 = .ok (.iload 7, 2) := by decide +kernel
theorem dX8_come_98 : decode cX8_come 98 = .ok (.iaload, 1) := by decide +kernel
theorem dX8_come_99 : decode cX8_come 99 = .ok (.iload 6, 2) := by decide +kernel
theorem dX8_come_101 : decode cX8_come 101 = .ok (.invokestatic 108, 3) := by decide +kernel
theorem dX8_come_104 : decode cX8_come 104 = .ok (.iastore, 1) := by decide +kernel
theorem dX8_come_105 : decode cX8_come 105 = .ok (.iinc 5 1, 3) := by decide +kernel
theorem dX8_come_108 : decode cX8_come 108 = .ok (.goto (-90), 3) := by decide +kernel
theorem dX8_come_111 : decode cX8_come 111 = .ok (.aload_n 0, 1) := by decide +kernel
theorem dX8_come_112 : decode cX8_come 112 = .ok (.getfield 65, 3) := by decide +kernel
theorem dX8_come_115 : decode cX8_come 115 = .ok (.iload_n 2, 1) := by decide +kernel
theorem dX8_come_116 : decode cX8_come 116 = .ok (.iconst 1, 1) := by decide +kernel
theorem dX8_come_117 : decode cX8_come 117 = .ok (.isub, 1) := by decide +kernel
theorem dX8_come_118 : decode cX8_come 118 = .ok (.dup2, 1) := by decide +kernel
theorem dX8_come_119 : decode cX8_come 119 = .ok (.iaload, 1) := by decide +kernel
theorem dX8_come_120 : decode cX8_come 120 = .ok (.iconst 1, 1) := by decide +kernel
theorem dX8_come_121 : decode cX8_come 121 = .ok (.iadd, 1) := by decide +kernel
theorem dX8_come_122 : decode cX8_come 122 = .ok (.iastore, 1) := by decide +kernel
theorem dX8_come_123 : decode cX8_come 123 = .ok (.iload 4, 2) := by decide +kernel
theorem dX8_come_125 : decode cX8_come 125 = .ok (.iconst 1, 1) := by decide +kernel
theorem dX8_come_126 : decode cX8_come 126 = .ok (.iadd, 1) := by decide +kernel
theorem dX8_come_127 : decode cX8_come 127 = .ok (.ireturn, 1) := by decide +kernel
theorem dX8_partArea_0 : decode cX8_partArea 0 = .ok (.iconst 4, 1) := by decide +kernel
theorem dX8_partArea_1 : decode cX8_partArea 1 = .ok (.iload_n 1, 1) := by decide +kernel
theorem dX8_partArea_2 : decode cX8_partArea 2 = .ok (.iconst 1, 1) := by decide +kernel
theorem dX8_partArea_3 : decode cX8_partArea 3 = .ok (.isub, 1) := by decide +kernel
theorem dX8_partArea_4 : decode cX8_partArea 4 = .ok (.imul, 1) := by decide +kernel
theorem dX8_partArea_5 : decode cX8_partArea 5 = .ok (.istore_n 2, 1) := by decide +kernel
theorem dX8_partArea_6 : decode cX8_partArea 6 = .ok (.aload_n 0, 1) := by decide +kernel
theorem dX8_partArea_7 : decode cX8_partArea 7 = .ok (.getfield 62, 3) := by decide +kernel
theorem dX8_partArea_10 : decode cX8_partArea 10 = .ok (.iload_n 2, 1) := by decide +kernel
theorem dX8_partArea_11 : decode cX8_partArea 11 = .ok (.iaload, 1) := by decide +kernel
theorem dX8_partArea_12 : decode cX8_partArea 12 = .ok (.aload_n 0, 1) := by decide +kernel
theorem dX8_partArea_13 : decode cX8_partArea 13 = .ok (.getfield 62, 3) := by decide +kernel
theorem dX8_partArea_16 : decode cX8_partArea 16 = .ok (.iload_n 2, 1) := by decide +kernel
theorem dX8_partArea_17 : decode cX8_partArea 17 = .ok (.iconst 1, 1) := by decide +kernel
theorem dX8_partArea_18 : decode cX8_partArea 18 = .ok (.iadd, 1) := by decide +kernel
theorem dX8_partArea_19 : decode cX8_partArea 19 = .ok (.iaload, 1) := by decide +kernel
theorem dX8_partArea_20 : decode cX8_partArea 20 = .ok (.aload_n 0, 1) := by decide +kernel
theorem dX8_partArea_21 : decode cX8_partArea 21 = .ok (.getfield 62, 3) := by decide +kernel
theorem dX8_partArea_24 : decode cX8_partArea 24 = .ok (.iload_n 2, 1) := by decide +kernel
theorem dX8_partArea_25 : decode cX8_partArea 25 = .ok (.iconst 2, 1) := by decide +kernel
theorem dX8_partArea_26 : decode cX8_partArea 26 = .ok (.iadd, 1) := by decide +kernel
theorem dX8_partArea_27 : decode cX8_partArea 27 = .ok (.iaload, 1) := by decide +kernel
theorem dX8_partArea_28 : decode cX8_partArea 28 = .ok (.aload_n 0, 1) := by decide +kernel
theorem dX8_partArea_29 : decode cX8_partArea 29 = .ok (.getfield 62, 3) := by decide +kernel
theorem dX8_partArea_32 : decode cX8_partArea 32 = .ok (.iload_n 2, 1) := by decide +kernel
theorem dX8_partArea_33 : decode cX8_partArea 33 = .ok (.iconst 3, 1) := by decide +kernel
theorem dX8_partArea_34 : decode cX8_partArea 34 = .ok (.iadd, 1) := by decide +kernel
theorem dX8_partArea_35 : decode cX8_partArea 35 = .ok (.iaload, 1) := by decide +kernel
theorem dX8_partArea_36 : decode cX8_partArea 36 = .ok (.invokestatic 100, 3) := by decide +kernel
theorem dX8_partArea_39 : decode cX8_partArea 39 = .ok (.lreturn, 1) := by decide +kernel
theorem dX8_growth_0 : decode cX8_growth 0 = .ok (.iconst 4, 1) := by decide +kernel
theorem dX8_growth_1 : decode cX8_growth 1 = .ok (.iload_n 1, 1) := by decide +kernel
theorem dX8_growth_2 : decode cX8_growth 2 = .ok (.iconst 1, 1) := by decide +kernel
theorem dX8_growth_3 : decode cX8_growth 3 = .ok (.isub, 1) := by decide +kernel
theorem dX8_growth_4 : decode cX8_growth 4 = .ok (.imul, 1) := by decide +kernel
theorem dX8_growth_5 : decode cX8_growth 5 = .ok (.istore 4, 2) := by decide +kernel
theorem dX8_growth_7 : decode cX8_growth 7 = .ok (.aload_n 0, 1) := by decide +kernel
theorem dX8_growth_8 : decode cX8_growth 8 = .ok (.getfield 62, 3) := by decide +kernel
theorem dX8_growth_11 : decode cX8_growth 11 = .ok (.iload 4, 2) := by decide +kernel
theorem dX8_growth_13 : decode cX8_growth 13 = .ok (.iaload, 1) := by decide +kernel
theorem dX8_growth_14 : decode cX8_growth 14 = .ok (.aload_n 0, 1) := by decide +kernel
theorem dX8_growth_15 : decode cX8_growth 15 = .ok (.iload_n 2, 1) := by decide +kernel
theorem dX8_growth_16 : decode cX8_growth 16 = .ok (.iload_n 3, 1) := by decide +kernel
theorem dX8_growth_17 : decode cX8_growth 17 = .ok (.iconst 0, 1) := by decide +kernel
theorem dX8_growth_18 : decode cX8_growth 18 = .ok (.invokevirtual 96, 3) := by decide +kernel
theorem dX8_growth_21 : decode cX8_growth 21 = .ok (.invokestatic 104, 3) := by decide +kernel
theorem dX8_growth_24 : decode cX8_growth 24 = .ok (.aload_n 0, 1) := by decide +kernel
theorem dX8_growth_25 : decode cX8_growth 25 = .ok (.getfield 62, 3) := by decide +kernel
theorem dX8_growth_28 : decode cX8_growth 28 = .ok (.iload 4, 2) := by decide +kernel
theorem dX8_growth_30 : decode cX8_growth 30 = .ok (.iconst 1, 1) := by decide +kernel
theorem dX8_growth_31 : decode cX8_growth 31 = .ok (.iadd, 1) := by decide +kernel
theorem dX8_growth_32 : decode cX8_growth 32 = .ok (.iaload, 1) := by decide +kernel
theorem dX8_growth_33 : decode cX8_growth 33 = .ok (.aload_n 0, 1) := by decide +kernel
theorem dX8_growth_34 : decode cX8_growth 34 = .ok (.iload_n 2, 1) := by decide +kernel
theorem dX8_growth_35 : decode cX8_growth 35 = .ok (.iload_n 3, 1) := by decide +kernel
theorem dX8_growth_36 : decode cX8_growth 36 = .ok (.iconst 1, 1) := by decide +kernel
theorem dX8_growth_37 : decode cX8_growth 37 = .ok (.invokevirtual 96, 3) := by decide +kernel
theorem dX8_growth_40 : decode cX8_growth 40 = .ok (.invokestatic 104, 3) := by decide +kernel
theorem dX8_growth_43 : decode cX8_growth 43 = .ok (.aload_n 0, 1) := by decide +kernel
theorem dX8_growth_44 : decode cX8_growth 44 = .ok (.getfield 62, 3) := by decide +kernel
theorem dX8_growth_47 : decode cX8_growth 47 = .ok (.iload 4, 2) := by decide +kernel
theorem dX8_growth_49 : decode cX8_growth 49 = .ok (.iconst 2, 1) := by decide +kernel
theorem dX8_growth_50 : decode cX8_growth 50 = .ok (.iadd, 1) := by decide +kernel
theorem dX8_growth_51 : decode cX8_growth 51 = .ok (.iaload, 1) := by decide +kernel
theorem dX8_growth_52 : decode cX8_growth 52 = .ok (.aload_n 0, 1) := by decide +kernel
theorem dX8_growth_53 : decode cX8_growth 53 = .ok (.iload_n 2, 1) := by decide +kernel
theorem dX8_growth_54 : decode cX8_growth 54 = .ok (.iload_n 3, 1) := by decide +kernel
theorem dX8_growth_55 : decode cX8_growth 55 = .ok (.iconst 2, 1) := by decide +kernel
theorem dX8_growth_56 : decode cX8_growth 56 = .ok (.invokevirtual 96, 3) := by decide +kernel
theorem dX8_growth_59 : decode cX8_growth 59 = .ok (.invokestatic 108, 3) := by decide +kernel
theorem dX8_growth_62 : decode cX8_growth 62 = .ok (.aload_n 0, 1) := by decide +kernel
theorem dX8_growth_63 : decode cX8_growth 63 = .ok (.getfield 62, 3) := by decide +kernel
theorem dX8_growth_66 : decode cX8_growth 66 = .ok (.iload 4, 2) := by decide +kernel
theorem dX8_growth_68 : decode cX8_growth 68 = .ok (.iconst 3, 1) := by decide +kernel
theorem dX8_growth_69 : decode cX8_growth 69 = .ok (.iadd, 1) := by decide +kernel
theorem dX8_growth_70 : decode cX8_growth 70 = .ok (.iaload, 1) := by decide +kernel
theorem dX8_growth_71 : decode cX8_growth 71 = .ok (.aload_n 0, 1) := by decide +kernel
theorem dX8_growth_72 : decode cX8_growth 72 = .ok (.iload_n 2, 1) := by decide +kernel
theorem dX8_growth_73 : decode cX8_growth 73 = .ok (.iload_n 3, 1) := by decide +kernel
theorem dX8_growth_74 : decode cX8_growth 74 = .ok (.iconst 3, 1) := by decide +kernel
theorem dX8_growth_75 : decode cX8_growth 75 = .ok (.invokevirtual 96, 3) := by decide +kernel
theorem dX8_growth_78 : decode cX8_growth 78 = .ok (.invokestatic 108, 3) := by decide +kernel
theorem dX8_growth_81 : decode cX8_growth 81 = .ok (.invokestatic 100, 3) := by decide +kernel
theorem dX8_growth_84 : decode cX8_growth 84 = .ok (.aload_n 0, 1) := by decide +kernel
theorem dX8_growth_85 : decode cX8_growth 85 = .ok (.iload_n 1, 1) := by decide +kernel
theorem dX8_growth_86 : decode cX8_growth 86 = .ok (.invokevirtual 159, 3) := by decide +kernel
theorem dX8_growth_89 : decode cX8_growth 89 = .ok (.lsub, 1) := by decide +kernel
theorem dX8_growth_90 : decode cX8_growth 90 = .ok (.lreturn, 1) := by decide +kernel
theorem dX8_comeBest_0 : decode cX8_comeBest 0 = .ok (.bipush (-2), 2) := by decide +kernel
theorem dX8_comeBest_2 : decode cX8_comeBest 2 = .ok (.istore 4, 2) := by decide +kernel
theorem dX8_comeBest_4 : decode cX8_comeBest 4 = .ok (.ldc2_w 163, 3) := by decide +kernel
theorem dX8_comeBest_7 : decode cX8_comeBest 7 = .ok (.lstore 5, 2) := by decide +kernel
theorem dX8_comeBest_9 : decode cX8_comeBest 9 = .ok (.iconst 0, 1) := by decide +kernel
theorem dX8_comeBest_10 : decode cX8_comeBest 10 = .ok (.istore 7, 2) := by decide +kernel
theorem dX8_comeBest_12 : decode cX8_comeBest 12 = .ok (.iload 7, 2) := by decide +kernel
theorem dX8_comeBest_14 : decode cX8_comeBest 14 = .ok (.iload_n 1, 1) := by decide +kernel
theorem dX8_comeBest_15 : decode cX8_comeBest 15 = .ok (.if_icmp .ge 81, 3) := by decide +kernel
theorem dX8_comeBest_18 : decode cX8_comeBest 18 = .ok (.aload_n 0, 1) := by decide +kernel
theorem dX8_comeBest_19 : decode cX8_comeBest 19 = .ok (.getfield 56, 3) := by decide +kernel
theorem dX8_comeBest_22 : decode cX8_comeBest 22 = .ok (.iload 7, 2) := by decide +kernel
theorem dX8_comeBest_24 : decode cX8_comeBest 24 = .ok (.iaload, 1) := by decide +kernel
theorem dX8_comeBest_25 : decode cX8_comeBest 25 = .ok (.ifCond .ne 65, 3) := by decide +kernel
theorem dX8_comeBest_28 : decode cX8_comeBest 28 = .ok (.aload_n 0, 1) := by decide +kernel
theorem dX8_comeBest_29 : decode cX8_comeBest 29 = .ok (.iconst 1, 1) := by decide +kernel
theorem dX8_comeBest_30 : decode cX8_comeBest 30 = .ok (.iload_n 2, 1) := by decide +kernel
theorem dX8_comeBest_31 : decode cX8_comeBest 31 = .ok (.aload_n 0, 1) := by decide +kernel
theorem dX8_comeBest_32 : decode cX8_comeBest 32 = .ok (.getfield 53, 3) := by decide +kernel
theorem dX8_comeBest_35 : decode cX8_comeBest 35 = .ok (.iload 7, 2) := by decide +kernel
theorem dX8_comeBest_37 : decode cX8_comeBest 37 = .ok (.iaload, 1) := by decide +kernel
theorem dX8_comeBest_38 : decode cX8_comeBest 38 = .ok (.invokevirtual 165, 3) := by decide +kernel
theorem dX8_comeBest_41 : decode cX8_comeBest 41 = .ok (.aload_n 0, 1) := by decide +kernel
theorem dX8_comeBest_42 : decode cX8_comeBest 42 = .ok (.iconst 2, 1) := by decide +kernel
theorem dX8_comeBest_43 : decode cX8_comeBest 43 = .ok (.iload_n 2, 1) := by decide +kernel
theorem dX8_comeBest_44 : decode cX8_comeBest 44 = .ok (.aload_n 0, 1) := by decide +kernel
theorem dX8_comeBest_45 : decode cX8_comeBest 45 = .ok (.getfield 53, 3) := by decide +kernel
theorem dX8_comeBest_48 : decode cX8_comeBest 48 = .ok (.iload 7, 2) := by decide +kernel
theorem dX8_comeBest_50 : decode cX8_comeBest 50 = .ok (.iaload, 1) := by decide +kernel
theorem dX8_comeBest_51 : decode cX8_comeBest 51 = .ok (.invokevirtual 165, 3) := by decide +kernel
theorem dX8_comeBest_54 : decode cX8_comeBest 54 = .ok (.lsub, 1) := by decide +kernel
theorem dX8_comeBest_55 : decode cX8_comeBest 55 = .ok (.lstore 8, 2) := by decide +kernel
theorem dX8_comeBest_57 : decode cX8_comeBest 57 = .ok (.lload 8, 2) := by decide +kernel
theorem dX8_comeBest_59 : decode cX8_comeBest 59 = .ok (.lconst 0, 1) := by decide +kernel
theorem dX8_comeBest_60 : decode cX8_comeBest 60 = .ok (.lcmp, 1) := by decide +kernel
theorem dX8_comeBest_61 : decode cX8_comeBest 61 = .ok (.ifCond .ge 9, 3) := by decide +kernel
theorem dX8_comeBest_64 : decode cX8_comeBest 64 = .ok (.lload 8, 2) := by decide +kernel
theorem dX8_comeBest_66 : decode cX8_comeBest 66 = .ok (.lneg, 1) := by decide +kernel
theorem dX8_comeBest_67 : decode cX8_comeBest 67 = .ok (.goto 5, 3) := by decide +kernel
theorem dX8_comeBest_70 : decode cX8_comeBest 70 = .ok (.lload 8, 2) := by decide +kernel
theorem dX8_comeBest_72 : decode cX8_comeBest 72 = .ok (.lstore 10, 2) := by decide +kernel
theorem dX8_comeBest_74 : decode cX8_comeBest 74 = .ok (.lload 10, 2) := by decide +kernel
theorem dX8_comeBest_76 : decode cX8_comeBest 76 = .ok (.lload 5, 2) := by decide +kernel
theorem dX8_comeBest_78 : decode cX8_comeBest 78 = .ok (.lcmp, 1) := by decide +kernel
theorem dX8_comeBest_79 : decode cX8_comeBest 79 = .ok (.ifCond .le 11, 3) := by decide +kernel
theorem dX8_comeBest_82 : decode cX8_comeBest 82 = .ok (.iload 7, 2) := by decide +kernel
theorem dX8_comeBest_84 : decode cX8_comeBest 84 = .ok (.istore 4, 2) := by decide +kernel
theorem dX8_comeBest_86 : decode cX8_comeBest 86 = .ok (.lload 10, 2) := by decide +kernel
theorem dX8_comeBest_88 : decode cX8_comeBest 88 = .ok (.lstore 5, 2) := by decide +kernel
theorem dX8_comeBest_90 : decode cX8_comeBest 90 = .ok (.iinc 7 1, 3) := by decide +kernel
theorem dX8_comeBest_93 : decode cX8_comeBest 93 = .ok (.goto (-81), 3) := by decide +kernel
theorem dX8_comeBest_96 : decode cX8_comeBest 96 = .ok (.aload_n 0, 1) := by decide +kernel
theorem dX8_comeBest_97 : decode cX8_comeBest 97 = .ok (.iconst 1, 1) := by decide +kernel
theorem dX8_comeBest_98 : decode cX8_comeBest 98 = .ok (.iload_n 2, 1) := by decide +kernel
theorem dX8_comeBest_99 : decode cX8_comeBest 99 = .ok (.aload_n 0, 1) := by decide +kernel
theorem dX8_comeBest_100 : decode cX8_comeBest 100 = .ok (.getfield 53, 3) := by decide +kernel
theorem dX8_comeBest_103 : decode cX8_comeBest 103 = .ok (.iload 4, 2) := by decide +kernel
theorem dX8_comeBest_105 : decode cX8_comeBest 105 = .ok (.iaload, 1) := by decide +kernel
theorem dX8_comeBest_106 : decode cX8_comeBest 106 = .ok (.invokevirtual 165, 3) := by decide +kernel
theorem dX8_comeBest_109 : decode cX8_comeBest 109 = .ok (.aload_n 0, 1) := by decide +kernel
theorem dX8_comeBest_110 : decode cX8_comeBest 110 = .ok (.iconst 2, 1) := by decide +kernel
theorem dX8_comeBest_111 : decode cX8_comeBest 111 = .ok (.iload_n 2, 1) := by decide +kernel
theorem dX8_comeBest_112 : decode cX8_comeBest 112 = .ok (.aload_n 0, 1) := by decide +kernel
theorem dX8_comeBest_113 : decode cX8_comeBest 113 = .ok (.getfield 53, 3) := by decide +kernel
theorem dX8_comeBest_116 : decode cX8_comeBest 116 = .ok (.iload 4, 2) := by decide +kernel
theorem dX8_comeBest_118 : decode cX8_comeBest 118 = .ok (.iaload, 1) := by decide +kernel
theorem dX8_comeBest_119 : decode cX8_comeBest 119 = .ok (.invokevirtual 165, 3) := by decide +kernel
theorem dX8_comeBest_122 : decode cX8_comeBest 122 = .ok (.lsub, 1) := by decide +kernel
theorem dX8_comeBest_123 : decode cX8_comeBest 123 = .ok (.lstore 7, 2) := by decide +kernel
theorem dX8_comeBest_125 : decode cX8_comeBest 125 = .ok (.lload 7, 2) := by decide +kernel
theorem dX8_comeBest_127 : decode cX8_comeBest 127 = .ok (.lconst 0, 1) := by decide +kernel
theorem dX8_comeBest_128 : decode cX8_comeBest 128 = .ok (.lcmp, 1) := by decide +kernel
theorem dX8_comeBest_129 : decode cX8_comeBest 129 = .ok (.ifCond .eq 8, 3) := by decide +kernel
theorem dX8_comeBest_132 : decode cX8_comeBest 132 = .ok (.lload 7, 2) := by decide +kernel
theorem dX8_comeBest_134 : decode cX8_comeBest 134 = .ok (.goto 14, 3) := by decide +kernel
theorem dX8_comeBest_137 : decode cX8_comeBest 137 = .ok (.aload_n 0, 1) := by decide +kernel
theorem dX8_comeBest_138 : decode cX8_comeBest 138 = .ok (.iconst 1, 1) := by decide +kernel
theorem dX8_comeBest_139 : decode cX8_comeBest 139 = .ok (.invokevirtual 159, 3) := by decide +kernel
theorem dX8_comeBest_142 : decode cX8_comeBest 142 = .ok (.aload_n 0, 1) := by decide +kernel
theorem dX8_comeBest_143 : decode cX8_comeBest 143 = .ok (.iconst 2, 1) := by decide +kernel
theorem dX8_comeBest_144 : decode cX8_comeBest 144 = .ok (.invokevirtual 159, 3) := by decide +kernel
theorem dX8_comeBest_147 : decode cX8_comeBest 147 = .ok (.lsub, 1) := by decide +kernel
theorem dX8_comeBest_148 : decode cX8_comeBest 148 = .ok (.lstore 7, 2) := by decide +kernel
theorem dX8_comeBest_150 : decode cX8_comeBest 150 = .ok (.lload 7, 2) := by decide +kernel
theorem dX8_comeBest_152 : decode cX8_comeBest 152 = .ok (.lconst 0, 1) := by decide +kernel
theorem dX8_comeBest_153 : decode cX8_comeBest 153 = .ok (.lcmp, 1) := by decide +kernel
theorem dX8_comeBest_154 : decode cX8_comeBest 154 = .ok (.ifCond .eq 8, 3) := by decide +kernel
theorem dX8_comeBest_157 : decode cX8_comeBest 157 = .ok (.lload 7, 2) := by decide +kernel
theorem dX8_comeBest_159 : decode cX8_comeBest 159 = .ok (.goto 17, 3) := by decide +kernel
theorem dX8_comeBest_162 : decode cX8_comeBest 162 = .ok (.aload_n 0, 1) := by decide +kernel
theorem dX8_comeBest_163 : decode cX8_comeBest 163 = .ok (.getfield 65, 3) := by decide +kernel
theorem dX8_comeBest_166 : decode cX8_comeBest 166 = .ok (.iconst 0, 1) := by decide +kernel
theorem dX8_comeBest_167 : decode cX8_comeBest 167 = .ok (.iaload, 1) := by decide +kernel
theorem dX8_comeBest_168 : decode cX8_comeBest 168 = .ok (.aload_n 0, 1) := by decide +kernel
theorem dX8_comeBest_169 : decode cX8_comeBest 169 = .ok (.getfield 65, 3) := by decide +kernel
theorem dX8_comeBest_172 : decode cX8_comeBest 172 = .ok (.iconst 1, 1) := by decide +kernel
theorem dX8_comeBest_173 : decode cX8_comeBest 173 = .ok (.iaload, 1) := by decide +kernel
theorem dX8_comeBest_174 : decode cX8_comeBest 174 = .ok (.isub, 1) := by decide +kernel
theorem dX8_comeBest_175 : decode cX8_comeBest 175 = .ok (.i2l, 1) := by decide +kernel
theorem dX8_comeBest_176 : decode cX8_comeBest 176 = .ok (.lstore 7, 2) := by decide +kernel
theorem dX8_comeBest_178 : decode cX8_comeBest 178 = .ok (.aload_n 0, 1) := by decide +kernel
theorem dX8_comeBest_179 : decode cX8_comeBest 179 = .ok (.iload 4, 2) := by decide +kernel
theorem dX8_comeBest_181 : decode cX8_comeBest 181 = .ok (.lload 7, 2) := by decide +kernel
theorem dX8_comeBest_183 : decode cX8_comeBest 183 = .ok (.lconst 0, 1) := by decide +kernel
theorem dX8_comeBest_184 : decode cX8_comeBest 184 = .ok (.lcmp, 1) := by decide +kernel
theorem dX8_comeBest_185 : decode cX8_comeBest 185 = .ok (.ifCond .gt 7, 3) := by decide +kernel
theorem dX8_comeBest_188 : decode cX8_comeBest 188 = .ok (.iconst 1, 1) := by decide +kernel
theorem dX8_comeBest_189 : decode cX8_comeBest 189 = .ok (.goto 4, 3) := by decide +kernel
theorem dX8_comeBest_192 : decode cX8_comeBest 192 = .ok (.iconst 2, 1) := by decide +kernel
theorem dX8_comeBest_193 : decode cX8_comeBest 193 = .ok (.iload_n 2, 1) := by decide +kernel
theorem dX8_comeBest_194 : decode cX8_comeBest 194 = .ok (.iload_n 3, 1) := by decide +kernel
theorem dX8_comeBest_195 : decode cX8_comeBest 195 = .ok (.invokevirtual 152, 3) := by decide +kernel
theorem dX8_comeBest_198 : decode cX8_comeBest 198 = .ok (.ireturn, 1) := by decide +kernel
theorem dX8_find_0 : decode cX8_find 0 = .ok (.iconst 0, 1) := by decide +kernel
theorem dX8_find_1 : decode cX8_find 1 = .ok (.istore 6, 2) := by decide +kernel
theorem dX8_find_3 : decode cX8_find 3 = .ok (.iload 6, 2) := by decide +kernel
theorem dX8_find_5 : decode cX8_find 5 = .ok (.sipush 400, 3) := by decide +kernel
theorem dX8_find_8 : decode cX8_find 8 = .ok (.if_icmp .ge 83, 3) := by decide +kernel
theorem dX8_find_11 : decode cX8_find 11 = .ok (.aload_n 0, 1) := by decide +kernel
theorem dX8_find_12 : decode cX8_find 12 = .ok (.getfield 13, 3) := by decide +kernel
theorem dX8_find_15 : decode cX8_find 15 = .ok (.iload 6, 2) := by decide +kernel
theorem dX8_find_17 : decode cX8_find 17 = .ok (.iaload, 1) := by decide +kernel
theorem dX8_find_18 : decode cX8_find 18 = .ok (.iload_n 1, 1) := by decide +kernel
theorem dX8_find_19 : decode cX8_find 19 = .ok (.if_icmp .ne 66, 3) := by decide +kernel
theorem dX8_find_22 : decode cX8_find 22 = .ok (.aload_n 0, 1) := by decide +kernel
theorem dX8_find_23 : decode cX8_find 23 = .ok (.getfield 17, 3) := by decide +kernel
theorem dX8_find_26 : decode cX8_find 26 = .ok (.iconst 4, 1) := by decide +kernel
theorem dX8_find_27 : decode cX8_find 27 = .ok (.iload 6, 2) := by decide +kernel
theorem dX8_find_29 : decode cX8_find 29 = .ok (.imul, 1) := by decide +kernel
theorem dX8_find_30 : decode cX8_find 30 = .ok (.iaload, 1) := by decide +kernel
theorem dX8_find_31 : decode cX8_find 31 = .ok (.iload_n 2, 1) := by decide +kernel
theorem dX8_find_32 : decode cX8_find 32 = .ok (.if_icmp .ne 53, 3) := by decide +kernel
theorem dX8_find_35 : decode cX8_find 35 = .ok (.aload_n 0, 1) := by decide +kernel
theorem dX8_find_36 : decode cX8_find 36 = .ok (.getfield 17, 3) := by decide +kernel
theorem dX8_find_39 : decode cX8_find 39 = .ok (.iconst 4, 1) := by decide +kernel
theorem dX8_find_40 : decode cX8_find 40 = .ok (.iload 6, 2) := by decide +kernel
theorem dX8_find_42 : decode cX8_find 42 = .ok (.imul, 1) := by decide +kernel
theorem dX8_find_43 : decode cX8_find 43 = .ok (.iconst 1, 1) := by decide +kernel
theorem dX8_find_44 : decode cX8_find 44 = .ok (.iadd, 1) := by decide +kernel
theorem dX8_find_45 : decode cX8_find 45 = .ok (.iaload, 1) := by decide +kernel
theorem dX8_find_46 : decode cX8_find 46 = .ok (.iload_n 3, 1) := by decide +kernel
theorem dX8_find_47 : decode cX8_find 47 = .ok (.if_icmp .ne 38, 3) := by decide +kernel
theorem dX8_find_50 : decode cX8_find 50 = .ok (.aload_n 0, 1) := by decide +kernel
theorem dX8_find_51 : decode cX8_find 51 = .ok (.getfield 17, 3) := by decide +kernel
theorem dX8_find_54 : decode cX8_find 54 = .ok (.iconst 4, 1) := by decide +kernel
theorem dX8_find_55 : decode cX8_find 55 = .ok (.iload 6, 2) := by decide +kernel
theorem dX8_find_57 : decode cX8_find 57 = .ok (.imul, 1) := by decide +kernel
theorem dX8_find_58 : decode cX8_find 58 = .ok (.iconst 2, 1) := by decide +kernel
theorem dX8_find_59 : decode cX8_find 59 = .ok (.iadd, 1) := by decide +kernel
theorem dX8_find_60 : decode cX8_find 60 = .ok (.iaload, 1) := by decide +kernel
theorem dX8_find_61 : decode cX8_find 61 = .ok (.iload 4, 2) := by decide +kernel
theorem dX8_find_63 : decode cX8_find 63 = .ok (.if_icmp .ne 22, 3) := by decide +kernel
theorem dX8_find_66 : decode cX8_find 66 = .ok (.aload_n 0, 1) := by decide +kernel
theorem dX8_find_67 : decode cX8_find 67 = .ok (.getfield 17, 3) := by decide +kernel
theorem dX8_find_70 : decode cX8_find 70 = .ok (.iconst 4, 1) := by decide +kernel
theorem dX8_find_71 : decode cX8_find 71 = .ok (.iload 6, 2) := by decide +kernel
theorem dX8_find_73 : decode cX8_find 73 = .ok (.imul, 1) := by decide +kernel
theorem dX8_find_74 : decode cX8_find 74 = .ok (.iconst 3, 1) := by decide +kernel
theorem dX8_find_75 : decode cX8_find 75 = .ok (.iadd, 1) := by decide +kernel
theorem dX8_find_76 : decode cX8_find 76 = .ok (.iaload, 1) := by decide +kernel
theorem dX8_find_77 : decode cX8_find 77 = .ok (.iload 5, 2) := by decide +kernel
theorem dX8_find_79 : decode cX8_find 79 = .ok (.if_icmp .ne 6, 3) := by decide +kernel
theorem dX8_find_82 : decode cX8_find 82 = .ok (.iload 6, 2) := by decide +kernel
theorem dX8_find_84 : decode cX8_find 84 = .ok (.ireturn, 1) := by decide +kernel
theorem dX8_find_85 : decode cX8_find 85 = .ok (.iinc 6 1, 3) := by decide +kernel
theorem dX8_find_88 : decode cX8_find 88 = .ok (.goto (-85), 3) := by decide +kernel
theorem dX8_find_91 : decode cX8_find 91 = .ok (.bipush (-2), 2) := by decide +kernel
theorem dX8_find_93 : decode cX8_find 93 = .ok (.ireturn, 1) := by decide +kernel
theorem dX8_isEntry_0 : decode cX8_isEntry 0 = .ok (.iload_n 0, 1) := by decide +kernel
theorem dX8_isEntry_1 : decode cX8_isEntry 1 = .ok (.ifCond .lt 25, 3) := by decide +kernel
theorem dX8_isEntry_4 : decode cX8_isEntry 4 = .ok (.iload_n 0, 1) := by decide +kernel
theorem dX8_isEntry_5 : decode cX8_isEntry 5 = .ok (.sipush 1000, 3) := by decide +kernel
theorem dX8_isEntry_8 : decode cX8_isEntry 8 = .ok (.if_icmp .ge 18, 3) := by decide +kernel
theorem dX8_isEntry_11 : decode cX8_isEntry 11 = .ok (.iload_n 1, 1) := by decide +kernel
theorem dX8_isEntry_12 : decode cX8_isEntry 12 = .ok (.iload_n 2, 1) := by decide +kernel
theorem dX8_isEntry_13 : decode cX8_isEntry 13 = .ok (.iload_n 3, 1) := by decide +kernel
theorem dX8_isEntry_14 : decode cX8_isEntry 14 = .ok (.iload 4, 2) := by decide +kernel
theorem dX8_isEntry_16 : decode cX8_isEntry 16 = .ok (.invokestatic 169, 3) := by decide +kernel
theorem dX8_isEntry_19 : decode cX8_isEntry 19 = .ok (.ifCond .eq 7, 3) := by decide +kernel
theorem dX8_isEntry_22 : decode cX8_isEntry 22 = .ok (.iconst 1, 1) := by decide +kernel
theorem dX8_isEntry_23 : decode cX8_isEntry 23 = .ok (.goto 4, 3) := by decide +kernel
theorem dX8_isEntry_26 : decode cX8_isEntry 26 = .ok (.iconst 0, 1) := by decide +kernel
theorem dX8_isEntry_27 : decode cX8_isEntry 27 = .ok (.ireturn, 1) := by decide +kernel
theorem dX8_insert_0 : decode cX8_insert 0 = .ok (.iload_n 1, 1) := by decide +kernel
theorem dX8_insert_1 : decode cX8_insert 1 = .ok (.iload_n 2, 1) := by decide +kernel
theorem dX8_insert_2 : decode cX8_insert 2 = .ok (.iload_n 3, 1) := by decide +kernel
theorem dX8_insert_3 : decode cX8_insert 3 = .ok (.iload 4, 2) := by decide +kernel
theorem dX8_insert_5 : decode cX8_insert 5 = .ok (.iload 5, 2) := by decide +kernel
theorem dX8_insert_7 : decode cX8_insert 7 = .ok (.invokestatic 173, 3) := by decide +kernel
theorem dX8_insert_10 : decode cX8_insert 10 = .ok (.ifCond .ne 5, 3) := by decide +kernel
theorem dX8_insert_13 : decode cX8_insert 13 = .ok (.iconst (-1), 1) := by decide +kernel
theorem dX8_insert_14 : decode cX8_insert 14 = .ok (.ireturn, 1) := by decide +kernel
theorem dX8_insert_15 : decode cX8_insert 15 = .ok (.aload_n 0, 1) := by decide +kernel
theorem dX8_insert_16 : decode cX8_insert 16 = .ok (.iload_n 1, 1) := by decide +kernel
theorem dX8_insert_17 : decode cX8_insert 17 = .ok (.iload_n 2, 1) := by decide +kernel
theorem dX8_insert_18 : decode cX8_insert 18 = .ok (.iload_n 3, 1) := by decide +kernel
theorem dX8_insert_19 : decode cX8_insert 19 = .ok (.iload 4, 2) := by decide +kernel
theorem dX8_insert_21 : decode cX8_insert 21 = .ok (.iload 5, 2) := by decide +kernel
theorem dX8_insert_23 : decode cX8_insert 23 = .ok (.invokevirtual 177, 3) := by decide +kernel
theorem dX8_insert_26 : decode cX8_insert 26 = .ok (.ifCond .lt 6, 3) := by decide +kernel
theorem dX8_insert_29 : decode cX8_insert 29 = .ok (.bipush (-2), 2) := by decide +kernel
theorem dX8_insert_31 : decode cX8_insert 31 = .ok (.ireturn, 1) := by decide +kernel
theorem dX8_insert_32 : decode cX8_insert 32 = .ok (.aload_n 0, 1) := by decide +kernel
theorem dX8_insert_33 : decode cX8_insert 33 = .ok (.getfield 181, 3) := by decide +kernel
theorem dX8_insert_36 : decode cX8_insert 36 = .ok (.sipush 400, 3) := by decide +kernel
theorem dX8_insert_39 : decode cX8_insert 39 = .ok (.if_icmp .ne 6, 3) := by decide +kernel
theorem dX8_insert_42 : decode cX8_insert 42 = .ok (.bipush (-3), 2) := by decide +kernel
theorem dX8_insert_44 : decode cX8_insert 44 = .ok (.ireturn, 1) := by decide +kernel
theorem dX8_insert_45 : decode cX8_insert 45 = .ok (.iconst 0, 1) := by decide +kernel
theorem dX8_insert_46 : decode cX8_insert 46 = .ok (.istore 6, 2) := by decide +kernel
theorem dX8_insert_48 : decode cX8_insert 48 = .ok (.aload_n 0, 1) := by decide +kernel
theorem dX8_insert_49 : decode cX8_insert 49 = .ok (.getfield 13, 3) := by decide +kernel
theorem dX8_insert_52 : decode cX8_insert 52 = .ok (.iload 6, 2) := by decide +kernel
theorem dX8_insert_54 : decode cX8_insert 54 = .ok (.iaload, 1) := by decide +kernel
theorem dX8_insert_55 : decode cX8_insert 55 = .ok (.ifCond .lt 9, 3) := by decide +kernel
theorem dX8_insert_58 : decode cX8_insert 58 = .ok (.iinc 6 1, 3) := by decide +kernel
theorem dX8_insert_61 : decode cX8_insert 61 = .ok (.goto (-13), 3) := by decide +kernel
theorem dX8_insert_64 : decode cX8_insert 64 = .ok (.aload_n 0, 1) := by decide +kernel
theorem dX8_insert_65 : decode cX8_insert 65 = .ok (.getfield 13, 3) := by decide +kernel
theorem dX8_insert_68 : decode cX8_insert 68 = .ok (.iload 6, 2) := by decide +kernel
theorem dX8_insert_70 : decode cX8_insert 70 = .ok (.iload_n 1, 1) := by decide +kernel
theorem dX8_insert_71 : decode cX8_insert 71 = .ok (.iastore, 1) := by decide +kernel
theorem dX8_insert_72 : decode cX8_insert 72 = .ok (.aload_n 0, 1) := by decide +kernel
theorem dX8_insert_73 : decode cX8_insert 73 = .ok (.getfield 17, 3) := by decide +kernel
theorem dX8_insert_76 : decode cX8_insert 76 = .ok (.iconst 4, 1) := by decide +kernel
theorem dX8_insert_77 : decode cX8_insert 77 = .ok (.iload 6, 2) := by decide +kernel
theorem dX8_insert_79 : decode cX8_insert 79 = .ok (.imul, 1) := by decide +kernel
theorem dX8_insert_80 : decode cX8_insert 80 = .ok (.iload_n 2, 1) := by decide +kernel
theorem dX8_insert_81 : decode cX8_insert 81 = .ok (.iastore, 1) := by decide +kernel
theorem dX8_insert_82 : decode cX8_insert 82 = .ok (.aload_n 0, 1) := by decide +kernel
theorem dX8_insert_83 : decode cX8_insert 83 = .ok (.getfield 17, 3) := by decide +kernel
theorem dX8_insert_86 : decode cX8_insert 86 = .ok (.iconst 4, 1) := by decide +kernel
theorem dX8_insert_87 : decode cX8_insert 87 = .ok (.iload 6, 2) := by decide +kernel
theorem dX8_insert_89 : decode cX8_insert 89 = .ok (.imul, 1) := by decide +kernel
theorem dX8_insert_90 : decode cX8_insert 90 = .ok (.iconst 1, 1) := by decide +kernel
theorem dX8_insert_91 : decode cX8_insert 91 = .ok (.iadd, 1) := by decide +kernel
theorem dX8_insert_92 : decode cX8_insert 92 = .ok (.iload_n 3, 1) := by decide +kernel
theorem dX8_insert_93 : decode cX8_insert 93 = .ok (.iastore, 1) := by decide +kernel
theorem dX8_insert_94 : decode cX8_insert 94 = .ok (.aload_n 0, 1) := by decide +kernel
theorem dX8_insert_95 : decode cX8_insert 95 = .ok (.getfield 17, 3) := by decide +kernel
theorem dX8_insert_98 : decode cX8_insert 98 = .ok (.iconst 4, 1) := by decide +kernel
theorem dX8_insert_99 : decode cX8_insert 99 = .ok (.iload 6, 2) := by decide +kernel
theorem dX8_insert_101 : decode cX8_insert 101 = .ok (.imul, 1) := by decide +kernel
theorem dX8_insert_102 : decode cX8_insert 102 = .ok (.iconst 2, 1) := by decide +kernel
theorem dX8_insert_103 : decode cX8_insert 103 = .ok (.iadd, 1) := by decide +kernel
theorem dX8_insert_104 : decode cX8_insert 104 = .ok (.iload 4, 2) := by decide +kernel
theorem dX8_insert_106 : decode cX8_insert 106 = .ok (.iastore, 1) := by decide +kernel
theorem dX8_insert_107 : decode cX8_insert 107 = .ok (.aload_n 0, 1) := by decide +kernel
theorem dX8_insert_108 : decode cX8_insert 108 = .ok (.getfield 17, 3) := by decide +kernel
theorem dX8_insert_111 : decode cX8_insert 111 = .ok (.iconst 4, 1) := by decide +kernel
theorem dX8_insert_112 : decode cX8_insert 112 = .ok (.iload 6, 2) := by decide +kernel
theorem dX8_insert_114 : decode cX8_insert 114 = .ok (.imul, 1) := by decide +kernel
theorem dX8_insert_115 : decode cX8_insert 115 = .ok (.iconst 3, 1) := by decide +kernel
theorem dX8_insert_116 : decode cX8_insert 116 = .ok (.iadd, 1) := by decide +kernel
theorem dX8_insert_117 : decode cX8_insert 117 = .ok (.iload 5, 2) := by decide +kernel
theorem dX8_insert_119 : decode cX8_insert 119 = .ok (.iastore, 1) := by decide +kernel
theorem dX8_insert_120 : decode cX8_insert 120 = .ok (.aload_n 0, 1) := by decide +kernel
theorem dX8_insert_121 : decode cX8_insert 121 = .ok (.dup, 1) := by decide +kernel
theorem dX8_insert_122 : decode cX8_insert 122 = .ok (.getfield 181, 3) := by decide +kernel
theorem dX8_insert_125 : decode cX8_insert 125 = .ok (.iconst 1, 1) := by decide +kernel
theorem dX8_insert_126 : decode cX8_insert 126 = .ok (.iadd, 1) := by decide +kernel
theorem dX8_insert_127 : decode cX8_insert 127 = .ok (.putfield 181, 3) := by decide +kernel
theorem dX8_insert_130 : decode cX8_insert 130 = .ok (.aload_n 0, 1) := by decide +kernel
theorem dX8_insert_131 : decode cX8_insert 131 = .ok (.iconst 0, 1) := by decide +kernel
theorem dX8_insert_132 : decode cX8_insert 132 = .ok (.putfield 184, 3) := by decide +kernel
theorem dX8_insert_135 : decode cX8_insert 135 = .ok (.aload_n 0, 1) := by decide +kernel
theorem dX8_insert_136 : decode cX8_insert 136 = .ok (.iconst (-1), 1) := by decide +kernel
theorem dX8_insert_137 : decode cX8_insert 137 = .ok (.iload 6, 2) := by decide +kernel
theorem dX8_insert_139 : decode cX8_insert 139 = .ok (.invokevirtual 188, 3) := by decide +kernel
theorem dX8_insert_142 : decode cX8_insert 142 = .ok (.aload_n 0, 1) := by decide +kernel
theorem dX8_insert_143 : decode cX8_insert 143 = .ok (.getfield 181, 3) := by decide +kernel
theorem dX8_insert_146 : decode cX8_insert 146 = .ok (.ireturn, 1) := by decide +kernel
theorem dX8_leafOf_0 : decode cX8_leafOf 0 = .ok (.iconst 0, 1) := by decide +kernel
theorem dX8_leafOf_1 : decode cX8_leafOf 1 = .ok (.istore_n 2, 1) := by decide +kernel
theorem dX8_leafOf_2 : decode cX8_leafOf 2 = .ok (.iload_n 2, 1) := by decide +kernel
theorem dX8_leafOf_3 : decode cX8_leafOf 3 = .ok (.sipush 500, 3) := by decide +kernel
theorem dX8_leafOf_6 : decode cX8_leafOf 6 = .ok (.if_icmp .ge 48, 3) := by decide +kernel
theorem dX8_leafOf_9 : decode cX8_leafOf 9 = .ok (.iconst 0, 1) := by decide +kernel
theorem dX8_leafOf_10 : decode cX8_leafOf 10 = .ok (.istore_n 3, 1) := by decide +kernel
theorem dX8_leafOf_11 : decode cX8_leafOf 11 = .ok (.aload_n 0, 1) := by decide +kernel
theorem dX8_leafOf_12 : decode cX8_leafOf 12 = .ok (.getfield 20, 3) := by decide +kernel
theorem dX8_leafOf_15 : decode cX8_leafOf 15 = .ok (.iload_n 2, 1) := by decide +kernel
theorem dX8_leafOf_16 : decode cX8_leafOf 16 = .ok (.iaload, 1) := by decide +kernel
theorem dX8_leafOf_17 : decode cX8_leafOf 17 = .ok (.ifCond .ne 31, 3) := by decide +kernel
theorem dX8_leafOf_20 : decode cX8_leafOf 20 = .ok (.iload_n 3, 1) := by decide +kernel
theorem dX8_leafOf_21 : decode cX8_leafOf 21 = .ok (.aload_n 0, 1) := by decide +kernel
theorem dX8_leafOf_22 : decode cX8_leafOf 22 = .ok (.getfield 23, 3) := by decide +kernel
theorem dX8_leafOf_25 : decode cX8_leafOf 25 = .ok (.iload_n 2, 1) := by decide +kernel
theorem dX8_leafOf_26 : decode cX8_leafOf 26 = .ok (.iaload, 1) := by decide +kernel
theorem dX8_leafOf_27 : decode cX8_leafOf 27 = .ok (.if_icmp .ge 21, 3) := by decide +kernel
theorem dX8_leafOf_30 : decode cX8_leafOf 30 = .ok (.aload_n 0, 1) := by decide +kernel
theorem dX8_leafOf_31 : decode cX8_leafOf 31 = .ok (.iload_n 2, 1) := by decide +kernel
theorem dX8_leafOf_32 : decode cX8_leafOf 32 = .ok (.iload_n 3, 1) := by decide +kernel
theorem dX8_leafOf_33 : decode cX8_leafOf 33 = .ok (.invokevirtual 115, 3) := by decide +kernel
theorem dX8_leafOf_36 : decode cX8_leafOf 36 = .ok (.iload_n 1, 1) := by decide +kernel
theorem dX8_leafOf_37 : decode cX8_leafOf 37 = .ok (.if_icmp .ne 5, 3) := by decide +kernel
theorem dX8_leafOf_40 : decode cX8_leafOf 40 = .ok (.iload_n 2, 1) := by decide +kernel
theorem dX8_leafOf_41 : decode cX8_leafOf 41 = .ok (.ireturn, 1) := by decide +kernel
theorem dX8_leafOf_42 : decode cX8_leafOf 42 = .ok (.iinc 3 1, 3) := by decide +kernel
theorem dX8_leafOf_45 : decode cX8_leafOf 45 = .ok (.goto (-34), 3) := by decide +kernel
theorem dX8_leafOf_48 : decode cX8_leafOf 48 = .ok (.iinc 2 1, 3) := by decide +kernel
theorem dX8_leafOf_51 : decode cX8_leafOf 51 = .ok (.goto (-49), 3) := by decide +kernel
theorem dX8_leafOf_54 : decode cX8_leafOf 54 = .ok (.bipush (-2), 2) := by decide +kernel
theorem dX8_leafOf_56 : decode cX8_leafOf 56 = .ok (.ireturn, 1) := by decide +kernel
theorem dX8_remove_0 : decode cX8_remove 0 = .ok (.iload_n 1, 1) := by decide +kernel
theorem dX8_remove_1 : decode cX8_remove 1 = .ok (.iload_n 2, 1) := by decide +kernel
theorem dX8_remove_2 : decode cX8_remove 2 = .ok (.iload_n 3, 1) := by decide +kernel
theorem dX8_remove_3 : decode cX8_remove 3 = .ok (.iload 4, 2) := by decide +kernel
theorem dX8_remove_5 : decode cX8_remove 5 = .ok (.iload 5, 2) := by decide +kernel
theorem dX8_remove_7 : decode cX8_remove 7 = .ok (.invokestatic 173, 3) := by decide +kernel
theorem dX8_remove_10 : decode cX8_remove 10 = .ok (.ifCond .ne 5, 3) := by decide +kernel
theorem dX8_remove_13 : decode cX8_remove 13 = .ok (.iconst (-1), 1) := by decide +kernel
theorem dX8_remove_14 : decode cX8_remove 14 = .ok (.ireturn, 1) := by decide +kernel
theorem dX8_remove_15 : decode cX8_remove 15 = .ok (.aload_n 0, 1) := by decide +kernel
theorem dX8_remove_16 : decode cX8_remove 16 = .ok (.iload_n 1, 1) := by decide +kernel
theorem dX8_remove_17 : decode cX8_remove 17 = .ok (.iload_n 2, 1) := by decide +kernel
theorem dX8_remove_18 : decode cX8_remove 18 = .ok (.iload_n 3, 1) := by decide +kernel
theorem dX8_remove_19 : decode cX8_remove 19 = .ok (.iload 4, 2) := by decide +kernel
theorem dX8_remove_21 : decode cX8_remove 21 = .ok (.iload 5, 2) := by decide +kernel
theorem dX8_remove_23 : decode cX8_remove 23 = .ok (.invokevirtual 177, 3) := by decide +kernel
theorem dX8_remove_26 : decode cX8_remove 26 = .ok (.istore 6, 2) := by decide +kernel
theorem dX8_remove_28 : decode cX8_remove 28 = .ok (.iload 6, 2) := by decide +kernel
theorem dX8_remove_30 : decode cX8_remove 30 = .ok (.ifCond .ge 6, 3) := by decide +kernel
theorem dX8_remove_33 : decode cX8_remove 33 = .ok (.bipush (-2), 2) := by decide +kernel
theorem dX8_remove_35 : decode cX8_remove 35 = .ok (.ireturn, 1) := by decide +kernel
theorem dX8_remove_36 : decode cX8_remove 36 = .ok (.aload_n 0, 1) := by decide +kernel
theorem dX8_remove_37 : decode cX8_remove 37 = .ok (.iconst 0, 1) := by decide +kernel
theorem dX8_remove_38 : decode cX8_remove 38 = .ok (.putfield 184, 3) := by decide +kernel
theorem dX8_remove_41 : decode cX8_remove 41 = .ok (.aload_n 0, 1) := by decide +kernel
theorem dX8_remove_42 : decode cX8_remove 42 = .ok (.iload 6, 2) := by decide +kernel
theorem dX8_remove_44 : decode cX8_remove 44 = .ok (.invokevirtual 191, 3) := by decide +kernel
theorem dX8_remove_47 : decode cX8_remove 47 = .ok (.istore 7, 2) := by decide +kernel
theorem dX8_remove_49 : decode cX8_remove 49 = .ok (.aload_n 0, 1) := by decide +kernel
theorem dX8_remove_50 : decode cX8_remove 50 = .ok (.iload 7, 2) := by decide +kernel
theorem dX8_remove_52 : decode cX8_remove 52 = .ok (.iload 6, 2) := by decide +kernel
theorem dX8_remove_54 : decode cX8_remove 54 = .ok (.invokevirtual 194, 3) := by decide +kernel
theorem dX8_remove_57 : decode cX8_remove 57 = .ok (.aload_n 0, 1) := by decide +kernel
theorem dX8_remove_58 : decode cX8_remove 58 = .ok (.getfield 13, 3) := by decide +kernel
theorem dX8_remove_61 : decode cX8_remove 61 = .ok (.iload 6, 2) := by decide +kernel
theorem dX8_remove_63 : decode cX8_remove 63 = .ok (.bipush (-2), 2) := by decide +kernel
theorem dX8_remove_65 : decode cX8_remove 65 = .ok (.iastore, 1) := by decide +kernel
theorem dX8_remove_66 : decode cX8_remove 66 = .ok (.aload_n 0, 1) := by decide +kernel
theorem dX8_remove_67 : decode cX8_remove 67 = .ok (.dup, 1) := by decide +kernel
theorem dX8_remove_68 : decode cX8_remove 68 = .ok (.getfield 181, 3) := by decide +kernel
theorem dX8_remove_71 : decode cX8_remove 71 = .ok (.iconst 1, 1) := by decide +kernel
theorem dX8_remove_72 : decode cX8_remove 72 = .ok (.isub, 1) := by decide +kernel
theorem dX8_remove_73 : decode cX8_remove 73 = .ok (.putfield 181, 3) := by decide +kernel
theorem dX8_remove_76 : decode cX8_remove 76 = .ok (.aload_n 0, 1) := by decide +kernel
theorem dX8_remove_77 : decode cX8_remove 77 = .ok (.iconst 0, 1) := by decide +kernel
theorem dX8_remove_78 : decode cX8_remove 78 = .ok (.putfield 197, 3) := by decide +kernel
theorem dX8_remove_81 : decode cX8_remove 81 = .ok (.iload 7, 2) := by decide +kernel
theorem dX8_remove_83 : decode cX8_remove 83 = .ok (.ifCond .lt 144, 3) := by decide +kernel
theorem dX8_remove_86 : decode cX8_remove 86 = .ok (.aload_n 0, 1) := by decide +kernel
theorem dX8_remove_87 : decode cX8_remove 87 = .ok (.getfield 32, 3) := by decide +kernel
theorem dX8_remove_90 : decode cX8_remove 90 = .ok (.iload 7, 2) := by decide +kernel
theorem dX8_remove_92 : decode cX8_remove 92 = .ok (.iaload, 1) := by decide +kernel
theorem dX8_remove_93 : decode cX8_remove 93 = .ok (.istore 8, 2) := by decide +kernel
theorem dX8_remove_95 : decode cX8_remove 95 = .ok (.iload 7, 2) := by decide +kernel
theorem dX8_remove_97 : decode cX8_remove 97 = .ok (.aload_n 0, 1) := by decide +kernel
theorem dX8_remove_98 : decode cX8_remove 98 = .ok (.getfield 93, 3) := by decide +kernel
theorem dX8_remove_101 : decode cX8_remove 101 = .ok (.if_icmp .eq 113, 3) := by decide +kernel
theorem dX8_remove_104 : decode cX8_remove 104 = .ok (.aload_n 0, 1) := by decide +kernel
theorem dX8_remove_105 : decode cX8_remove 105 = .ok (.getfield 23, 3) := by decide +kernel
theorem dX8_remove_108 : decode cX8_remove 108 = .ok (.iload 7, 2) := by decide +kernel
theorem dX8_remove_110 : decode cX8_remove 110 = .ok (.iaload, 1) := by decide +kernel
theorem dX8_remove_111 : decode cX8_remove 111 = .ok (.aload_n 0, 1) := by decide +kernel
theorem dX8_remove_112 : decode cX8_remove 112 = .ok (.getfield 86, 3) := by decide +kernel
theorem dX8_remove_115 : decode cX8_remove 115 = .ok (.if_icmp .ge 99, 3) := by decide +kernel
theorem dX8_remove_118 : decode cX8_remove 118 = .ok (.iconst 0, 1) := by decide +kernel
theorem dX8_remove_119 : decode cX8_remove 119 = .ok (.istore 9, 2) := by decide +kernel
theorem dX8_remove_121 : decode cX8_remove 121 = .ok (.iload 9, 2) := by decide +kernel
theorem dX8_remove_123 : decode cX8_remove 123 = .ok (.aload_n 0, 1) := by decide +kernel
theorem dX8_remove_124 : decode cX8_remove 124 = .ok (.getfield 23, 3) := by decide +kernel
theorem dX8_remove_127 : decode cX8_remove 127 = .ok (.iload 7, 2) := by decide +kernel
theorem dX8_remove_129 : decode cX8_remove 129 = .ok (.iaload, 1) := by decide +kernel
theorem dX8_remove_130 : decode cX8_remove 130 = .ok (.if_icmp .ge 54, 3) := by decide +kernel
theorem dX8_remove_133 : decode cX8_remove 133 = .ok (.aload_n 0, 1) := by decide +kernel
theorem dX8_remove_134 : decode cX8_remove 134 = .ok (.getfield 35, 3) := by decide +kernel
theorem dX8_remove_137 : decode cX8_remove 137 = .ok (.aload_n 0, 1) := by decide +kernel
theorem dX8_remove_138 : decode cX8_remove 138 = .ok (.getfield 197, 3) := by decide +kernel
theorem dX8_remove_141 : decode cX8_remove 141 = .ok (.aload_n 0, 1) := by decide +kernel
theorem dX8_remove_142 : decode cX8_remove 142 = .ok (.iload 7, 2) := by decide +kernel
theorem dX8_remove_144 : decode cX8_remove 144 = .ok (.iload 9, 2) := by decide +kernel
theorem dX8_remove_146 : decode cX8_remove 146 = .ok (.invokevirtual 115, 3) := by decide +kernel
theorem dX8_remove_149 : decode cX8_remove 149 = .ok (.iastore, 1) := by decide +kernel
theorem dX8_remove_150 : decode cX8_remove 150 = .ok (.aload_n 0, 1) := by decide +kernel
theorem dX8_remove_151 : decode cX8_remove 151 = .ok (.getfield 38, 3) := by decide +kernel
theorem dX8_remove_154 : decode cX8_remove 154 = .ok (.aload_n 0, 1) := by decide +kernel
theorem dX8_remove_155 : decode cX8_remove 155 = .ok (.getfield 197, 3) := by decide +kernel
theorem dX8_remove_158 : decode cX8_remove 158 = .ok (.aload_n 0, 1) := by decide +kernel
theorem dX8_remove_159 : decode cX8_remove 159 = .ok (.getfield 20, 3) := by decide +kernel
theorem dX8_remove_162 : decode cX8_remove 162 = .ok (.iload 7, 2) := by decide +kernel
theorem dX8_remove_164 : decode cX8_remove 164 = .ok (.iaload, 1) := by decide +kernel
theorem dX8_remove_165 : decode cX8_remove 165 = .ok (.iconst 1, 1) := by decide +kernel
theorem dX8_remove_166 : decode cX8_remove 166 = .ok (.isub, 1) := by decide +kernel
theorem dX8_remove_167 : decode cX8_remove 167 = .ok (.iastore, 1) := by decide +kernel
theorem dX8_remove_168 : decode cX8_remove 168 = .ok (.aload_n 0, 1) := by decide +kernel
theorem dX8_remove_169 : decode cX8_remove 169 = .ok (.dup, 1) := by decide +kernel
theorem dX8_remove_170 : decode cX8_remove 170 = .ok (.getfield 197, 3) := by decide +kernel
theorem dX8_remove_173 : decode cX8_remove 173 = .ok (.iconst 1, 1) := by decide +kernel
theorem dX8_remove_174 : decode cX8_remove 174 = .ok (.iadd, 1) := by decide +kernel
theorem dX8_remove_175 : decode cX8_remove 175 = .ok (.putfield 197, 3) := by decide +kernel
theorem dX8_remove_178 : decode cX8_remove 178 = .ok (.iinc 9 1, 3) := by decide +kernel
theorem dX8_remove_181 : decode cX8_remove 181 = .ok (.goto (-60), 3) := by decide +kernel
theorem dX8_remove_184 : decode cX8_remove 184 = .ok (.aload_n 0, 1) := by decide +kernel
theorem dX8_remove_185 : decode cX8_remove 185 = .ok (.iload 8, 2) := by decide +kernel
theorem dX8_remove_187 : decode cX8_remove 187 = .ok (.iload 7, 2) := by decide +kernel
theorem dX8_remove_189 : decode cX8_remove 189 = .ok (.invokevirtual 194, 3) := by decide +kernel
theorem dX8_remove_192 : decode cX8_remove 192 = .ok (.aload_n 0, 1) := by decide +kernel
theorem dX8_remove_193 : decode cX8_remove 193 = .ok (.getfield 20, 3) := by decide +kernel
theorem dX8_remove_196 : decode cX8_remove 196 = .ok (.iload 7, 2) := by decide +kernel
theorem dX8_remove_198 : decode cX8_remove 198 = .ok (.bipush (-2), 2) := by decide +kernel
theorem dX8_remove_200 : decode cX8_remove 200 = .ok (.iastore, 1) := by decide +kernel
theorem dX8_remove_201 : decode cX8_remove 201 = .ok (.aload_n 0, 1) := by decide +kernel
theorem dX8_remove_202 : decode cX8_remove 202 = .ok (.dup, 1) := by decide +kernel
theorem dX8_remove_203 : decode cX8_remove 203 = .ok (.getfield 200, 3) := by decide +kernel
theorem dX8_remove_206 : decode cX8_remove 206 = .ok (.iconst 1, 1) := by decide +kernel
theorem dX8_remove_207 : decode cX8_remove 207 = .ok (.iadd, 1) := by decide +kernel
theorem dX8_remove_208 : decode cX8_remove 208 = .ok (.putfield 200, 3) := by decide +kernel
theorem dX8_remove_211 : decode cX8_remove 211 = .ok (.goto 9, 3) := by decide +kernel
theorem dX8_remove_214 : decode cX8_remove 214 = .ok (.aload_n 0, 1) := by decide +kernel
theorem dX8_remove_215 : decode cX8_remove 215 = .ok (.iload 7, 2) := by decide +kernel
theorem dX8_remove_217 : decode cX8_remove 217 = .ok (.invokevirtual 118, 3) := by decide +kernel
theorem dX8_remove_220 : decode cX8_remove 220 = .ok (.iload 8, 2) := by decide +kernel
theorem dX8_remove_222 : decode cX8_remove 222 = .ok (.istore 7, 2) := by decide +kernel
theorem dX8_remove_224 : decode cX8_remove 224 = .ok (.goto (-143), 3) := by decide +kernel
theorem dX8_remove_227 : decode cX8_remove 227 = .ok (.aload_n 0, 1) := by decide +kernel
theorem dX8_remove_228 : decode cX8_remove 228 = .ok (.dup, 1) := by decide +kernel
theorem dX8_remove_229 : decode cX8_remove 229 = .ok (.getfield 203, 3) := by decide +kernel
theorem dX8_remove_232 : decode cX8_remove 232 = .ok (.aload_n 0, 1) := by decide +kernel
theorem dX8_remove_233 : decode cX8_remove 233 = .ok (.getfield 197, 3) := by decide +kernel
theorem dX8_remove_236 : decode cX8_remove 236 = .ok (.iadd, 1) := by decide +kernel
theorem dX8_remove_237 : decode cX8_remove 237 = .ok (.putfield 203, 3) := by decide +kernel
theorem dX8_remove_240 : decode cX8_remove 240 = .ok (.iconst 0, 1) := by decide +kernel
theorem dX8_remove_241 : decode cX8_remove 241 = .ok (.istore 8, 2) := by decide +kernel
theorem dX8_remove_243 : decode cX8_remove 243 = .ok (.iload 8, 2) := by decide +kernel
theorem dX8_remove_245 : decode cX8_remove 245 = .ok (.aload_n 0, 1) := by decide +kernel
theorem dX8_remove_246 : decode cX8_remove 246 = .ok (.getfield 197, 3) := by decide +kernel
theorem dX8_remove_249 : decode cX8_remove 249 = .ok (.if_icmp .ge 27, 3) := by decide +kernel
theorem dX8_remove_252 : decode cX8_remove 252 = .ok (.aload_n 0, 1) := by decide +kernel
theorem dX8_remove_253 : decode cX8_remove 253 = .ok (.aload_n 0, 1) := by decide +kernel
theorem dX8_remove_254 : decode cX8_remove 254 = .ok (.getfield 38, 3) := by decide +kernel
theorem dX8_remove_257 : decode cX8_remove 257 = .ok (.iload 8, 2) := by decide +kernel
theorem dX8_remove_259 : decode cX8_remove 259 = .ok (.iaload, 1) := by decide +kernel
theorem dX8_remove_260 : decode cX8_remove 260 = .ok (.aload_n 0, 1) := by decide +kernel
theorem dX8_remove_261 : decode cX8_remove 261 = .ok (.getfield 35, 3) := by decide +kernel
theorem dX8_remove_264 : decode cX8_remove 264 = .ok (.iload 8, 2) := by decide +kernel
theorem dX8_remove_266 : decode cX8_remove 266 = .ok (.iaload, 1) := by decide +kernel
theorem dX8_remove_267 : decode cX8_remove 267 = .ok (.invokevirtual 188, 3) := by decide +kernel
theorem dX8_remove_270 : decode cX8_remove 270 = .ok (.iinc 8 1, 3) := by decide +kernel
theorem dX8_remove_273 : decode cX8_remove 273 = .ok (.goto (-30), 3) := by decide +kernel
theorem dX8_remove_276 : decode cX8_remove 276 = .ok (.aload_n 0, 1) := by decide +kernel
theorem dX8_remove_277 : decode cX8_remove 277 = .ok (.getfield 20, 3) := by decide +kernel
theorem dX8_remove_280 : decode cX8_remove 280 = .ok (.aload_n 0, 1) := by decide +kernel
theorem dX8_remove_281 : decode cX8_remove 281 = .ok (.getfield 93, 3) := by decide +kernel
theorem dX8_remove_284 : decode cX8_remove 284 = .ok (.iaload, 1) := by decide +kernel
theorem dX8_remove_285 : decode cX8_remove 285 = .ok (.ifCond .le 58, 3) := by decide +kernel
theorem dX8_remove_288 : decode cX8_remove 288 = .ok (.aload_n 0, 1) := by decide +kernel
theorem dX8_remove_289 : decode cX8_remove 289 = .ok (.getfield 23, 3) := by decide +kernel
theorem dX8_remove_292 : decode cX8_remove 292 = .ok (.aload_n 0, 1) := by decide +kernel
theorem dX8_remove_293 : decode cX8_remove 293 = .ok (.getfield 93, 3) := by decide +kernel
theorem dX8_remove_296 : decode cX8_remove 296 = .ok (.iaload, 1) := by decide +kernel
theorem dX8_remove_297 : decode cX8_remove 297 = .ok (.iconst 1, 1) := by decide +kernel
theorem dX8_remove_298 : decode cX8_remove 298 = .ok (.if_icmp .ne 45, 3) := by decide +kernel
theorem dX8_remove_301 : decode cX8_remove 301 = .ok (.aload_n 0, 1) := by decide +kernel
theorem dX8_remove_302 : decode cX8_remove 302 = .ok (.aload_n 0, 1) := by decide +kernel
theorem dX8_remove_303 : decode cX8_remove 303 = .ok (.getfield 93, 3) := by decide +kernel
theorem dX8_remove_306 : decode cX8_remove 306 = .ok (.iconst 0, 1) := by decide +kernel
theorem dX8_remove_307 : decode cX8_remove 307 = .ok (.invokevirtual 115, 3) := by decide +kernel
theorem dX8_remove_310 : decode cX8_remove 310 = .ok (.istore 8, 2) := by decide +kernel
theorem dX8_remove_312 : decode cX8_remove 312 = .ok (.aload_n 0, 1) := by decide +kernel
theorem dX8_remove_313 : decode cX8_remove 313 = .ok (.getfield 20, 3) := by decide +kernel
theorem dX8_remove_316 : decode cX8_remove 316 = .ok (.aload_n 0, 1) := by decide +kernel
theorem dX8_remove_317 : decode cX8_remove 317 = .ok (.getfield 93, 3) := by decide +kernel
theorem dX8_remove_320 : decode cX8_remove 320 = .ok (.bipush (-2), 2) := by decide +kernel
theorem dX8_remove_322 : decode cX8_remove 322 = .ok (.iastore, 1) := by decide +kernel
theorem dX8_remove_323 : decode cX8_remove 323 = .ok (.aload_n 0, 1) := by decide +kernel
theorem dX8_remove_324 : decode cX8_remove 324 = .ok (.iload 8, 2) := by decide +kernel
theorem dX8_remove_326 : decode cX8_remove 326 = .ok (.putfield 93, 3) := by decide +kernel
theorem dX8_remove_329 : decode cX8_remove 329 = .ok (.aload_n 0, 1) := by decide +kernel
theorem dX8_remove_330 : decode cX8_remove 330 = .ok (.getfield 32, 3) := by decide +kernel
theorem dX8_remove_333 : decode cX8_remove 333 = .ok (.aload_n 0, 1) := by decide +kernel
theorem dX8_remove_334 : decode cX8_remove 334 = .ok (.getfield 93, 3) := by decide +kernel
theorem dX8_remove_337 : decode cX8_remove 337 = .ok (.bipush (-2), 2) := by decide +kernel
theorem dX8_remove_339 : decode cX8_remove 339 = .ok (.iastore, 1) := by decide +kernel
theorem dX8_remove_340 : decode cX8_remove 340 = .ok (.goto (-64), 3) := by decide +kernel
theorem dX8_remove_343 : decode cX8_remove 343 = .ok (.aload_n 0, 1) := by decide +kernel
theorem dX8_remove_344 : decode cX8_remove 344 = .ok (.getfield 181, 3) := by decide +kernel
theorem dX8_remove_347 : decode cX8_remove 347 = .ok (.ireturn, 1) := by decide +kernel
theorem dX8_window_0 : decode cX8_window 0 = .ok (.iload_n 1, 1) := by decide +kernel
theorem dX8_window_1 : decode cX8_window 1 = .ok (.iload_n 2, 1) := by decide +kernel
theorem dX8_window_2 : decode cX8_window 2 = .ok (.iload_n 3, 1) := by decide +kernel
theorem dX8_window_3 : decode cX8_window 3 = .ok (.iload 4, 2) := by decide +kernel
theorem dX8_window_5 : decode cX8_window 5 = .ok (.invokestatic 169, 3) := by decide +kernel
theorem dX8_window_8 : decode cX8_window 8 = .ok (.ifCond .ne 5, 3) := by decide +kernel
theorem dX8_window_11 : decode cX8_window 11 = .ok (.iconst (-1), 1) := by decide +kernel
theorem dX8_window_12 : decode cX8_window 12 = .ok (.ireturn, 1) := by decide +kernel
theorem dX8_window_13 : decode cX8_window 13 = .ok (.aload_n 0, 1) := by decide +kernel
theorem dX8_window_14 : decode cX8_window 14 = .ok (.iconst 1, 1) := by decide +kernel
theorem dX8_window_15 : decode cX8_window 15 = .ok (.putfield 184, 3) := by decide +kernel
theorem dX8_window_18 : decode cX8_window 18 = .ok (.aload_n 0, 1) := by decide +kernel
theorem dX8_window_19 : decode cX8_window 19 = .ok (.iconst 0, 1) := by decide +kernel
theorem dX8_window_20 : decode cX8_window 20 = .ok (.putfield 206, 3) := by decide +kernel
theorem dX8_window_23 : decode cX8_window 23 = .ok (.aload_n 0, 1) := by decide +kernel
theorem dX8_window_24 : decode cX8_window 24 = .ok (.getfield 44, 3) := by decide +kernel
theorem dX8_window_27 : decode cX8_window 27 = .ok (.iconst 0, 1) := by decide +kernel
theorem dX8_window_28 : decode cX8_window 28 = .ok (.iload_n 1, 1) := by decide +kernel
theorem dX8_window_29 : decode cX8_window 29 = .ok (.iastore, 1) := by decide +kernel
theorem dX8_window_30 : decode cX8_window 30 = .ok (.aload_n 0, 1) := by decide +kernel
theorem dX8_window_31 : decode cX8_window 31 = .ok (.getfield 44, 3) := by decide +kernel
theorem dX8_window_34 : decode cX8_window 34 = .ok (.iconst 1, 1) := by decide +kernel
theorem dX8_window_35 : decode cX8_window 35 = .ok (.iload_n 2, 1) := by decide +kernel
theorem dX8_window_36 : decode cX8_window 36 = .ok (.iastore, 1) := by decide +kernel
theorem dX8_window_37 : decode cX8_window 37 = .ok (.aload_n 0, 1) := by decide +kernel
theorem dX8_window_38 : decode cX8_window 38 = .ok (.getfield 44, 3) := by decide +kernel
theorem dX8_window_41 : decode cX8_window 41 = .ok (.iconst 2, 1) := by decide +kernel
theorem dX8_window_42 : decode cX8_window 42 = .ok (.iload_n 3, 1) := by decide +kernel
theorem dX8_window_43 : decode cX8_window 43 = .ok (.iastore, 1) := by decide +kernel
theorem dX8_window_44 : decode cX8_window 44 = .ok (.aload_n 0, 1) := by decide +kernel
theorem dX8_window_45 : decode cX8_window 45 = .ok (.getfield 44, 3) := by decide +kernel
theorem dX8_window_48 : decode cX8_window 48 = .ok (.iconst 3, 1) := by decide +kernel
theorem dX8_window_49 : decode cX8_window 49 = .ok (.iload 4, 2) := by decide +kernel
theorem dX8_window_51 : decode cX8_window 51 = .ok (.iastore, 1) := by decide +kernel
theorem dX8_window_52 : decode cX8_window 52 = .ok (.aload_n 0, 1) := by decide +kernel
theorem dX8_window_53 : decode cX8_window 53 = .ok (.iconst 0, 1) := by decide +kernel
theorem dX8_window_54 : decode cX8_window 54 = .ok (.putfield 209, 3) := by decide +kernel
theorem dX8_window_57 : decode cX8_window 57 = .ok (.aload_n 0, 1) := by decide +kernel
theorem dX8_window_58 : decode cX8_window 58 = .ok (.iconst 0, 1) := by decide +kernel
theorem dX8_window_59 : decode cX8_window 59 = .ok (.putfield 212, 3) := by decide +kernel
theorem dX8_window_62 : decode cX8_window 62 = .ok (.iconst 0, 1) := by decide +kernel
theorem dX8_window_63 : decode cX8_window 63 = .ok (.ireturn, 1) := by decide +kernel
theorem dX8_enter_0 : decode cX8_enter 0 = .ok (.aload_n 0, 1) := by decide +kernel
theorem dX8_enter_1 : decode cX8_enter 1 = .ok (.getfield 47, 3) := by decide +kernel
theorem dX8_enter_4 : decode cX8_enter 4 = .ok (.aload_n 0, 1) := by decide +kernel
theorem dX8_enter_5 : decode cX8_enter 5 = .ok (.getfield 209, 3) := by decide +kernel
theorem dX8_enter_8 : decode cX8_enter 8 = .ok (.iload_n 1, 1) := by decide +kernel
theorem dX8_enter_9 : decode cX8_enter 9 = .ok (.iastore, 1) := by decide +kernel
theorem dX8_enter_10 : decode cX8_enter 10 = .ok (.aload_n 0, 1) := by decide +kernel
theorem dX8_enter_11 : decode cX8_enter 11 = .ok (.getfield 50, 3) := by decide +kernel
theorem dX8_enter_14 : decode cX8_enter 14 = .ok (.aload_n 0, 1) := by decide +kernel
theorem dX8_enter_15 : decode cX8_enter 15 = .ok (.getfield 209, 3) := by decide +kernel
theorem dX8_enter_18 : decode cX8_enter 18 = .ok (.iconst 0, 1) := by decide +kernel
theorem dX8_enter_19 : decode cX8_enter 19 = .ok (.iastore, 1) := by decide +kernel
theorem dX8_enter_20 : decode cX8_enter 20 = .ok (.aload_n 0, 1) := by decide +kernel
theorem dX8_enter_21 : decode cX8_enter 21 = .ok (.dup, 1) := by decide +kernel
theorem dX8_enter_22 : decode cX8_enter 22 = .ok (.getfield 209, 3) := by decide +kernel
theorem dX8_enter_25 : decode cX8_enter 25 = .ok (.iconst 1, 1) := by decide +kernel
theorem dX8_enter_26 : decode cX8_enter 26 = .ok (.iadd, 1) := by decide +kernel
theorem dX8_enter_27 : decode cX8_enter 27 = .ok (.putfield 209, 3) := by decide +kernel
theorem dX8_enter_30 : decode cX8_enter 30 = .ok (.aload_n 0, 1) := by decide +kernel
theorem dX8_enter_31 : decode cX8_enter 31 = .ok (.dup, 1) := by decide +kernel
theorem dX8_enter_32 : decode cX8_enter 32 = .ok (.getfield 212, 3) := by decide +kernel
theorem dX8_enter_35 : decode cX8_enter 35 = .ok (.iconst 1, 1) := by decide +kernel
theorem dX8_enter_36 : decode cX8_enter 36 = .ok (.iadd, 1) := by decide +kernel
theorem dX8_enter_37 : decode cX8_enter 37 = .ok (.putfield 212, 3) := by decide +kernel
theorem dX8_enter_40 : decode cX8_enter 40 = .ok (.return_, 1) := by decide +kernel
theorem dX8_next_0 : decode cX8_next 0 = .ok (.aload_n 0, 1) := by decide +kernel
theorem dX8_next_1 : decode cX8_next 1 = .ok (.getfield 184, 3) := by decide +kernel
theorem dX8_next_4 : decode cX8_next 4 = .ok (.ifCond .ne 5, 3) := by decide +kernel
theorem dX8_next_7 : decode cX8_next 7 = .ok (.iconst (-1), 1) := by decide +kernel
theorem dX8_next_8 : decode cX8_next 8 = .ok (.ireturn, 1) := by decide +kernel
theorem dX8_next_9 : decode cX8_next 9 = .ok (.aload_n 0, 1) := by decide +kernel
theorem dX8_next_10 : decode cX8_next 10 = .ok (.getfield 206, 3) := by decide +kernel
theorem dX8_next_13 : decode cX8_next 13 = .ok (.ifCond .ne 16, 3) := by decide +kernel
theorem dX8_next_16 : decode cX8_next 16 = .ok (.aload_n 0, 1) := by decide +kernel
theorem dX8_next_17 : decode cX8_next 17 = .ok (.iconst 1, 1) := by decide +kernel
theorem dX8_next_18 : decode cX8_next 18 = .ok (.putfield 206, 3) := by decide +kernel
theorem dX8_next_21 : decode cX8_next 21 = .ok (.aload_n 0, 1) := by decide +kernel
theorem dX8_next_22 : decode cX8_next 22 = .ok (.aload_n 0, 1) := by decide +kernel
theorem dX8_next_23 : decode cX8_next 23 = .ok (.getfield 93, 3) := by decide +kernel
theorem dX8_next_26 : decode cX8_next 26 = .ok (.invokevirtual 215, 3) := by decide +kernel
theorem dX8_next_29 : decode cX8_next 29 = .ok (.aload_n 0, 1) := by decide +kernel
theorem dX8_next_30 : decode cX8_next 30 = .ok (.getfield 209, 3) := by decide +kernel
theorem dX8_next_33 : decode cX8_next 33 = .ok (.ifCond .le 144, 3) := by decide +kernel
theorem dX8_next_36 : decode cX8_next 36 = .ok (.aload_n 0, 1) := by decide +kernel
theorem dX8_next_37 : decode cX8_next 37 = .ok (.getfield 47, 3) := by decide +kernel
theorem dX8_next_40 : decode cX8_next 40 = .ok (.aload_n 0, 1) := by decide +kernel
theorem dX8_next_41 : decode cX8_next 41 = .ok (.getfield 209, 3) := by decide +kernel
theorem dX8_next_44 : decode cX8_next 44 = .ok (.iconst 1, 1) := by decide +kernel
theorem dX8_next_45 : decode cX8_next 45 = .ok (.isub, 1) := by decide +kernel
theorem dX8_next_46 : decode cX8_next 46 = .ok (.iaload, 1) := by decide +kernel
theorem dX8_next_47 : decode cX8_next 47 = .ok (.istore_n 1, 1) := by decide +kernel
theorem dX8_next_48 : decode cX8_next 48 = .ok (.aload_n 0, 1) := by decide +kernel
theorem dX8_next_49 : decode cX8_next 49 = .ok (.getfield 50, 3) := by decide +kernel
theorem dX8_next_52 : decode cX8_next 52 = .ok (.aload_n 0, 1) := by decide +kernel
theorem dX8_next_53 : decode cX8_next 53 = .ok (.getfield 209, 3) := by decide +kernel
theorem dX8_next_56 : decode cX8_next 56 = .ok (.iconst 1, 1) := by decide +kernel
theorem dX8_next_57 : decode cX8_next 57 = .ok (.isub, 1) := by decide +kernel
theorem dX8_next_58 : decode cX8_next 58 = .ok (.iaload, 1) := by decide +kernel
theorem dX8_next_59 : decode cX8_next 59 = .ok (.aload_n 0, 1) := by decide +kernel
theorem dX8_next_60 : decode cX8_next 60 = .ok (.getfield 23, 3) := by decide +kernel
theorem dX8_next_63 : decode cX8_next 63 = .ok (.iload_n 1, 1) := by decide +kernel
theorem dX8_next_64 : decode cX8_next 64 = .ok (.iaload, 1) := by decide +kernel
theorem dX8_next_65 : decode cX8_next 65 = .ok (.if_icmp .ne 16, 3) := by decide +kernel
theorem dX8_next_68 : decode cX8_next 68 = .ok (.aload_n 0, 1) := by decide +kernel
theorem dX8_next_69 : decode cX8_next 69 = .ok (.dup, 1) := by decide +kernel
theorem dX8_next_70 : decode cX8_next 70 = .ok (.getfield 209, 3) := by decide +kernel
theorem dX8_next_73 : decode cX8_next 73 = .ok (.iconst 1, 1) := by decide +kernel
theorem dX8_next_74 : decode cX8_next 74 = .ok (.isub, 1) := by decide +kernel
theorem dX8_next_75 : decode cX8_next 75 = .ok (.putfield 209, 3) := by decide +kernel
theorem dX8_next_78 : decode cX8_next 78 = .ok (.goto 96, 3) := by decide +kernel
theorem dX8_next_81 : decode cX8_next 81 = .ok (.aload_n 0, 1) := by decide +kernel
theorem dX8_next_82 : decode cX8_next 82 = .ok (.iload_n 1, 1) := by decide +kernel
theorem dX8_next_83 : decode cX8_next 83 = .ok (.aload_n 0, 1) := by decide +kernel
theorem dX8_next_84 : decode cX8_next 84 = .ok (.getfield 50, 3) := by decide +kernel
theorem dX8_next_87 : decode cX8_next 87 = .ok (.aload_n 0, 1) := by decide +kernel
theorem dX8_next_88 : decode cX8_next 88 = .ok (.getfield 209, 3) := by decide +kernel
theorem dX8_next_91 : decode cX8_next 91 = .ok (.iconst 1, 1) := by decide +kernel
theorem dX8_next_92 : decode cX8_next 92 = .ok (.isub, 1) := by decide +kernel
theorem dX8_next_93 : decode cX8_next 93 = .ok (.iaload, 1) := by decide +kernel
theorem dX8_next_94 : decode cX8_next 94 = .ok (.invokevirtual 115, 3) := by decide +kernel
theorem dX8_next_97 : decode cX8_next 97 = .ok (.istore_n 2, 1) := by decide +kernel
theorem dX8_next_98 : decode cX8_next 98 = .ok (.aload_n 0, 1) := by decide +kernel
theorem dX8_next_99 : decode cX8_next 99 = .ok (.getfield 50, 3) := by decide +kernel
theorem dX8_next_102 : decode cX8_next 102 = .ok (.aload_n 0, 1) := by decide +kernel
theorem dX8_next_103 : decode cX8_next 103 = .ok (.getfield 209, 3) := by decide +kernel
theorem dX8_next_106 : decode cX8_next 106 = .ok (.iconst 1, 1) := by decide +kernel
theorem dX8_next_107 : decode cX8_next 107 = .ok (.isub, 1) := by decide +kernel
theorem dX8_next_108 : decode cX8_next 108 = .ok (.dup2, 1) := by decide +kernel
theorem dX8_next_109 : decode cX8_next 109 = .ok (.iaload, 1) := by decide +kernel
theorem dX8_next_110 : decode cX8_next 110 = .ok (.iconst 1, 1) := by decide +kernel
theorem dX8_next_111 : decode cX8_next 111 = .ok (.iadd, 1) := by decide +kernel
theorem dX8_next_112 : decode cX8_next 112 = .ok (.iastore, 1) := by decide +kernel
theorem dX8_next_113 : decode cX8_next 113 = .ok (.aload_n 0, 1) := by decide +kernel
theorem dX8_next_114 : decode cX8_next 114 = .ok (.aload_n 0, 1) := by decide +kernel
theorem dX8_next_115 : decode cX8_next 115 = .ok (.getfield 20, 3) := by decide +kernel
theorem dX8_next_118 : decode cX8_next 118 = .ok (.iload_n 1, 1) := by decide +kernel
theorem dX8_next_119 : decode cX8_next 119 = .ok (.iaload, 1) := by decide +kernel
theorem dX8_next_120 : decode cX8_next 120 = .ok (.iconst 1, 1) := by decide +kernel
theorem dX8_next_121 : decode cX8_next 121 = .ok (.isub, 1) := by decide +kernel
theorem dX8_next_122 : decode cX8_next 122 = .ok (.iload_n 2, 1) := by decide +kernel
theorem dX8_next_123 : decode cX8_next 123 = .ok (.aload_n 0, 1) := by decide +kernel
theorem dX8_next_124 : decode cX8_next 124 = .ok (.getfield 44, 3) := by decide +kernel
theorem dX8_next_127 : decode cX8_next 127 = .ok (.iconst 0, 1) := by decide +kernel
theorem dX8_next_128 : decode cX8_next 128 = .ok (.iaload, 1) := by decide +kernel
theorem dX8_next_129 : decode cX8_next 129 = .ok (.aload_n 0, 1) := by decide +kernel
theorem dX8_next_130 : decode cX8_next 130 = .ok (.getfield 44, 3) := by decide +kernel
theorem dX8_next_133 : decode cX8_next 133 = .ok (.iconst 1, 1) := by decide +kernel
theorem dX8_next_134 : decode cX8_next 134 = .ok (.iaload, 1) := by decide +kernel
theorem dX8_next_135 : decode cX8_next 135 = .ok (.aload_n 0, 1) := by decide +kernel
theorem dX8_next_136 : decode cX8_next 136 = .ok (.getfield 44, 3) := by decide +kernel
theorem dX8_next_139 : decode cX8_next 139 = .ok (.iconst 2, 1) := by decide +kernel
theorem dX8_next_140 : decode cX8_next 140 = .ok (.iaload, 1) := by decide +kernel
theorem dX8_next_141 : decode cX8_next 141 = .ok (.aload_n 0, 1) := by decide +kernel
theorem dX8_next_142 : decode cX8_next 142 = .ok (.getfield 44, 3) := by decide +kernel
theorem dX8_next_145 : decode cX8_next 145 = .ok (.iconst 3, 1) := by decide +kernel
theorem dX8_next_146 : decode cX8_next 146 = .ok (.iaload, 1) := by decide +kernel
theorem dX8_next_147 : decode cX8_next 147 = .ok (.invokevirtual 218, 3) := by decide +kernel
theorem dX8_next_150 : decode cX8_next 150 = .ok (.ifCond .eq 24, 3) := by decide +kernel
theorem dX8_next_153 : decode cX8_next 153 = .ok (.aload_n 0, 1) := by decide +kernel
theorem dX8_next_154 : decode cX8_next 154 = .ok (.getfield 20, 3) := by decide +kernel
theorem dX8_next_157 : decode cX8_next 157 = .ok (.iload_n 1, 1) := by decide +kernel
theorem dX8_next_158 : decode cX8_next 158 = .ok (.iaload, 1) := by decide +kernel
theorem dX8_next_159 : decode cX8_next 159 = .ok (.ifCond .ne 10, 3) := by decide +kernel
theorem dX8_next_162 : decode cX8_next 162 = .ok (.aload_n 0, 1) := by decide +kernel
theorem dX8_next_163 : decode cX8_next 163 = .ok (.getfield 13, 3) := by decide +kernel
theorem dX8_next_166 : decode cX8_next 166 = .ok (.iload_n 2, 1) := by decide +kernel
theorem dX8_next_167 : decode cX8_next 167 = .ok (.iaload, 1) := by decide +kernel
theorem dX8_next_168 : decode cX8_next 168 = .ok (.ireturn, 1) := by decide +kernel
theorem dX8_next_169 : decode cX8_next 169 = .ok (.aload_n 0, 1) := by decide +kernel
theorem dX8_next_170 : decode cX8_next 170 = .ok (.iload_n 2, 1) := by decide +kernel
theorem dX8_next_171 : decode cX8_next 171 = .ok (.invokevirtual 215, 3) := by decide +kernel
theorem dX8_next_174 : decode cX8_next 174 = .ok (.goto (-145), 3) := by decide +kernel
theorem dX8_next_177 : decode cX8_next 177 = .ok (.bipush (-2), 2) := by decide +kernel
theorem dX8_next_179 : decode cX8_next 179 = .ok (.ireturn, 1) := by decide +kernel
theorem dX8_countIn_0 : decode cX8_countIn 0 = .ok (.iload_n 1, 1) := by decide +kernel
theorem dX8_countIn_1 : decode cX8_countIn 1 = .ok (.iload_n 2, 1) := by decide +kernel
theorem dX8_countIn_2 : decode cX8_countIn 2 = .ok (.iload_n 3, 1) := by decide +kernel
theorem dX8_countIn_3 : decode cX8_countIn 3 = .ok (.iload 4, 2) := by decide +kernel
theorem dX8_countIn_5 : decode cX8_countIn 5 = .ok (.invokestatic 169, 3) := by decide +kernel
theorem dX8_countIn_8 : decode cX8_countIn 8 = .ok (.ifCond .ne 5, 3) := by decide +kernel
theorem dX8_countIn_11 : decode cX8_countIn 11 = .ok (.iconst (-1), 1) := by decide +kernel
theorem dX8_countIn_12 : decode cX8_countIn 12 = .ok (.ireturn, 1) := by decide +kernel
theorem dX8_countIn_13 : decode cX8_countIn 13 = .ok (.iconst 0, 1) := by decide +kernel
theorem dX8_countIn_14 : decode cX8_countIn 14 = .ok (.istore 5, 2) := by decide +kernel
theorem dX8_countIn_16 : decode cX8_countIn 16 = .ok (.iconst 0, 1) := by decide +kernel
theorem dX8_countIn_17 : decode cX8_countIn 17 = .ok (.istore 6, 2) := by decide +kernel
theorem dX8_countIn_19 : decode cX8_countIn 19 = .ok (.iload 6, 2) := by decide +kernel
theorem dX8_countIn_21 : decode cX8_countIn 21 = .ok (.sipush 400, 3) := by decide +kernel
theorem dX8_countIn_24 : decode cX8_countIn 24 = .ok (.if_icmp .ge 44, 3) := by decide +kernel
theorem dX8_countIn_27 : decode cX8_countIn 27 = .ok (.iload 5, 2) := by decide +kernel
theorem dX8_countIn_29 : decode cX8_countIn 29 = .ok (.aload_n 0, 1) := by decide +kernel
theorem dX8_countIn_30 : decode cX8_countIn 30 = .ok (.getfield 13, 3) := by decide +kernel
theorem dX8_countIn_33 : decode cX8_countIn 33 = .ok (.iload 6, 2) := by decide +kernel
theorem dX8_countIn_35 : decode cX8_countIn 35 = .ok (.iaload, 1) := by decide +kernel
theorem dX8_countIn_36 : decode cX8_countIn 36 = .ok (.ifCond .lt 22, 3) := by decide +kernel
theorem dX8_countIn_39 : decode cX8_countIn 39 = .ok (.aload_n 0, 1) := by decide +kernel
theorem dX8_countIn_40 : decode cX8_countIn 40 = .ok (.iconst (-1), 1) := by decide +kernel
theorem dX8_countIn_41 : decode cX8_countIn 41 = .ok (.iload 6, 2) := by decide +kernel
theorem dX8_countIn_43 : decode cX8_countIn 43 = .ok (.iload_n 1, 1) := by decide +kernel
theorem dX8_countIn_44 : decode cX8_countIn 44 = .ok (.iload_n 2, 1) := by decide +kernel
theorem dX8_countIn_45 : decode cX8_countIn 45 = .ok (.iload_n 3, 1) := by decide +kernel
theorem dX8_countIn_46 : decode cX8_countIn 46 = .ok (.iload 4, 2) := by decide +kernel
theorem dX8_countIn_48 : decode cX8_countIn 48 = .ok (.invokevirtual 218, 3) := by decide +kernel
theorem dX8_countIn_51 : decode cX8_countIn 51 = .ok (.ifCond .eq 7, 3) := by decide +kernel
theorem dX8_countIn_54 : decode cX8_countIn 54 = .ok (.iconst 1, 1) := by decide +kernel
theorem dX8_countIn_55 : decode cX8_countIn 55 = .ok (.goto 4, 3) := by decide +kernel
theorem dX8_countIn_58 : decode cX8_countIn 58 = .ok (.iconst 0, 1) := by decide +kernel
theorem dX8_countIn_59 : decode cX8_countIn 59 = .ok (.iadd, 1) := by decide +kernel
theorem dX8_countIn_60 : decode cX8_countIn 60 = .ok (.istore 5, 2) := by decide +kernel
theorem dX8_countIn_62 : decode cX8_countIn 62 = .ok (.iinc 6 1, 3) := by decide +kernel
theorem dX8_countIn_65 : decode cX8_countIn 65 = .ok (.goto (-46), 3) := by decide +kernel
theorem dX8_countIn_68 : decode cX8_countIn 68 = .ok (.iload 5, 2) := by decide +kernel
theorem dX8_countIn_70 : decode cX8_countIn 70 = .ok (.ireturn, 1) := by decide +kernel
theorem dX8_findOrder_0 : decode cX8_findOrder 0 = .ok (.aload_n 0, 1) := by decide +kernel
theorem dX8_findOrder_1 : decode cX8_findOrder 1 = .ok (.iconst 0, 1) := by decide +kernel
theorem dX8_findOrder_2 : decode cX8_findOrder 2 = .ok (.putfield 222, 3) := by decide +kernel
theorem dX8_findOrder_5 : decode cX8_findOrder 5 = .ok (.aload_n 0, 1) := by decide +kernel
theorem dX8_findOrder_6 : decode cX8_findOrder 6 = .ok (.aload_n 0, 1) := by decide +kernel
theorem dX8_findOrder_7 : decode cX8_findOrder 7 = .ok (.getfield 93, 3) := by decide +kernel
theorem dX8_findOrder_10 : decode cX8_findOrder 10 = .ok (.invokevirtual 225, 3) := by decide +kernel
theorem dX8_findOrder_13 : decode cX8_findOrder 13 = .ok (.iconst 0, 1) := by decide +kernel
theorem dX8_findOrder_14 : decode cX8_findOrder 14 = .ok (.istore_n 1, 1) := by decide +kernel
theorem dX8_findOrder_15 : decode cX8_findOrder 15 = .ok (.iload_n 1, 1) := by decide +kernel
theorem dX8_findOrder_16 : decode cX8_findOrder 16 = .ok (.aload_n 0, 1) := by decide +kernel
theorem dX8_findOrder_17 : decode cX8_findOrder 17 = .ok (.getfield 222, 3) := by decide +kernel
theorem dX8_findOrder_20 : decode cX8_findOrder 20 = .ok (.if_icmp .ge 21, 3) := by decide +kernel
theorem dX8_findOrder_23 : decode cX8_findOrder 23 = .ok (.aload_n 0, 1) := by decide +kernel
theorem dX8_findOrder_24 : decode cX8_findOrder 24 = .ok (.getfield 74, 3) := by decide +kernel
theorem dX8_findOrder_27 : decode cX8_findOrder 27 = .ok (.aload_n 0, 1) := by decide +kernel
theorem dX8_findOrder_28 : decode cX8_findOrder 28 = .ok (.getfield 41, 3) := by decide +kernel
theorem dX8_findOrder_31 : decode cX8_findOrder 31 = .ok (.iload_n 1, 1) := by decide +kernel
theorem dX8_findOrder_32 : decode cX8_findOrder 32 = .ok (.iaload, 1) := by decide +kernel
theorem dX8_findOrder_33 : decode cX8_findOrder 33 = .ok (.iload_n 1, 1) := by decide +kernel
theorem dX8_findOrder_34 : decode cX8_findOrder 34 = .ok (.iastore, 1) := by decide +kernel
theorem dX8_findOrder_35 : decode cX8_findOrder 35 = .ok (.iinc 1 1, 3) := by decide +kernel
theorem dX8_findOrder_38 : decode cX8_findOrder 38 = .ok (.goto (-23), 3) := by decide +kernel
theorem dX8_findOrder_41 : decode cX8_findOrder 41 = .ok (.return_, 1) := by decide +kernel
theorem dX8_walk_0 : decode cX8_walk 0 = .ok (.aload_n 0, 1) := by decide +kernel
theorem dX8_walk_1 : decode cX8_walk 1 = .ok (.getfield 41, 3) := by decide +kernel
theorem dX8_walk_4 : decode cX8_walk 4 = .ok (.aload_n 0, 1) := by decide +kernel
theorem dX8_walk_5 : decode cX8_walk 5 = .ok (.getfield 222, 3) := by decide +kernel
theorem dX8_walk_8 : decode cX8_walk 8 = .ok (.iload_n 1, 1) := by decide +kernel
theorem dX8_walk_9 : decode cX8_walk 9 = .ok (.iastore, 1) := by decide +kernel
theorem dX8_walk_10 : decode cX8_walk 10 = .ok (.aload_n 0, 1) := by decide +kernel
theorem dX8_walk_11 : decode cX8_walk 11 = .ok (.dup, 1) := by decide +kernel
theorem dX8_walk_12 : decode cX8_walk 12 = .ok (.getfield 222, 3) := by decide +kernel
theorem dX8_walk_15 : decode cX8_walk 15 = .ok (.iconst 1, 1) := by decide +kernel
theorem dX8_walk_16 : decode cX8_walk 16 = .ok (.iadd, 1) := by decide +kernel
theorem dX8_walk_17 : decode cX8_walk 17 = .ok (.putfield 222, 3) := by decide +kernel
theorem dX8_walk_20 : decode cX8_walk 20 = .ok (.iconst 0, 1) := by decide +kernel
theorem dX8_walk_21 : decode cX8_walk 21 = .ok (.istore_n 2, 1) := by decide +kernel
theorem dX8_walk_22 : decode cX8_walk 22 = .ok (.aload_n 0, 1) := by decide +kernel
theorem dX8_walk_23 : decode cX8_walk 23 = .ok (.getfield 20, 3) := by decide +kernel
theorem dX8_walk_26 : decode cX8_walk 26 = .ok (.iload_n 1, 1) := by decide +kernel
theorem dX8_walk_27 : decode cX8_walk 27 = .ok (.iaload, 1) := by decide +kernel
theorem dX8_walk_28 : decode cX8_walk 28 = .ok (.ifCond .le 29, 3) := by decide +kernel
theorem dX8_walk_31 : decode cX8_walk 31 = .ok (.iload_n 2, 1) := by decide +kernel
theorem dX8_walk_32 : decode cX8_walk 32 = .ok (.aload_n 0, 1) := by decide +kernel
theorem dX8_walk_33 : decode cX8_walk 33 = .ok (.getfield 23, 3) := by decide +kernel
theorem dX8_walk_36 : decode cX8_walk 36 = .ok (.iload_n 1, 1) := by decide +kernel
theorem dX8_walk_37 : decode cX8_walk 37 = .ok (.iaload, 1) := by decide +kernel
theorem dX8_walk_38 : decode cX8_walk 38 = .ok (.if_icmp .ge 19, 3) := by decide +kernel
theorem dX8_walk_41 : decode cX8_walk 41 = .ok (.aload_n 0, 1) := by decide +kernel
theorem dX8_walk_42 : decode cX8_walk 42 = .ok (.aload_n 0, 1) := by decide +kernel
theorem dX8_walk_43 : decode cX8_walk 43 = .ok (.iload_n 1, 1) := by decide +kernel
theorem dX8_walk_44 : decode cX8_walk 44 = .ok (.iload_n 2, 1) := by decide +kernel
theorem dX8_walk_45 : decode cX8_walk 45 = .ok (.invokevirtual 115, 3) := by decide +kernel
theorem dX8_walk_48 : decode cX8_walk 48 = .ok (.invokevirtual 225, 3) := by decide +kernel
theorem dX8_walk_51 : decode cX8_walk 51 = .ok (.iinc 2 1, 3) := by decide +kernel
theorem dX8_walk_54 : decode cX8_walk 54 = .ok (.goto (-32), 3) := by decide +kernel
theorem dX8_walk_57 : decode cX8_walk 57 = .ok (.return_, 1) := by decide +kernel
theorem dX8_far_0 : decode cX8_far 0 = .ok (.iload_n 3, 1) := by decide +kernel
theorem dX8_far_1 : decode cX8_far 1 = .ok (.aload_n 0, 1) := by decide +kernel
theorem dX8_far_2 : decode cX8_far 2 = .ok (.iload_n 1, 1) := by decide +kernel
theorem dX8_far_3 : decode cX8_far 3 = .ok (.iload_n 2, 1) := by decide +kernel
theorem dX8_far_4 : decode cX8_far 4 = .ok (.iconst 0, 1) := by decide +kernel
theorem dX8_far_5 : decode cX8_far 5 = .ok (.invokevirtual 96, 3) := by decide +kernel
theorem dX8_far_8 : decode cX8_far 8 = .ok (.if_icmp .ge 16, 3) := by decide +kernel
theorem dX8_far_11 : decode cX8_far 11 = .ok (.aload_n 0, 1) := by decide +kernel
theorem dX8_far_12 : decode cX8_far 12 = .ok (.iload_n 1, 1) := by decide +kernel
theorem dX8_far_13 : decode cX8_far 13 = .ok (.iload_n 2, 1) := by decide +kernel
theorem dX8_far_14 : decode cX8_far 14 = .ok (.iconst 0, 1) := by decide +kernel
theorem dX8_far_15 : decode cX8_far 15 = .ok (.invokevirtual 96, 3) := by decide +kernel
theorem dX8_far_18 : decode cX8_far 18 = .ok (.iload_n 3, 1) := by decide +kernel
theorem dX8_far_19 : decode cX8_far 19 = .ok (.isub, 1) := by decide +kernel
theorem dX8_far_20 : decode cX8_far 20 = .ok (.i2l, 1) := by decide +kernel
theorem dX8_far_21 : decode cX8_far 21 = .ok (.goto 28, 3) := by decide +kernel
theorem dX8_far_24 : decode cX8_far 24 = .ok (.iload_n 3, 1) := by decide +kernel
theorem dX8_far_25 : decode cX8_far 25 = .ok (.aload_n 0, 1) := by decide +kernel
theorem dX8_far_26 : decode cX8_far 26 = .ok (.iload_n 1, 1) := by decide +kernel
theorem dX8_far_27 : decode cX8_far 27 = .ok (.iload_n 2, 1) := by decide +kernel
theorem dX8_far_28 : decode cX8_far 28 = .ok (.iconst 2, 1) := by decide +kernel
theorem dX8_far_29 : decode cX8_far 29 = .ok (.invokevirtual 96, 3) := by decide +kernel
theorem dX8_far_32 : decode cX8_far 32 = .ok (.if_icmp .le 16, 3) := by decide +kernel
theorem dX8_far_35 : decode cX8_far 35 = .ok (.iload_n 3, 1) := by decide +kernel
theorem dX8_far_36 : decode cX8_far 36 = .ok (.aload_n 0, 1) := by decide +kernel
theorem dX8_far_37 : decode cX8_far 37 = .ok (.iload_n 1, 1) := by decide +kernel
theorem dX8_far_38 : decode cX8_far 38 = .ok (.iload_n 2, 1) := by decide +kernel
theorem dX8_far_39 : decode cX8_far 39 = .ok (.iconst 2, 1) := by decide +kernel
theorem dX8_far_40 : decode cX8_far 40 = .ok (.invokevirtual 96, 3) := by decide +kernel
theorem dX8_far_43 : decode cX8_far 43 = .ok (.isub, 1) := by decide +kernel
theorem dX8_far_44 : decode cX8_far 44 = .ok (.i2l, 1) := by decide +kernel
theorem dX8_far_45 : decode cX8_far 45 = .ok (.goto 4, 3) := by decide +kernel
theorem dX8_far_48 : decode cX8_far 48 = .ok (.lconst 0, 1) := by decide +kernel
theorem dX8_far_49 : decode cX8_far 49 = .ok (.lstore 5, 2) := by decide +kernel
theorem dX8_far_51 : decode cX8_far 51 = .ok (.iload 4, 2) := by decide +kernel
theorem dX8_far_53 : decode cX8_far 53 = .ok (.aload_n 0, 1) := by decide +kernel
theorem dX8_far_54 : decode cX8_far 54 = .ok (.iload_n 1, 1) := by decide +kernel
theorem dX8_far_55 : decode cX8_far 55 = .ok (.iload_n 2, 1) := by decide +kernel
theorem dX8_far_56 : decode cX8_far 56 = .ok (.iconst 1, 1) := by decide +kernel
theorem dX8_far_57 : decode cX8_far 57 = .ok (.invokevirtual 96, 3) := by decide +kernel
theorem dX8_far_60 : decode cX8_far 60 = .ok (.if_icmp .ge 17, 3) := by decide +kernel
theorem dX8_far_63 : decode cX8_far 63 = .ok (.aload_n 0, 1) := by decide +kernel
theorem dX8_far_64 : decode cX8_far 64 = .ok (.iload_n 1, 1) := by decide +kernel
theorem dX8_far_65 : decode cX8_far 65 = .ok (.iload_n 2, 1) := by decide +kernel
theorem dX8_far_66 : decode cX8_far 66 = .ok (.iconst 1, 1) := by decide +kernel
theorem dX8_far_67 : decode cX8_far 67 = .ok (.invokevirtual 96, 3) := by decide +kernel
theorem dX8_far_70 : decode cX8_far 70 = .ok (.iload 4, 2) := by decide +kernel
theorem dX8_far_72 : decode cX8_far 72 = .ok (.isub, 1) := by decide +kernel
theorem dX8_far_73 : decode cX8_far 73 = .ok (.i2l, 1) := by decide +kernel
theorem dX8_far_74 : decode cX8_far 74 = .ok (.goto 30, 3) := by decide +kernel
theorem dX8_far_77 : decode cX8_far 77 = .ok (.iload 4, 2) := by decide +kernel
theorem dX8_far_79 : decode cX8_far 79 = .ok (.aload_n 0, 1) := by decide +kernel
theorem dX8_far_80 : decode cX8_far 80 = .ok (.iload_n 1, 1) := by decide +kernel
theorem dX8_far_81 : decode cX8_far 81 = .ok (.iload_n 2, 1) := by decide +kernel
theorem dX8_far_82 : decode cX8_far 82 = .ok (.iconst 3, 1) := by decide +kernel
theorem dX8_far_83 : decode cX8_far 83 = .ok (.invokevirtual 96, 3) := by decide +kernel
theorem dX8_far_86 : decode cX8_far 86 = .ok (.if_icmp .le 17, 3) := by decide +kernel
theorem dX8_far_89 : decode cX8_far 89 = .ok (.iload 4, 2) := by decide +kernel
theorem dX8_far_91 : decode cX8_far 91 = .ok (.aload_n 0, 1) := by decide +kernel
theorem dX8_far_92 : decode cX8_far 92 = .ok (.iload_n 1, 1) := by decide +kernel
theorem dX8_far_93 : decode cX8_far 93 = .ok (.iload_n 2, 1) := by decide +kernel
theorem dX8_far_94 : decode cX8_far 94 = .ok (.iconst 3, 1) := by decide +kernel
theorem dX8_far_95 : decode cX8_far 95 = .ok (.invokevirtual 96, 3) := by decide +kernel
theorem dX8_far_98 : decode cX8_far 98 = .ok (.isub, 1) := by decide +kernel
theorem dX8_far_99 : decode cX8_far 99 = .ok (.i2l, 1) := by decide +kernel
theorem dX8_far_100 : decode cX8_far 100 = .ok (.goto 4, 3) := by decide +kernel
theorem dX8_far_103 : decode cX8_far 103 = .ok (.lconst 0, 1) := by decide +kernel
theorem dX8_far_104 : decode cX8_far 104 = .ok (.lstore 7, 2) := by decide +kernel
theorem dX8_far_106 : decode cX8_far 106 = .ok (.lload 5, 2) := by decide +kernel
theorem dX8_far_108 : decode cX8_far 108 = .ok (.lload 5, 2) := by decide +kernel
theorem dX8_far_110 : decode cX8_far 110 = .ok (.lmul, 1) := by decide +kernel
theorem dX8_far_111 : decode cX8_far 111 = .ok (.lload 7, 2) := by decide +kernel
theorem dX8_far_113 : decode cX8_far 113 = .ok (.lload 7, 2) := by decide +kernel
theorem dX8_far_115 : decode cX8_far 115 = .ok (.lmul, 1) := by decide +kernel
theorem dX8_far_116 : decode cX8_far 116 = .ok (.ladd, 1) := by decide +kernel
theorem dX8_far_117 : decode cX8_far 117 = .ok (.lreturn, 1) := by decide +kernel
theorem dX8_isBefore_0 : decode cX8_isBefore 0 = .ok (.aload_n 0, 1) := by decide +kernel
theorem dX8_isBefore_1 : decode cX8_isBefore 1 = .ok (.getfield 13, 3) := by decide +kernel
theorem dX8_isBefore_4 : decode cX8_isBefore 4 = .ok (.iload_n 1, 1) := by decide +kernel
theorem dX8_isBefore_5 : decode cX8_isBefore 5 = .ok (.iaload, 1) := by decide +kernel
theorem dX8_isBefore_6 : decode cX8_isBefore 6 = .ok (.aload_n 0, 1) := by decide +kernel
theorem dX8_isBefore_7 : decode cX8_isBefore 7 = .ok (.getfield 13, 3) := by decide +kernel
theorem dX8_isBefore_10 : decode cX8_isBefore 10 = .ok (.iload_n 2, 1) := by decide +kernel
theorem dX8_isBefore_11 : decode cX8_isBefore 11 = .ok (.iaload, 1) := by decide +kernel
theorem dX8_isBefore_12 : decode cX8_isBefore 12 = .ok (.if_icmp .eq 24, 3) := by decide +kernel
theorem dX8_isBefore_15 : decode cX8_isBefore 15 = .ok (.aload_n 0, 1) := by decide +kernel
theorem dX8_isBefore_16 : decode cX8_isBefore 16 = .ok (.getfield 13, 3) := by decide +kernel
theorem dX8_isBefore_19 : decode cX8_isBefore 19 = .ok (.iload_n 1, 1) := by decide +kernel
theorem dX8_isBefore_20 : decode cX8_isBefore 20 = .ok (.iaload, 1) := by decide +kernel
theorem dX8_isBefore_21 : decode cX8_isBefore 21 = .ok (.aload_n 0, 1) := by decide +kernel
theorem dX8_isBefore_22 : decode cX8_isBefore 22 = .ok (.getfield 13, 3) := by decide +kernel
theorem dX8_isBefore_25 : decode cX8_isBefore 25 = .ok (.iload_n 2, 1) := by decide +kernel
theorem dX8_isBefore_26 : decode cX8_isBefore 26 = .ok (.iaload, 1) := by decide +kernel
theorem dX8_isBefore_27 : decode cX8_isBefore 27 = .ok (.if_icmp .ge 7, 3) := by decide +kernel
theorem dX8_isBefore_30 : decode cX8_isBefore 30 = .ok (.iconst 1, 1) := by decide +kernel
theorem dX8_isBefore_31 : decode cX8_isBefore 31 = .ok (.goto 4, 3) := by decide +kernel
theorem dX8_isBefore_34 : decode cX8_isBefore 34 = .ok (.iconst 0, 1) := by decide +kernel
theorem dX8_isBefore_35 : decode cX8_isBefore 35 = .ok (.ireturn, 1) := by decide +kernel
theorem dX8_isBefore_36 : decode cX8_isBefore 36 = .ok (.iconst 0, 1) := by decide +kernel
theorem dX8_isBefore_37 : decode cX8_isBefore 37 = .ok (.istore_n 3, 1) := by decide +kernel
theorem dX8_isBefore_38 : decode cX8_isBefore 38 = .ok (.iload_n 3, 1) := by decide +kernel
theorem dX8_isBefore_39 : decode cX8_isBefore 39 = .ok (.iconst 4, 1) := by decide +kernel
theorem dX8_isBefore_40 : decode cX8_isBefore 40 = .ok (.if_icmp .ge 61, 3) := by decide +kernel
theorem dX8_isBefore_43 : decode cX8_isBefore 43 = .ok (.aload_n 0, 1) := by decide +kernel
theorem dX8_isBefore_44 : decode cX8_isBefore 44 = .ok (.getfield 17, 3) := by decide +kernel
theorem dX8_isBefore_47 : decode cX8_isBefore 47 = .ok (.iconst 4, 1) := by decide +kernel
theorem dX8_isBefore_48 : decode cX8_isBefore 48 = .ok (.iload_n 1, 1) := by decide +kernel
theorem dX8_isBefore_49 : decode cX8_isBefore 49 = .ok (.imul, 1) := by decide +kernel
theorem dX8_isBefore_50 : decode cX8_isBefore 50 = .ok (.iload_n 3, 1) := by decide +kernel
theorem dX8_isBefore_51 : decode cX8_isBefore 51 = .ok (.iadd, 1) := by decide +kernel
theorem dX8_isBefore_52 : decode cX8_isBefore 52 = .ok (.iaload, 1) := by decide +kernel
theorem dX8_isBefore_53 : decode cX8_isBefore 53 = .ok (.aload_n 0, 1) := by decide +kernel
theorem dX8_isBefore_54 : decode cX8_isBefore 54 = .ok (.getfield 17, 3) := by decide +kernel
theorem dX8_isBefore_57 : decode cX8_isBefore 57 = .ok (.iconst 4, 1) := by decide +kernel
theorem dX8_isBefore_58 : decode cX8_isBefore 58 = .ok (.iload_n 2, 1) := by decide +kernel
theorem dX8_isBefore_59 : decode cX8_isBefore 59 = .ok (.imul, 1) := by decide +kernel
theorem dX8_isBefore_60 : decode cX8_isBefore 60 = .ok (.iload_n 3, 1) := by decide +kernel
theorem dX8_isBefore_61 : decode cX8_isBefore 61 = .ok (.iadd, 1) := by decide +kernel
theorem dX8_isBefore_62 : decode cX8_isBefore 62 = .ok (.iaload, 1) := by decide +kernel
theorem dX8_isBefore_63 : decode cX8_isBefore 63 = .ok (.if_icmp .eq 32, 3) := by decide +kernel
theorem dX8_isBefore_66 : decode cX8_isBefore 66 = .ok (.aload_n 0, 1) := by decide +kernel
theorem dX8_isBefore_67 : decode cX8_isBefore 67 = .ok (.getfield 17, 3) := by decide +kernel
theorem dX8_isBefore_70 : decode cX8_isBefore 70 = .ok (.iconst 4, 1) := by decide +kernel
theorem dX8_isBefore_71 : decode cX8_isBefore 71 = .ok (.iload_n 1, 1) := by decide +kernel
theorem dX8_isBefore_72 : decode cX8_isBefore 72 = .ok (.imul, 1) := by decide +kernel
theorem dX8_isBefore_73 : decode cX8_isBefore 73 = .ok (.iload_n 3, 1) := by decide +kernel
theorem dX8_isBefore_74 : decode cX8_isBefore 74 = .ok (.iadd, 1) := by decide +kernel
theorem dX8_isBefore_75 : decode cX8_isBefore 75 = .ok (.iaload, 1) := by decide +kernel
theorem dX8_isBefore_76 : decode cX8_isBefore 76 = .ok (.aload_n 0, 1) := by decide +kernel
theorem dX8_isBefore_77 : decode cX8_isBefore 77 = .ok (.getfield 17, 3) := by decide +kernel
theorem dX8_isBefore_80 : decode cX8_isBefore 80 = .ok (.iconst 4, 1) := by decide +kernel
theorem dX8_isBefore_81 : decode cX8_isBefore 81 = .ok (.iload_n 2, 1) := by decide +kernel
theorem dX8_isBefore_82 : decode cX8_isBefore 82 = .ok (.imul, 1) := by decide +kernel
theorem dX8_isBefore_83 : decode cX8_isBefore 83 = .ok (.iload_n 3, 1) := by decide +kernel
theorem dX8_isBefore_84 : decode cX8_isBefore 84 = .ok (.iadd, 1) := by decide +kernel
theorem dX8_isBefore_85 : decode cX8_isBefore 85 = .ok (.iaload, 1) := by decide +kernel
theorem dX8_isBefore_86 : decode cX8_isBefore 86 = .ok (.if_icmp .ge 7, 3) := by decide +kernel
theorem dX8_isBefore_89 : decode cX8_isBefore 89 = .ok (.iconst 1, 1) := by decide +kernel
theorem dX8_isBefore_90 : decode cX8_isBefore 90 = .ok (.goto 4, 3) := by decide +kernel
theorem dX8_isBefore_93 : decode cX8_isBefore 93 = .ok (.iconst 0, 1) := by decide +kernel
theorem dX8_isBefore_94 : decode cX8_isBefore 94 = .ok (.ireturn, 1) := by decide +kernel
theorem dX8_isBefore_95 : decode cX8_isBefore 95 = .ok (.iinc 3 1, 3) := by decide +kernel
theorem dX8_isBefore_98 : decode cX8_isBefore 98 = .ok (.goto (-60), 3) := by decide +kernel
theorem dX8_isBefore_101 : decode cX8_isBefore 101 = .ok (.iconst 0, 1) := by decide +kernel
theorem dX8_isBefore_102 : decode cX8_isBefore 102 = .ok (.ireturn, 1) := by decide +kernel
theorem dX8_isNearer_0 : decode cX8_isNearer 0 = .ok (.aload_n 0, 1) := by decide +kernel
theorem dX8_isNearer_1 : decode cX8_isNearer 1 = .ok (.getfield 71, 3) := by decide +kernel
theorem dX8_isNearer_4 : decode cX8_isNearer 4 = .ok (.iload_n 1, 1) := by decide +kernel
theorem dX8_isNearer_5 : decode cX8_isNearer 5 = .ok (.iaload, 1) := by decide +kernel
theorem dX8_isNearer_6 : decode cX8_isNearer 6 = .ok (.ifCond .lt 21, 3) := by decide +kernel
theorem dX8_isNearer_9 : decode cX8_isNearer 9 = .ok (.aload_n 0, 1) := by decide +kernel
theorem dX8_isNearer_10 : decode cX8_isNearer 10 = .ok (.getfield 23, 3) := by decide +kernel
theorem dX8_isNearer_13 : decode cX8_isNearer 13 = .ok (.aload_n 0, 1) := by decide +kernel
theorem dX8_isNearer_14 : decode cX8_isNearer 14 = .ok (.getfield 68, 3) := by decide +kernel
theorem dX8_isNearer_17 : decode cX8_isNearer 17 = .ok (.iload_n 1, 1) := by decide +kernel
theorem dX8_isNearer_18 : decode cX8_isNearer 18 = .ok (.iaload, 1) := by decide +kernel
theorem dX8_isNearer_19 : decode cX8_isNearer 19 = .ok (.iaload, 1) := by decide +kernel
theorem dX8_isNearer_20 : decode cX8_isNearer 20 = .ok (.ifCond .ne 7, 3) := by decide +kernel
theorem dX8_isNearer_23 : decode cX8_isNearer 23 = .ok (.lconst 0, 1) := by decide +kernel
theorem dX8_isNearer_24 : decode cX8_isNearer 24 = .ok (.goto 22, 3) := by decide +kernel
theorem dX8_isNearer_27 : decode cX8_isNearer 27 = .ok (.aload_n 0, 1) := by decide +kernel
theorem dX8_isNearer_28 : decode cX8_isNearer 28 = .ok (.aload_n 0, 1) := by decide +kernel
theorem dX8_isNearer_29 : decode cX8_isNearer 29 = .ok (.getfield 71, 3) := by decide +kernel
theorem dX8_isNearer_32 : decode cX8_isNearer 32 = .ok (.iload_n 1, 1) := by decide +kernel
theorem dX8_isNearer_33 : decode cX8_isNearer 33 = .ok (.iaload, 1) := by decide +kernel
theorem dX8_isNearer_34 : decode cX8_isNearer 34 = .ok (.aload_n 0, 1) := by decide +kernel
theorem dX8_isNearer_35 : decode cX8_isNearer 35 = .ok (.getfield 68, 3) := by decide +kernel
theorem dX8_isNearer_38 : decode cX8_isNearer 38 = .ok (.iload_n 1, 1) := by decide +kernel
theorem dX8_isNearer_39 : decode cX8_isNearer 39 = .ok (.iaload, 1) := by decide +kernel
theorem dX8_isNearer_40 : decode cX8_isNearer 40 = .ok (.iload_n 3, 1) := by decide +kernel
theorem dX8_isNearer_41 : decode cX8_isNearer 41 = .ok (.iload 4, 2) := by decide +kernel
theorem dX8_isNearer_43 : decode cX8_isNearer 43 = .ok (.invokevirtual 228, 3) := by decide +kernel
theorem dX8_isNearer_46 : decode cX8_isNearer 46 = .ok (.lstore 5, 2) := by decide +kernel
theorem dX8_isNearer_48 : decode cX8_isNearer 48 = .ok (.aload_n 0, 1) := by decide +kernel
theorem dX8_isNearer_49 : decode cX8_isNearer 49 = .ok (.getfield 71, 3) := by decide +kernel
theorem dX8_isNearer_52 : decode cX8_isNearer 52 = .ok (.iload_n 2, 1) := by decide +kernel
theorem dX8_isNearer_53 : decode cX8_isNearer 53 = .ok (.iaload, 1) := by decide +kernel
theorem dX8_isNearer_54 : decode cX8_isNearer 54 = .ok (.ifCond .lt 21, 3) := by decide +kernel
theorem dX8_isNearer_57 : decode cX8_isNearer 57 = .ok (.aload_n 0, 1) := by decide +kernel
theorem dX8_isNearer_58 : decode cX8_isNearer 58 = .ok (.getfield 23, 3) := by decide +kernel
theorem dX8_isNearer_61 : decode cX8_isNearer 61 = .ok (.aload_n 0, 1) := by decide +kernel
theorem dX8_isNearer_62 : decode cX8_isNearer 62 = .ok (.getfield 68, 3) := by decide +kernel
theorem dX8_isNearer_65 : decode cX8_isNearer 65 = .ok (.iload_n 2, 1) := by decide +kernel
theorem dX8_isNearer_66 : decode cX8_isNearer 66 = .ok (.iaload, 1) := by decide +kernel
theorem dX8_isNearer_67 : decode cX8_isNearer 67 = .ok (.iaload, 1) := by decide +kernel
theorem dX8_isNearer_68 : decode cX8_isNearer 68 = .ok (.ifCond .ne 7, 3) := by decide +kernel
theorem dX8_isNearer_71 : decode cX8_isNearer 71 = .ok (.lconst 0, 1) := by decide +kernel
theorem dX8_isNearer_72 : decode cX8_isNearer 72 = .ok (.goto 22, 3) := by decide +kernel
theorem dX8_isNearer_75 : decode cX8_isNearer 75 = .ok (.aload_n 0, 1) := by decide +kernel
theorem dX8_isNearer_76 : decode cX8_isNearer 76 = .ok (.aload_n 0, 1) := by decide +kernel
theorem dX8_isNearer_77 : decode cX8_isNearer 77 = .ok (.getfield 71, 3) := by decide +kernel
theorem dX8_isNearer_80 : decode cX8_isNearer 80 = .ok (.iload_n 2, 1) := by decide +kernel
theorem dX8_isNearer_81 : decode cX8_isNearer 81 = .ok (.iaload, 1) := by decide +kernel
theorem dX8_isNearer_82 : decode cX8_isNearer 82 = .ok (.aload_n 0, 1) := by decide +kernel
theorem dX8_isNearer_83 : decode cX8_isNearer 83 = .ok (.getfield 68, 3) := by decide +kernel
theorem dX8_isNearer_86 : decode cX8_isNearer 86 = .ok (.iload_n 2, 1) := by decide +kernel
theorem dX8_isNearer_87 : decode cX8_isNearer 87 = .ok (.iaload, 1) := by decide +kernel
theorem dX8_isNearer_88 : decode cX8_isNearer 88 = .ok (.iload_n 3, 1) := by decide +kernel
theorem dX8_isNearer_89 : decode cX8_isNearer 89 = .ok (.iload 4, 2) := by decide +kernel
theorem dX8_isNearer_91 : decode cX8_isNearer 91 = .ok (.invokevirtual 228, 3) := by decide +kernel
theorem dX8_isNearer_94 : decode cX8_isNearer 94 = .ok (.lstore 7, 2) := by decide +kernel
theorem dX8_isNearer_96 : decode cX8_isNearer 96 = .ok (.lload 5, 2) := by decide +kernel
theorem dX8_isNearer_98 : decode cX8_isNearer 98 = .ok (.lload 7, 2) := by decide +kernel
theorem dX8_isNearer_100 : decode cX8_isNearer 100 = .ok (.lcmp, 1) := by decide +kernel
theorem dX8_isNearer_101 : decode cX8_isNearer 101 = .ok (.ifCond .eq 17, 3) := by decide +kernel
theorem dX8_isNearer_104 : decode cX8_isNearer 104 = .ok (.lload 5, 2) := by decide +kernel
theorem dX8_isNearer_106 : decode cX8_isNearer 106 = .ok (.lload 7, 2) := by decide +kernel
theorem dX8_isNearer_108 : decode cX8_isNearer 108 = .ok (.lcmp, 1) := by decide +kernel
theorem dX8_isNearer_109 : decode cX8_isNearer 109 = .ok (.ifCond .ge 7, 3) := by decide +kernel
theorem dX8_isNearer_112 : decode cX8_isNearer 112 = .ok (.iconst 1, 1) := by decide +kernel
theorem dX8_isNearer_113 : decode cX8_isNearer 113 = .ok (.goto 4, 3) := by decide +kernel
theorem dX8_isNearer_116 : decode cX8_isNearer 116 = .ok (.iconst 0, 1) := by decide +kernel
theorem dX8_isNearer_117 : decode cX8_isNearer 117 = .ok (.ireturn, 1) := by decide +kernel
theorem dX8_isNearer_118 : decode cX8_isNearer 118 = .ok (.aload_n 0, 1) := by decide +kernel
theorem dX8_isNearer_119 : decode cX8_isNearer 119 = .ok (.getfield 71, 3) := by decide +kernel
theorem dX8_isNearer_122 : decode cX8_isNearer 122 = .ok (.iload_n 1, 1) := by decide +kernel
theorem dX8_isNearer_123 : decode cX8_isNearer 123 = .ok (.iaload, 1) := by decide +kernel
theorem dX8_isNearer_124 : decode cX8_isNearer 124 = .ok (.ifCond .ge 7, 3) := by decide +kernel
theorem dX8_isNearer_127 : decode cX8_isNearer 127 = .ok (.iconst 1, 1) := by decide +kernel
theorem dX8_isNearer_128 : decode cX8_isNearer 128 = .ok (.goto 4, 3) := by decide +kernel
theorem dX8_isNearer_131 : decode cX8_isNearer 131 = .ok (.iconst 0, 1) := by decide +kernel
theorem dX8_isNearer_132 : decode cX8_isNearer 132 = .ok (.aload_n 0, 1) := by decide +kernel
theorem dX8_isNearer_133 : decode cX8_isNearer 133 = .ok (.getfield 71, 3) := by decide +kernel
theorem dX8_isNearer_136 : decode cX8_isNearer 136 = .ok (.iload_n 2, 1) := by decide +kernel
theorem dX8_isNearer_137 : decode cX8_isNearer 137 = .ok (.iaload, 1) := by decide +kernel
theorem dX8_isNearer_138 : decode cX8_isNearer 138 = .ok (.ifCond .ge 7, 3) := by decide +kernel
theorem dX8_isNearer_141 : decode cX8_isNearer 141 = .ok (.iconst 1, 1) := by decide +kernel
theorem dX8_isNearer_142 : decode cX8_isNearer 142 = .ok (.goto 4, 3) := by decide +kernel
theorem dX8_isNearer_145 : decode cX8_isNearer 145 = .ok (.iconst 0, 1) := by decide +kernel
theorem dX8_isNearer_146 : decode cX8_isNearer 146 = .ok (.if_icmp .eq 18, 3) := by decide +kernel
theorem dX8_isNearer_149 : decode cX8_isNearer 149 = .ok (.aload_n 0, 1) := by decide +kernel
theorem dX8_isNearer_150 : decode cX8_isNearer 150 = .ok (.getfield 71, 3) := by decide +kernel
theorem dX8_isNearer_153 : decode cX8_isNearer 153 = .ok (.iload_n 1, 1) := by decide +kernel
theorem dX8_isNearer_154 : decode cX8_isNearer 154 = .ok (.iaload, 1) := by decide +kernel
theorem dX8_isNearer_155 : decode cX8_isNearer 155 = .ok (.ifCond .ge 7, 3) := by decide +kernel
theorem dX8_isNearer_158 : decode cX8_isNearer 158 = .ok (.iconst 1, 1) := by decide +kernel
theorem dX8_isNearer_159 : decode cX8_isNearer 159 = .ok (.goto 4, 3) := by decide +kernel
theorem dX8_isNearer_162 : decode cX8_isNearer 162 = .ok (.iconst 0, 1) := by decide +kernel
theorem dX8_isNearer_163 : decode cX8_isNearer 163 = .ok (.ireturn, 1) := by decide +kernel
theorem dX8_isNearer_164 : decode cX8_isNearer 164 = .ok (.aload_n 0, 1) := by decide +kernel
theorem dX8_isNearer_165 : decode cX8_isNearer 165 = .ok (.getfield 71, 3) := by decide +kernel
theorem dX8_isNearer_168 : decode cX8_isNearer 168 = .ok (.iload_n 1, 1) := by decide +kernel
theorem dX8_isNearer_169 : decode cX8_isNearer 169 = .ok (.iaload, 1) := by decide +kernel
theorem dX8_isNearer_170 : decode cX8_isNearer 170 = .ok (.ifCond .ge 22, 3) := by decide +kernel
theorem dX8_isNearer_173 : decode cX8_isNearer 173 = .ok (.aload_n 0, 1) := by decide +kernel
theorem dX8_isNearer_174 : decode cX8_isNearer 174 = .ok (.aload_n 0, 1) := by decide +kernel
theorem dX8_isNearer_175 : decode cX8_isNearer 175 = .ok (.getfield 68, 3) := by decide +kernel
theorem dX8_isNearer_178 : decode cX8_isNearer 178 = .ok (.iload_n 1, 1) := by decide +kernel
theorem dX8_isNearer_179 : decode cX8_isNearer 179 = .ok (.iaload, 1) := by decide +kernel
theorem dX8_isNearer_180 : decode cX8_isNearer 180 = .ok (.aload_n 0, 1) := by decide +kernel
theorem dX8_isNearer_181 : decode cX8_isNearer 181 = .ok (.getfield 68, 3) := by decide +kernel
theorem dX8_isNearer_184 : decode cX8_isNearer 184 = .ok (.iload_n 2, 1) := by decide +kernel
theorem dX8_isNearer_185 : decode cX8_isNearer 185 = .ok (.iaload, 1) := by decide +kernel
theorem dX8_isNearer_186 : decode cX8_isNearer 186 = .ok (.invokevirtual 231, 3) := by decide +kernel
theorem dX8_isNearer_189 : decode cX8_isNearer 189 = .ok (.goto 33, 3) := by decide +kernel
theorem dX8_isNearer_192 : decode cX8_isNearer 192 = .ok (.aload_n 0, 1) := by decide +kernel
theorem dX8_isNearer_193 : decode cX8_isNearer 193 = .ok (.getfield 74, 3) := by decide +kernel
theorem dX8_isNearer_196 : decode cX8_isNearer 196 = .ok (.aload_n 0, 1) := by decide +kernel
theorem dX8_isNearer_197 : decode cX8_isNearer 197 = .ok (.getfield 68, 3) := by decide +kernel
theorem dX8_isNearer_200 : decode cX8_isNearer 200 = .ok (.iload_n 1, 1) := by decide +kernel
theorem dX8_isNearer_201 : decode cX8_isNearer 201 = .ok (.iaload, 1) := by decide +kernel
theorem dX8_isNearer_202 : decode cX8_isNearer 202 = .ok (.iaload, 1) := by decide +kernel
theorem dX8_isNearer_203 : decode cX8_isNearer 203 = .ok (.aload_n 0, 1) := by decide +kernel
theorem dX8_isNearer_204 : decode cX8_isNearer 204 = .ok (.getfield 74, 3) := by decide +kernel
theorem dX8_isNearer_207 : decode cX8_isNearer 207 = .ok (.aload_n 0, 1) := by decide +kernel
theorem dX8_isNearer_208 : decode cX8_isNearer 208 = .ok (.getfield 68, 3) := by decide +kernel
theorem dX8_isNearer_211 : decode cX8_isNearer 211 = .ok (.iload_n 2, 1) := by decide +kernel
theorem dX8_isNearer_212 : decode cX8_isNearer 212 = .ok (.iaload, 1) := by decide +kernel
theorem dX8_isNearer_213 : decode cX8_isNearer 213 = .ok (.iaload, 1) := by decide +kernel
theorem dX8_isNearer_214 : decode cX8_isNearer 214 = .ok (.if_icmp .ge 7, 3) := by decide +kernel
theorem dX8_isNearer_217 : decode cX8_isNearer 217 = .ok (.iconst 1, 1) := by decide +kernel
theorem dX8_isNearer_218 : decode cX8_isNearer 218 = .ok (.goto 4, 3) := by decide +kernel
theorem dX8_isNearer_221 : decode cX8_isNearer 221 = .ok (.iconst 0, 1) := by decide +kernel
theorem dX8_isNearer_222 : decode cX8_isNearer 222 = .ok (.ireturn, 1) := by decide +kernel
theorem dX8_nearest_0 : decode cX8_nearest 0 = .ok (.iload_n 1, 1) := by decide +kernel
theorem dX8_nearest_1 : decode cX8_nearest 1 = .ok (.invokestatic 111, 3) := by decide +kernel
theorem dX8_nearest_4 : decode cX8_nearest 4 = .ok (.ifCond .eq 22, 3) := by decide +kernel
theorem dX8_nearest_7 : decode cX8_nearest 7 = .ok (.iload_n 2, 1) := by decide +kernel
theorem dX8_nearest_8 : decode cX8_nearest 8 = .ok (.invokestatic 111, 3) := by decide +kernel
theorem dX8_nearest_11 : decode cX8_nearest 11 = .ok (.ifCond .eq 15, 3) := by decide +kernel
theorem dX8_nearest_14 : decode cX8_nearest 14 = .ok (.iload_n 3, 1) := by decide +kernel
theorem dX8_nearest_15 : decode cX8_nearest 15 = .ok (.ifCond .lt 11, 3) := by decide +kernel
theorem dX8_nearest_18 : decode cX8_nearest 18 = .ok (.iload_n 3, 1) := by decide +kernel
theorem dX8_nearest_19 : decode cX8_nearest 19 = .ok (.aload_n 0, 1) := by decide +kernel
theorem dX8_nearest_20 : decode cX8_nearest 20 = .ok (.getfield 181, 3) := by decide +kernel
theorem dX8_nearest_23 : decode cX8_nearest 23 = .ok (.if_icmp .lt 5, 3) := by decide +kernel
theorem dX8_nearest_26 : decode cX8_nearest 26 = .ok (.iconst (-1), 1) := by decide +kernel
theorem dX8_nearest_27 : decode cX8_nearest 27 = .ok (.ireturn, 1) := by decide +kernel
theorem dX8_nearest_28 : decode cX8_nearest 28 = .ok (.aload_n 0, 1) := by decide +kernel
theorem dX8_nearest_29 : decode cX8_nearest 29 = .ok (.invokevirtual 235, 3) := by decide +kernel
theorem dX8_nearest_32 : decode cX8_nearest 32 = .ok (.aload_n 0, 1) := by decide +kernel
theorem dX8_nearest_33 : decode cX8_nearest 33 = .ok (.iconst 0, 1) := by decide +kernel
theorem dX8_nearest_34 : decode cX8_nearest 34 = .ok (.putfield 238, 3) := by decide +kernel
theorem dX8_nearest_37 : decode cX8_nearest 37 = .ok (.aload_n 0, 1) := by decide +kernel
theorem dX8_nearest_38 : decode cX8_nearest 38 = .ok (.iconst 1, 1) := by decide +kernel
theorem dX8_nearest_39 : decode cX8_nearest 39 = .ok (.putfield 241, 3) := by decide +kernel
theorem dX8_nearest_42 : decode cX8_nearest 42 = .ok (.aload_n 0, 1) := by decide +kernel
theorem dX8_nearest_43 : decode cX8_nearest 43 = .ok (.getfield 68, 3) := by decide +kernel
theorem dX8_nearest_46 : decode cX8_nearest 46 = .ok (.iconst 0, 1) := by decide +kernel
theorem dX8_nearest_47 : decode cX8_nearest 47 = .ok (.aload_n 0, 1) := by decide +kernel
theorem dX8_nearest_48 : decode cX8_nearest 48 = .ok (.getfield 93, 3) := by decide +kernel
theorem dX8_nearest_51 : decode cX8_nearest 51 = .ok (.iastore, 1) := by decide +kernel
theorem dX8_nearest_52 : decode cX8_nearest 52 = .ok (.aload_n 0, 1) := by decide +kernel
theorem dX8_nearest_53 : decode cX8_nearest 53 = .ok (.getfield 71, 3) := by decide +kernel
theorem dX8_nearest_56 : decode cX8_nearest 56 = .ok (.iconst 0, 1) := by decide +kernel
theorem dX8_nearest_57 : decode cX8_nearest 57 = .ok (.aload_n 0, 1) := by decide +kernel
theorem dX8_nearest_58 : decode cX8_nearest 58 = .ok (.getfield 20, 3) := by decide +kernel
theorem dX8_nearest_61 : decode cX8_nearest 61 = .ok (.aload_n 0, 1) := by decide +kernel
theorem dX8_nearest_62 : decode cX8_nearest 62 = .ok (.getfield 93, 3) := by decide +kernel
theorem dX8_nearest_65 : decode cX8_nearest 65 = .ok (.iaload, 1) := by decide +kernel
theorem dX8_nearest_66 : decode cX8_nearest 66 = .ok (.iastore, 1) := by decide +kernel
theorem dX8_nearest_67 : decode cX8_nearest 67 = .ok (.iload_n 3, 1) := by decide +kernel
theorem dX8_nearest_68 : decode cX8_nearest 68 = .ok (.istore 4, 2) := by decide +kernel
theorem dX8_nearest_70 : decode cX8_nearest 70 = .ok (.iconst 0, 1) := by decide +kernel
theorem dX8_nearest_71 : decode cX8_nearest 71 = .ok (.istore 5, 2) := by decide +kernel
theorem dX8_nearest_73 : decode cX8_nearest 73 = .ok (.iconst 1, 1) := by decide +kernel
theorem dX8_nearest_74 : decode cX8_nearest 74 = .ok (.istore 6, 2) := by decide +kernel
theorem dX8_nearest_76 : decode cX8_nearest 76 = .ok (.iload 6, 2) := by decide +kernel
theorem dX8_nearest_78 : decode cX8_nearest 78 = .ok (.aload_n 0, 1) := by decide +kernel
theorem dX8_nearest_79 : decode cX8_nearest 79 = .ok (.getfield 241, 3) := by decide +kernel
theorem dX8_nearest_82 : decode cX8_nearest 82 = .ok (.if_icmp .ge 31, 3) := by decide +kernel
theorem dX8_nearest_85 : decode cX8_nearest 85 = .ok (.aload_n 0, 1) := by decide +kernel
theorem dX8_nearest_86 : decode cX8_nearest 86 = .ok (.iload 6, 2) := by decide +kernel
theorem dX8_nearest_88 : decode cX8_nearest 88 = .ok (.iload 5, 2) := by decide +kernel
theorem dX8_nearest_90 : decode cX8_nearest 90 = .ok (.iload_n 1, 1) := by decide +kernel
theorem dX8_nearest_91 : decode cX8_nearest 91 = .ok (.iload_n 2, 1) := by decide +kernel
theorem dX8_nearest_92 : decode cX8_nearest 92 = .ok (.invokevirtual 244, 3) := by decide +kernel
theorem dX8_nearest_95 : decode cX8_nearest 95 = .ok (.ifCond .eq 8, 3) := by decide +kernel
theorem dX8_nearest_98 : decode cX8_nearest 98 = .ok (.iload 6, 2) := by decide +kernel
theorem dX8_nearest_100 : decode cX8_nearest 100 = .ok (.goto 5, 3) := by decide +kernel
theorem dX8_nearest_103 : decode cX8_nearest 103 = .ok (.iload 5, 2) := by decide +kernel
theorem dX8_nearest_105 : decode cX8_nearest 105 = .ok (.istore 5, 2) := by decide +kernel
theorem dX8_nearest_107 : decode cX8_nearest 107 = .ok (.iinc 6 1, 3) := by decide +kernel
theorem dX8_nearest_110 : decode cX8_nearest 110 = .ok (.goto (-34), 3) := by decide +kernel
theorem dX8_nearest_113 : decode cX8_nearest 113 = .ok (.aload_n 0, 1) := by decide +kernel
theorem dX8_nearest_114 : decode cX8_nearest 114 = .ok (.getfield 68, 3) := by decide +kernel
theorem dX8_nearest_117 : decode cX8_nearest 117 = .ok (.iload 5, 2) := by decide +kernel
theorem dX8_nearest_119 : decode cX8_nearest 119 = .ok (.iaload, 1) := by decide +kernel
theorem dX8_nearest_120 : decode cX8_nearest 120 = .ok (.istore 6, 2) := by decide +kernel
theorem dX8_nearest_122 : decode cX8_nearest 122 = .ok (.aload_n 0, 1) := by decide +kernel
theorem dX8_nearest_123 : decode cX8_nearest 123 = .ok (.getfield 71, 3) := by decide +kernel
theorem dX8_nearest_126 : decode cX8_nearest 126 = .ok (.iload 5, 2) := by decide +kernel
theorem dX8_nearest_128 : decode cX8_nearest 128 = .ok (.iaload, 1) := by decide +kernel
theorem dX8_nearest_129 : decode cX8_nearest 129 = .ok (.istore 7, 2) := by decide +kernel
theorem dX8_nearest_131 : decode cX8_nearest 131 = .ok (.aload_n 0, 1) := by decide +kernel
theorem dX8_nearest_132 : decode cX8_nearest 132 = .ok (.dup, 1) := by decide +kernel
theorem dX8_nearest_133 : decode cX8_nearest 133 = .ok (.getfield 241, 3) := by decide +kernel
theorem dX8_nearest_136 : decode cX8_nearest 136 = .ok (.iconst 1, 1) := by decide +kernel
theorem dX8_nearest_137 : decode cX8_nearest 137 = .ok (.isub, 1) := by decide +kernel
theorem dX8_nearest_138 : decode cX8_nearest 138 = .ok (.putfield 241, 3) := by decide +kernel
theorem dX8_nearest_141 : decode cX8_nearest 141 = .ok (.aload_n 0, 1) := by decide +kernel
theorem dX8_nearest_142 : decode cX8_nearest 142 = .ok (.getfield 68, 3) := by decide +kernel
theorem dX8_nearest_145 : decode cX8_nearest 145 = .ok (.iload 5, 2) := by decide +kernel
theorem dX8_nearest_147 : decode cX8_nearest 147 = .ok (.aload_n 0, 1) := by decide +kernel
theorem dX8_nearest_148 : decode cX8_nearest 148 = .ok (.getfield 68, 3) := by decide +kernel
theorem dX8_nearest_151 : decode cX8_nearest 151 = .ok (.aload_n 0, 1) := by decide +kernel
theorem dX8_nearest_152 : decode cX8_nearest 152 = .ok (.getfield 241, 3) := by decide +kernel
theorem dX8_nearest_155 : decode cX8_nearest 155 = .ok (.iaload, 1) := by decide +kernel
