/-! the law's own instructions, part 3 (by program out of javap's listing) -/
theorem dW_452 : decode code 452 = .ok (.iadd, 1) := by decide +kernel
theorem dW_453 : decode code 453 = .ok (.iaload, 1) := by decide +kernel
theorem dW_454 : decode code 454 = .ok (.aload_n 3, 1) := by decide +kernel
theorem dW_455 : decode code 455 = .ok (.invokestatic 96, 3) := by decide +kernel
theorem dW_458 : decode code 458 = .ok (.istore 5, 2) := by decide +kernel
theorem dW_460 : decode code 460 = .ok (.aload_n 2, 1) := by decide +kernel
theorem dW_461 : decode code 461 = .ok (.aload_n 0, 1) := by decide +kernel
theorem dW_462 : decode code 462 = .ok (.iload 4, 2) := by decide +kernel
theorem dW_464 : decode code 464 = .ok (.iconst 1, 1) := by decide +kernel
theorem dW_465 : decode code 465 = .ok (.iadd, 1) := by decide +kernel
theorem dW_466 : decode code 466 = .ok (.iaload, 1) := by decide +kernel
theorem dW_467 : decode code 467 = .ok (.invokevirtual 98, 3) := by decide +kernel
theorem dW_470 : decode code 470 = .ok (.istore 6, 2) := by decide +kernel
theorem dW_472 : decode code 472 = .ok (.aload_n 2, 1) := by decide +kernel
theorem dW_473 : decode code 473 = .ok (.invokevirtual 83, 3) := by decide +kernel
theorem dW_476 : decode code 476 = .ok (.iload 5, 2) := by decide +kernel
theorem dW_478 : decode code 478 = .ok (.if_icmp .eq 5, 3) := by decide +kernel
theorem dW_481 : decode code 481 = .ok (.iconst 0, 1) := by decide +kernel
theorem dW_482 : decode code 482 = .ok (.ireturn, 1) := by decide +kernel
theorem dW_483 : decode code 483 = .ok (.iload 5, 2) := by decide +kernel
theorem dW_485 : decode code 485 = .ok (.ifCond .ne 15, 3) := by decide +kernel
theorem dW_488 : decode code 488 = .ok (.aload_n 3, 1) := by decide +kernel
theorem dW_489 : decode code 489 = .ok (.iconst 0, 1) := by decide +kernel
theorem dW_490 : decode code 490 = .ok (.laload, 1) := by decide +kernel
theorem dW_491 : decode code 491 = .ok (.iload 6, 2) := by decide +kernel
theorem dW_493 : decode code 493 = .ok (.i2l, 1) := by decide +kernel
theorem dW_494 : decode code 494 = .ok (.lcmp, 1) := by decide +kernel
theorem dW_495 : decode code 495 = .ok (.ifCond .eq 5, 3) := by decide +kernel
theorem dW_498 : decode code 498 = .ok (.iconst 0, 1) := by decide +kernel
theorem dW_499 : decode code 499 = .ok (.ireturn, 1) := by decide +kernel
theorem dW_500 : decode code 500 = .ok (.goto 704, 3) := by decide +kernel
theorem dW_503 : decode code 503 = .ok (.aload_n 1, 1) := by decide +kernel
theorem dW_504 : decode code 504 = .ok (.aload_n 0, 1) := by decide +kernel
theorem dW_505 : decode code 505 = .ok (.iload 4, 2) := by decide +kernel
theorem dW_507 : decode code 507 = .ok (.iconst 1, 1) := by decide +kernel
theorem dW_508 : decode code 508 = .ok (.iadd, 1) := by decide +kernel
theorem dW_509 : decode code 509 = .ok (.iaload, 1) := by decide +kernel
theorem dW_510 : decode code 510 = .ok (.aload_n 3, 1) := by decide +kernel
theorem dW_511 : decode code 511 = .ok (.invokestatic 99, 3) := by decide +kernel
theorem dW_514 : decode code 514 = .ok (.istore 5, 2) := by decide +kernel
theorem dW_516 : decode code 516 = .ok (.aload_n 2, 1) := by decide +kernel
theorem dW_517 : decode code 517 = .ok (.aload_n 0, 1) := by decide +kernel
theorem dW_518 : decode code 518 = .ok (.iload 4, 2) := by decide +kernel
theorem dW_520 : decode code 520 = .ok (.iconst 1, 1) := by decide +kernel
theorem dW_521 : decode code 521 = .ok (.iadd, 1) := by decide +kernel
theorem dW_522 : decode code 522 = .ok (.iaload, 1) := by decide +kernel
theorem dW_523 : decode code 523 = .ok (.invokevirtual 101, 3) := by decide +kernel
theorem dW_526 : decode code 526 = .ok (.istore 6, 2) := by decide +kernel
theorem dW_528 : decode code 528 = .ok (.aload_n 2, 1) := by decide +kernel
theorem dW_529 : decode code 529 = .ok (.invokevirtual 83, 3) := by decide +kernel
theorem dW_532 : decode code 532 = .ok (.iload 5, 2) := by decide +kernel
theorem dW_534 : decode code 534 = .ok (.if_icmp .eq 5, 3) := by decide +kernel
theorem dW_537 : decode code 537 = .ok (.iconst 0, 1) := by decide +kernel
theorem dW_538 : decode code 538 = .ok (.ireturn, 1) := by decide +kernel
theorem dW_539 : decode code 539 = .ok (.iload 5, 2) := by decide +kernel
theorem dW_541 : decode code 541 = .ok (.ifCond .ne 15, 3) := by decide +kernel
theorem dW_544 : decode code 544 = .ok (.aload_n 3, 1) := by decide +kernel
theorem dW_545 : decode code 545 = .ok (.iconst 0, 1) := by decide +kernel
theorem dW_546 : decode code 546 = .ok (.laload, 1) := by decide +kernel
theorem dW_547 : decode code 547 = .ok (.iload 6, 2) := by decide +kernel
theorem dW_549 : decode code 549 = .ok (.i2l, 1) := by decide +kernel
theorem dW_550 : decode code 550 = .ok (.lcmp, 1) := by decide +kernel
theorem dW_551 : decode code 551 = .ok (.ifCond .eq 5, 3) := by decide +kernel
theorem dW_554 : decode code 554 = .ok (.iconst 0, 1) := by decide +kernel
theorem dW_555 : decode code 555 = .ok (.ireturn, 1) := by decide +kernel
theorem dW_556 : decode code 556 = .ok (.goto 648, 3) := by decide +kernel
theorem dW_559 : decode code 559 = .ok (.aload_n 1, 1) := by decide +kernel
theorem dW_560 : decode code 560 = .ok (.aload_n 0, 1) := by decide +kernel
theorem dW_561 : decode code 561 = .ok (.iload 4, 2) := by decide +kernel
theorem dW_563 : decode code 563 = .ok (.iconst 1, 1) := by decide +kernel
theorem dW_564 : decode code 564 = .ok (.iadd, 1) := by decide +kernel
theorem dW_565 : decode code 565 = .ok (.iaload, 1) := by decide +kernel
theorem dW_566 : decode code 566 = .ok (.aload_n 0, 1) := by decide +kernel
theorem dW_567 : decode code 567 = .ok (.iload 4, 2) := by decide +kernel
theorem dW_569 : decode code 569 = .ok (.iconst 2, 1) := by decide +kernel
theorem dW_570 : decode code 570 = .ok (.iadd, 1) := by decide +kernel
theorem dW_571 : decode code 571 = .ok (.iaload, 1) := by decide +kernel
theorem dW_572 : decode code 572 = .ok (.aload_n 0, 1) := by decide +kernel
theorem dW_573 : decode code 573 = .ok (.iload 4, 2) := by decide +kernel
theorem dW_575 : decode code 575 = .ok (.iconst 3, 1) := by decide +kernel
theorem dW_576 : decode code 576 = .ok (.iadd, 1) := by decide +kernel
theorem dW_577 : decode code 577 = .ok (.iaload, 1) := by decide +kernel
theorem dW_578 : decode code 578 = .ok (.aload_n 3, 1) := by decide +kernel
theorem dW_579 : decode code 579 = .ok (.invokestatic 102, 3) := by decide +kernel
theorem dW_582 : decode code 582 = .ok (.istore 5, 2) := by decide +kernel
theorem dW_584 : decode code 584 = .ok (.aload_n 2, 1) := by decide +kernel
theorem dW_585 : decode code 585 = .ok (.aload_n 0, 1) := by decide +kernel
theorem dW_586 : decode code 586 = .ok (.iload 4, 2) := by decide +kernel
theorem dW_588 : decode code 588 = .ok (.iconst 1, 1) := by decide +kernel
theorem dW_589 : decode code 589 = .ok (.iadd, 1) := by decide +kernel
theorem dW_590 : decode code 590 = .ok (.iaload, 1) := by decide +kernel
theorem dW_591 : decode code 591 = .ok (.aload_n 0, 1) := by decide +kernel
theorem dW_592 : decode code 592 = .ok (.iload 4, 2) := by decide +kernel
theorem dW_594 : decode code 594 = .ok (.iconst 2, 1) := by decide +kernel
theorem dW_595 : decode code 595 = .ok (.iadd, 1) := by decide +kernel
theorem dW_596 : decode code 596 = .ok (.iaload, 1) := by decide +kernel
theorem dW_597 : decode code 597 = .ok (.aload_n 0, 1) := by decide +kernel
theorem dW_598 : decode code 598 = .ok (.iload 4, 2) := by decide +kernel
theorem dW_600 : decode code 600 = .ok (.iconst 3, 1) := by decide +kernel
theorem dW_601 : decode code 601 = .ok (.iadd, 1) := by decide +kernel
theorem dW_602 : decode code 602 = .ok (.iaload, 1) := by decide +kernel
theorem dW_603 : decode code 603 = .ok (.invokevirtual 105, 3) := by decide +kernel
theorem dW_606 : decode code 606 = .ok (.istore 6, 2) := by decide +kernel
theorem dW_608 : decode code 608 = .ok (.aload_n 2, 1) := by decide +kernel
theorem dW_609 : decode code 609 = .ok (.invokevirtual 83, 3) := by decide +kernel
theorem dW_612 : decode code 612 = .ok (.iload 5, 2) := by decide +kernel
theorem dW_614 : decode code 614 = .ok (.if_icmp .eq 5, 3) := by decide +kernel
theorem dW_617 : decode code 617 = .ok (.iconst 0, 1) := by decide +kernel
theorem dW_618 : decode code 618 = .ok (.ireturn, 1) := by decide +kernel
theorem dW_619 : decode code 619 = .ok (.iload 5, 2) := by decide +kernel
theorem dW_621 : decode code 621 = .ok (.ifCond .ne 22, 3) := by decide +kernel
theorem dW_624 : decode code 624 = .ok (.aload_n 3, 1) := by decide +kernel
theorem dW_625 : decode code 625 = .ok (.iconst 0, 1) := by decide +kernel
theorem dW_626 : decode code 626 = .ok (.laload, 1) := by decide +kernel
theorem dW_627 : decode code 627 = .ok (.iload 6, 2) := by decide +kernel
theorem dW_629 : decode code 629 = .ok (.ifCond .eq 7, 3) := by decide +kernel
theorem dW_632 : decode code 632 = .ok (.lconst 1, 1) := by decide +kernel
theorem dW_633 : decode code 633 = .ok (.goto 4, 3) := by decide +kernel
theorem dW_636 : decode code 636 = .ok (.lconst 0, 1) := by decide +kernel
theorem dW_637 : decode code 637 = .ok (.lcmp, 1) := by decide +kernel
