theorem d_Law_law_464 : decode code 464 = .ok (.iload_n 3, 1) := by decide +kernel
theorem d_Law_law_465 : decode code 465 = .ok (.iconst 1, 1) := by decide +kernel
theorem d_Law_law_466 : decode code 466 = .ok (.iadd, 1) := by decide +kernel
theorem d_Law_law_467 : decode code 467 = .ok (.iaload, 1) := by decide +kernel
theorem d_Law_law_468 : decode code 468 = .ok (.invokevirtual 66, 3) := by decide +kernel
theorem d_Law_law_471 : decode code 471 = .ok (.if_icmp .eq 275, 3) := by decide +kernel
theorem d_Law_law_474 : decode code 474 = .ok (.iconst 0, 1) := by decide +kernel
theorem d_Law_law_475 : decode code 475 = .ok (.ireturn, 1) := by decide +kernel
theorem d_Law_law_476 : decode code 476 = .ok (.aload_n 1, 1) := by decide +kernel
theorem d_Law_law_477 : decode code 477 = .ok (.aload_n 0, 1) := by decide +kernel
theorem d_Law_law_478 : decode code 478 = .ok (.iload_n 3, 1) := by decide +kernel
theorem d_Law_law_479 : decode code 479 = .ok (.iconst 1, 1) := by decide +kernel
theorem d_Law_law_480 : decode code 480 = .ok (.iadd, 1) := by decide +kernel
theorem d_Law_law_481 : decode code 481 = .ok (.iaload, 1) := by decide +kernel
theorem d_Law_law_482 : decode code 482 = .ok (.invokevirtual 67, 3) := by decide +kernel
theorem d_Law_law_485 : decode code 485 = .ok (.aload_n 2, 1) := by decide +kernel
theorem d_Law_law_486 : decode code 486 = .ok (.aload_n 0, 1) := by decide +kernel
theorem d_Law_law_487 : decode code 487 = .ok (.iload_n 3, 1) := by decide +kernel
theorem d_Law_law_488 : decode code 488 = .ok (.iconst 1, 1) := by decide +kernel
theorem d_Law_law_489 : decode code 489 = .ok (.iadd, 1) := by decide +kernel
theorem d_Law_law_490 : decode code 490 = .ok (.iaload, 1) := by decide +kernel
theorem d_Law_law_491 : decode code 491 = .ok (.invokevirtual 70, 3) := by decide +kernel
theorem d_Law_law_494 : decode code 494 = .ok (.if_icmp .eq 252, 3) := by decide +kernel
theorem d_Law_law_497 : decode code 497 = .ok (.iconst 0, 1) := by decide +kernel
theorem d_Law_law_498 : decode code 498 = .ok (.ireturn, 1) := by decide +kernel
theorem d_Law_law_499 : decode code 499 = .ok (.aload_n 1, 1) := by decide +kernel
theorem d_Law_law_500 : decode code 500 = .ok (.aload_n 0, 1) := by decide +kernel
theorem d_Law_law_501 : decode code 501 = .ok (.iload_n 3, 1) := by decide +kernel
theorem d_Law_law_502 : decode code 502 = .ok (.iconst 1, 1) := by decide +kernel
theorem d_Law_law_503 : decode code 503 = .ok (.iadd, 1) := by decide +kernel
theorem d_Law_law_504 : decode code 504 = .ok (.iaload, 1) := by decide +kernel
theorem d_Law_law_505 : decode code 505 = .ok (.invokevirtual 71, 3) := by decide +kernel
theorem d_Law_law_508 : decode code 508 = .ok (.aload_n 2, 1) := by decide +kernel
theorem d_Law_law_509 : decode code 509 = .ok (.aload_n 0, 1) := by decide +kernel
theorem d_Law_law_510 : decode code 510 = .ok (.iload_n 3, 1) := by decide +kernel
theorem d_Law_law_511 : decode code 511 = .ok (.iconst 1, 1) := by decide +kernel
theorem d_Law_law_512 : decode code 512 = .ok (.iadd, 1) := by decide +kernel
theorem d_Law_law_513 : decode code 513 = .ok (.iaload, 1) := by decide +kernel
theorem d_Law_law_514 : decode code 514 = .ok (.invokevirtual 74, 3) := by decide +kernel
theorem d_Law_law_517 : decode code 517 = .ok (.if_icmp .eq 229, 3) := by decide +kernel
theorem d_Law_law_520 : decode code 520 = .ok (.iconst 0, 1) := by decide +kernel
theorem d_Law_law_521 : decode code 521 = .ok (.ireturn, 1) := by decide +kernel
theorem d_Law_law_522 : decode code 522 = .ok (.aload_n 1, 1) := by decide +kernel
theorem d_Law_law_523 : decode code 523 = .ok (.aload_n 0, 1) := by decide +kernel
theorem d_Law_law_524 : decode code 524 = .ok (.iload_n 3, 1) := by decide +kernel
theorem d_Law_law_525 : decode code 525 = .ok (.iconst 1, 1) := by decide +kernel
theorem d_Law_law_526 : decode code 526 = .ok (.iadd, 1) := by decide +kernel
theorem d_Law_law_527 : decode code 527 = .ok (.iaload, 1) := by decide +kernel
theorem d_Law_law_528 : decode code 528 = .ok (.invokevirtual 75, 3) := by decide +kernel
theorem d_Law_law_531 : decode code 531 = .ok (.aload_n 2, 1) := by decide +kernel
theorem d_Law_law_532 : decode code 532 = .ok (.aload_n 0, 1) := by decide +kernel
theorem d_Law_law_533 : decode code 533 = .ok (.iload_n 3, 1) := by decide +kernel
theorem d_Law_law_534 : decode code 534 = .ok (.iconst 1, 1) := by decide +kernel
theorem d_Law_law_535 : decode code 535 = .ok (.iadd, 1) := by decide +kernel
theorem d_Law_law_536 : decode code 536 = .ok (.iaload, 1) := by decide +kernel
theorem d_Law_law_537 : decode code 537 = .ok (.invokevirtual 78, 3) := by decide +kernel
theorem d_Law_law_540 : decode code 540 = .ok (.if_icmp .eq 206, 3) := by decide +kernel
theorem d_Law_law_543 : decode code 543 = .ok (.iconst 0, 1) := by decide +kernel
theorem d_Law_law_544 : decode code 544 = .ok (.ireturn, 1) := by decide +kernel
theorem d_Law_law_545 : decode code 545 = .ok (.aload_n 1, 1) := by decide +kernel
theorem d_Law_law_546 : decode code 546 = .ok (.aload_n 0, 1) := by decide +kernel
theorem d_Law_law_547 : decode code 547 = .ok (.iload_n 3, 1) := by decide +kernel
theorem d_Law_law_548 : decode code 548 = .ok (.iconst 1, 1) := by decide +kernel
theorem d_Law_law_549 : decode code 549 = .ok (.iadd, 1) := by decide +kernel
theorem d_Law_law_550 : decode code 550 = .ok (.iaload, 1) := by decide +kernel
theorem d_Law_law_551 : decode code 551 = .ok (.invokevirtual 79, 3) := by decide +kernel
theorem d_Law_law_554 : decode code 554 = .ok (.aload_n 2, 1) := by decide +kernel
theorem d_Law_law_555 : decode code 555 = .ok (.aload_n 0, 1) := by decide +kernel
theorem d_Law_law_556 : decode code 556 = .ok (.iload_n 3, 1) := by decide +kernel
theorem d_Law_law_557 : decode code 557 = .ok (.iconst 1, 1) := by decide +kernel
theorem d_Law_law_558 : decode code 558 = .ok (.iadd, 1) := by decide +kernel
theorem d_Law_law_559 : decode code 559 = .ok (.iaload, 1) := by decide +kernel
theorem d_Law_law_560 : decode code 560 = .ok (.invokevirtual 82, 3) := by decide +kernel
theorem d_Law_law_563 : decode code 563 = .ok (.if_icmp .eq 183, 3) := by decide +kernel
theorem d_Law_law_566 : decode code 566 = .ok (.iconst 0, 1) := by decide +kernel
theorem d_Law_law_567 : decode code 567 = .ok (.ireturn, 1) := by decide +kernel
theorem d_Law_law_568 : decode code 568 = .ok (.aload_n 1, 1) := by decide +kernel
theorem d_Law_law_569 : decode code 569 = .ok (.aload_n 0, 1) := by decide +kernel
theorem d_Law_law_570 : decode code 570 = .ok (.iload_n 3, 1) := by decide +kernel
theorem d_Law_law_571 : decode code 571 = .ok (.iconst 1, 1) := by decide +kernel
theorem d_Law_law_572 : decode code 572 = .ok (.iadd, 1) := by decide +kernel
theorem d_Law_law_573 : decode code 573 = .ok (.iaload, 1) := by decide +kernel
theorem d_Law_law_574 : decode code 574 = .ok (.invokevirtual 83, 3) := by decide +kernel
theorem d_Law_law_577 : decode code 577 = .ok (.aload_n 2, 1) := by decide +kernel
theorem d_Law_law_578 : decode code 578 = .ok (.aload_n 0, 1) := by decide +kernel
theorem d_Law_law_579 : decode code 579 = .ok (.iload_n 3, 1) := by decide +kernel
theorem d_Law_law_580 : decode code 580 = .ok (.iconst 1, 1) := by decide +kernel
theorem d_Law_law_581 : decode code 581 = .ok (.iadd, 1) := by decide +kernel
theorem d_Law_law_582 : decode code 582 = .ok (.iaload, 1) := by decide +kernel
theorem d_Law_law_583 : decode code 583 = .ok (.invokevirtual 86, 3) := by decide +kernel
theorem d_Law_law_586 : decode code 586 = .ok (.if_icmp .eq 160, 3) := by decide +kernel
theorem d_Law_law_589 : decode code 589 = .ok (.iconst 0, 1) := by decide +kernel
theorem d_Law_law_590 : decode code 590 = .ok (.ireturn, 1) := by decide +kernel
theorem d_Law_law_591 : decode code 591 = .ok (.aload_n 1, 1) := by decide +kernel
theorem d_Law_law_592 : decode code 592 = .ok (.aload_n 0, 1) := by decide +kernel
theorem d_Law_law_593 : decode code 593 = .ok (.iload_n 3, 1) := by decide +kernel
theorem d_Law_law_594 : decode code 594 = .ok (.iconst 1, 1) := by decide +kernel
theorem d_Law_law_595 : decode code 595 = .ok (.iadd, 1) := by decide +kernel
theorem d_Law_law_596 : decode code 596 = .ok (.iaload, 1) := by decide +kernel
theorem d_Law_law_597 : decode code 597 = .ok (.invokevirtual 87, 3) := by decide +kernel
