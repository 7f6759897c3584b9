theorem d_W_488 : decode code 488 = .ok (.aload_n 1, 1) := by decide +kernel
theorem d_W_489 : decode code 489 = .ok (.aload_n 0, 1) := by decide +kernel
theorem d_W_490 : decode code 490 = .ok (.iload_n 3, 1) := by decide +kernel
theorem d_W_491 : decode code 491 = .ok (.iconst 1, 1) := by decide +kernel
theorem d_W_492 : decode code 492 = .ok (.iadd, 1) := by decide +kernel
theorem d_W_493 : decode code 493 = .ok (.iaload, 1) := by decide +kernel
theorem d_W_494 : decode code 494 = .ok (.aload_n 0, 1) := by decide +kernel
theorem d_W_495 : decode code 495 = .ok (.iload_n 3, 1) := by decide +kernel
theorem d_W_496 : decode code 496 = .ok (.iconst 2, 1) := by decide +kernel
theorem d_W_497 : decode code 497 = .ok (.iadd, 1) := by decide +kernel
theorem d_W_498 : decode code 498 = .ok (.iaload, 1) := by decide +kernel
theorem d_W_499 : decode code 499 = .ok (.invokevirtual 59, 3) := by decide +kernel
theorem d_W_502 : decode code 502 = .ok (.aload_n 2, 1) := by decide +kernel
theorem d_W_503 : decode code 503 = .ok (.aload_n 0, 1) := by decide +kernel
theorem d_W_504 : decode code 504 = .ok (.iload_n 3, 1) := by decide +kernel
theorem d_W_505 : decode code 505 = .ok (.iconst 1, 1) := by decide +kernel
theorem d_W_506 : decode code 506 = .ok (.iadd, 1) := by decide +kernel
theorem d_W_507 : decode code 507 = .ok (.iaload, 1) := by decide +kernel
theorem d_W_508 : decode code 508 = .ok (.aload_n 0, 1) := by decide +kernel
theorem d_W_509 : decode code 509 = .ok (.iload_n 3, 1) := by decide +kernel
theorem d_W_510 : decode code 510 = .ok (.iconst 2, 1) := by decide +kernel
theorem d_W_511 : decode code 511 = .ok (.iadd, 1) := by decide +kernel
theorem d_W_512 : decode code 512 = .ok (.iaload, 1) := by decide +kernel
theorem d_W_513 : decode code 513 = .ok (.invokevirtual 62, 3) := by decide +kernel
theorem d_W_516 : decode code 516 = .ok (.if_icmp .eq 114, 3) := by decide +kernel
theorem d_W_519 : decode code 519 = .ok (.iconst 0, 1) := by decide +kernel
theorem d_W_520 : decode code 520 = .ok (.ireturn, 1) := by decide +kernel
theorem d_W_521 : decode code 521 = .ok (.aload_n 1, 1) := by decide +kernel
theorem d_W_522 : decode code 522 = .ok (.aload_n 0, 1) := by decide +kernel
theorem d_W_523 : decode code 523 = .ok (.iload_n 3, 1) := by decide +kernel
theorem d_W_524 : decode code 524 = .ok (.iconst 1, 1) := by decide +kernel
theorem d_W_525 : decode code 525 = .ok (.iadd, 1) := by decide +kernel
theorem d_W_526 : decode code 526 = .ok (.iaload, 1) := by decide +kernel
theorem d_W_527 : decode code 527 = .ok (.invokevirtual 63, 3) := by decide +kernel
theorem d_W_530 : decode code 530 = .ok (.aload_n 2, 1) := by decide +kernel
theorem d_W_531 : decode code 531 = .ok (.aload_n 0, 1) := by decide +kernel
theorem d_W_532 : decode code 532 = .ok (.iload_n 3, 1) := by decide +kernel
theorem d_W_533 : decode code 533 = .ok (.iconst 1, 1) := by decide +kernel
theorem d_W_534 : decode code 534 = .ok (.iadd, 1) := by decide +kernel
theorem d_W_535 : decode code 535 = .ok (.iaload, 1) := by decide +kernel
theorem d_W_536 : decode code 536 = .ok (.invokevirtual 67, 3) := by decide +kernel
theorem d_W_539 : decode code 539 = .ok (.if_icmp .eq 91, 3) := by decide +kernel
theorem d_W_542 : decode code 542 = .ok (.iconst 0, 1) := by decide +kernel
theorem d_W_543 : decode code 543 = .ok (.ireturn, 1) := by decide +kernel
theorem d_W_544 : decode code 544 = .ok (.aload_n 1, 1) := by decide +kernel
theorem d_W_545 : decode code 545 = .ok (.invokevirtual 68, 3) := by decide +kernel
theorem d_W_548 : decode code 548 = .ok (.aload_n 2, 1) := by decide +kernel
theorem d_W_549 : decode code 549 = .ok (.invokevirtual 72, 3) := by decide +kernel
theorem d_W_552 : decode code 552 = .ok (.lcmp, 1) := by decide +kernel
theorem d_W_553 : decode code 553 = .ok (.ifCond .eq 77, 3) := by decide +kernel
theorem d_W_556 : decode code 556 = .ok (.iconst 0, 1) := by decide +kernel
theorem d_W_557 : decode code 557 = .ok (.ireturn, 1) := by decide +kernel
theorem d_W_558 : decode code 558 = .ok (.aload_n 1, 1) := by decide +kernel
theorem d_W_559 : decode code 559 = .ok (.invokevirtual 73, 3) := by decide +kernel
theorem d_W_562 : decode code 562 = .ok (.aload_n 2, 1) := by decide +kernel
theorem d_W_563 : decode code 563 = .ok (.invokevirtual 76, 3) := by decide +kernel
theorem d_W_566 : decode code 566 = .ok (.if_icmp .eq 64, 3) := by decide +kernel
theorem d_W_569 : decode code 569 = .ok (.iconst 0, 1) := by decide +kernel
theorem d_W_570 : decode code 570 = .ok (.ireturn, 1) := by decide +kernel
theorem d_W_571 : decode code 571 = .ok (.aload_n 1, 1) := by decide +kernel
theorem d_W_572 : decode code 572 = .ok (.invokevirtual 77, 3) := by decide +kernel
theorem d_W_575 : decode code 575 = .ok (.aload_n 2, 1) := by decide +kernel
theorem d_W_576 : decode code 576 = .ok (.invokevirtual 80, 3) := by decide +kernel
theorem d_W_579 : decode code 579 = .ok (.if_icmp .eq 51, 3) := by decide +kernel
theorem d_W_582 : decode code 582 = .ok (.iconst 0, 1) := by decide +kernel
theorem d_W_583 : decode code 583 = .ok (.ireturn, 1) := by decide +kernel
theorem d_W_584 : decode code 584 = .ok (.aload_n 1, 1) := by decide +kernel
theorem d_W_585 : decode code 585 = .ok (.invokevirtual 81, 3) := by decide +kernel
theorem d_W_588 : decode code 588 = .ok (.aload_n 2, 1) := by decide +kernel
theorem d_W_589 : decode code 589 = .ok (.invokevirtual 84, 3) := by decide +kernel
theorem d_W_592 : decode code 592 = .ok (.if_icmp .eq 38, 3) := by decide +kernel
theorem d_W_595 : decode code 595 = .ok (.iconst 0, 1) := by decide +kernel
theorem d_W_596 : decode code 596 = .ok (.ireturn, 1) := by decide +kernel
theorem d_W_597 : decode code 597 = .ok (.aload_n 1, 1) := by decide +kernel
theorem d_W_598 : decode code 598 = .ok (.aload_n 0, 1) := by decide +kernel
theorem d_W_599 : decode code 599 = .ok (.iload_n 3, 1) := by decide +kernel
theorem d_W_600 : decode code 600 = .ok (.iconst 1, 1) := by decide +kernel
theorem d_W_601 : decode code 601 = .ok (.iadd, 1) := by decide +kernel
theorem d_W_602 : decode code 602 = .ok (.iaload, 1) := by decide +kernel
theorem d_W_603 : decode code 603 = .ok (.aload_n 0, 1) := by decide +kernel
theorem d_W_604 : decode code 604 = .ok (.iload_n 3, 1) := by decide +kernel
theorem d_W_605 : decode code 605 = .ok (.iconst 2, 1) := by decide +kernel
theorem d_W_606 : decode code 606 = .ok (.iadd, 1) := by decide +kernel
theorem d_W_607 : decode code 607 = .ok (.iaload, 1) := by decide +kernel
theorem d_W_608 : decode code 608 = .ok (.invokevirtual 85, 3) := by decide +kernel
theorem d_W_611 : decode code 611 = .ok (.aload_n 2, 1) := by decide +kernel
theorem d_W_612 : decode code 612 = .ok (.aload_n 0, 1) := by decide +kernel
theorem d_W_613 : decode code 613 = .ok (.iload_n 3, 1) := by decide +kernel
theorem d_W_614 : decode code 614 = .ok (.iconst 1, 1) := by decide +kernel
theorem d_W_615 : decode code 615 = .ok (.iadd, 1) := by decide +kernel
theorem d_W_616 : decode code 616 = .ok (.iaload, 1) := by decide +kernel
theorem d_W_617 : decode code 617 = .ok (.aload_n 0, 1) := by decide +kernel
theorem d_W_618 : decode code 618 = .ok (.iload_n 3, 1) := by decide +kernel
theorem d_W_619 : decode code 619 = .ok (.iconst 2, 1) := by decide +kernel
theorem d_W_620 : decode code 620 = .ok (.iadd, 1) := by decide +kernel
theorem d_W_621 : decode code 621 = .ok (.iaload, 1) := by decide +kernel
theorem d_W_622 : decode code 622 = .ok (.invokevirtual 88, 3) := by decide +kernel
theorem d_W_625 : decode code 625 = .ok (.if_icmp .eq 5, 3) := by decide +kernel
theorem d_W_628 : decode code 628 = .ok (.iconst 0, 1) := by decide +kernel
theorem d_W_629 : decode code 629 = .ok (.ireturn, 1) := by decide +kernel
theorem d_W_630 : decode code 630 = .ok (.iinc 3 5, 3) := by decide +kernel
theorem d_W_633 : decode code 633 = .ok (.goto (-615), 3) := by decide +kernel
theorem d_W_636 : decode code 636 = .ok (.iconst 1, 1) := by decide +kernel
theorem d_W_637 : decode code 637 = .ok (.ireturn, 1) := by decide +kernel
