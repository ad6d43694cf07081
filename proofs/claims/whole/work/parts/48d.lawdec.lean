theorem dl_534 : decode code 534 = .ok (.invokevirtual 64, 3) := by decide +kernel
theorem dl_537 : decode code 537 = .ok (.if_icmp .eq 758, 3) := by decide +kernel
theorem dl_542 : decode code 542 = .ok (.aload_n 1, 1) := by decide +kernel
theorem dl_543 : decode code 543 = .ok (.aload_n 0, 1) := by decide +kernel
theorem dl_544 : decode code 544 = .ok (.iload_n 3, 1) := by decide +kernel
theorem dl_545 : decode code 545 = .ok (.iconst 1, 1) := by decide +kernel
theorem dl_546 : decode code 546 = .ok (.iadd, 1) := by decide +kernel
theorem dl_547 : decode code 547 = .ok (.iaload, 1) := by decide +kernel
theorem dl_548 : decode code 548 = .ok (.aload_n 0, 1) := by decide +kernel
theorem dl_549 : decode code 549 = .ok (.iload_n 3, 1) := by decide +kernel
theorem dl_550 : decode code 550 = .ok (.iconst 2, 1) := by decide +kernel
theorem dl_551 : decode code 551 = .ok (.iadd, 1) := by decide +kernel
theorem dl_552 : decode code 552 = .ok (.iaload, 1) := by decide +kernel
theorem dl_553 : decode code 553 = .ok (.invokevirtual 65, 3) := by decide +kernel
theorem dl_556 : decode code 556 = .ok (.aload_n 2, 1) := by decide +kernel
theorem dl_557 : decode code 557 = .ok (.aload_n 0, 1) := by decide +kernel
theorem dl_558 : decode code 558 = .ok (.iload_n 3, 1) := by decide +kernel
theorem dl_559 : decode code 559 = .ok (.iconst 1, 1) := by decide +kernel
theorem dl_560 : decode code 560 = .ok (.iadd, 1) := by decide +kernel
theorem dl_561 : decode code 561 = .ok (.iaload, 1) := by decide +kernel
theorem dl_562 : decode code 562 = .ok (.aload_n 0, 1) := by decide +kernel
theorem dl_563 : decode code 563 = .ok (.iload_n 3, 1) := by decide +kernel
theorem dl_564 : decode code 564 = .ok (.iconst 2, 1) := by decide +kernel
theorem dl_565 : decode code 565 = .ok (.iadd, 1) := by decide +kernel
theorem dl_566 : decode code 566 = .ok (.iaload, 1) := by decide +kernel
theorem dl_567 : decode code 567 = .ok (.invokevirtual 68, 3) := by decide +kernel
theorem dl_570 : decode code 570 = .ok (.if_icmp .eq 725, 3) := by decide +kernel
theorem dl_575 : decode code 575 = .ok (.aload_n 1, 1) := by decide +kernel
theorem dl_576 : decode code 576 = .ok (.aload_n 0, 1) := by decide +kernel
theorem dl_577 : decode code 577 = .ok (.iload_n 3, 1) := by decide +kernel
theorem dl_578 : decode code 578 = .ok (.iconst 1, 1) := by decide +kernel
theorem dl_579 : decode code 579 = .ok (.iadd, 1) := by decide +kernel
theorem dl_580 : decode code 580 = .ok (.iaload, 1) := by decide +kernel
theorem dl_581 : decode code 581 = .ok (.aload_n 0, 1) := by decide +kernel
theorem dl_582 : decode code 582 = .ok (.iload_n 3, 1) := by decide +kernel
theorem dl_583 : decode code 583 = .ok (.iconst 2, 1) := by decide +kernel
theorem dl_584 : decode code 584 = .ok (.iadd, 1) := by decide +kernel
theorem dl_585 : decode code 585 = .ok (.iaload, 1) := by decide +kernel
theorem dl_586 : decode code 586 = .ok (.invokevirtual 69, 3) := by decide +kernel
theorem dl_589 : decode code 589 = .ok (.aload_n 2, 1) := by decide +kernel
theorem dl_590 : decode code 590 = .ok (.aload_n 0, 1) := by decide +kernel
theorem dl_591 : decode code 591 = .ok (.iload_n 3, 1) := by decide +kernel
theorem dl_592 : decode code 592 = .ok (.iconst 1, 1) := by decide +kernel
theorem dl_593 : decode code 593 = .ok (.iadd, 1) := by decide +kernel
theorem dl_594 : decode code 594 = .ok (.iaload, 1) := by decide +kernel
theorem dl_595 : decode code 595 = .ok (.aload_n 0, 1) := by decide +kernel
theorem dl_596 : decode code 596 = .ok (.iload_n 3, 1) := by decide +kernel
theorem dl_597 : decode code 597 = .ok (.iconst 2, 1) := by decide +kernel
theorem dl_598 : decode code 598 = .ok (.iadd, 1) := by decide +kernel
theorem dl_599 : decode code 599 = .ok (.iaload, 1) := by decide +kernel
theorem dl_600 : decode code 600 = .ok (.invokevirtual 72, 3) := by decide +kernel
theorem dl_603 : decode code 603 = .ok (.if_icmp .eq 692, 3) := by decide +kernel
theorem dl_608 : decode code 608 = .ok (.aload_n 1, 1) := by decide +kernel
theorem dl_609 : decode code 609 = .ok (.aload_n 0, 1) := by decide +kernel
theorem dl_610 : decode code 610 = .ok (.iload_n 3, 1) := by decide +kernel
theorem dl_611 : decode code 611 = .ok (.iconst 1, 1) := by decide +kernel
theorem dl_612 : decode code 612 = .ok (.iadd, 1) := by decide +kernel
theorem dl_613 : decode code 613 = .ok (.iaload, 1) := by decide +kernel
theorem dl_614 : decode code 614 = .ok (.invokevirtual 73, 3) := by decide +kernel
theorem dl_617 : decode code 617 = .ok (.aload_n 2, 1) := by decide +kernel
theorem dl_618 : decode code 618 = .ok (.aload_n 0, 1) := by decide +kernel
theorem dl_619 : decode code 619 = .ok (.iload_n 3, 1) := by decide +kernel
theorem dl_620 : decode code 620 = .ok (.iconst 1, 1) := by decide +kernel
theorem dl_621 : decode code 621 = .ok (.iadd, 1) := by decide +kernel
theorem dl_622 : decode code 622 = .ok (.iaload, 1) := by decide +kernel
theorem dl_623 : decode code 623 = .ok (.invokevirtual 76, 3) := by decide +kernel
theorem dl_626 : decode code 626 = .ok (.if_icmp .eq 669, 3) := by decide +kernel
theorem dl_631 : decode code 631 = .ok (.aload_n 1, 1) := by decide +kernel
theorem dl_632 : decode code 632 = .ok (.aload_n 0, 1) := by decide +kernel
theorem dl_633 : decode code 633 = .ok (.iload_n 3, 1) := by decide +kernel
theorem dl_634 : decode code 634 = .ok (.iconst 1, 1) := by decide +kernel
theorem dl_635 : decode code 635 = .ok (.iadd, 1) := by decide +kernel
theorem dl_636 : decode code 636 = .ok (.iaload, 1) := by decide +kernel
theorem dl_637 : decode code 637 = .ok (.invokevirtual 77, 3) := by decide +kernel
theorem dl_640 : decode code 640 = .ok (.aload_n 2, 1) := by decide +kernel
theorem dl_641 : decode code 641 = .ok (.aload_n 0, 1) := by decide +kernel
theorem dl_642 : decode code 642 = .ok (.iload_n 3, 1) := by decide +kernel
theorem dl_643 : decode code 643 = .ok (.iconst 1, 1) := by decide +kernel
theorem dl_644 : decode code 644 = .ok (.iadd, 1) := by decide +kernel
theorem dl_645 : decode code 645 = .ok (.iaload, 1) := by decide +kernel
theorem dl_646 : decode code 646 = .ok (.invokevirtual 80, 3) := by decide +kernel
theorem dl_649 : decode code 649 = .ok (.if_icmp .eq 646, 3) := by decide +kernel
theorem dl_654 : decode code 654 = .ok (.aload_n 1, 1) := by decide +kernel
theorem dl_655 : decode code 655 = .ok (.aload_n 0, 1) := by decide +kernel
theorem dl_656 : decode code 656 = .ok (.iload_n 3, 1) := by decide +kernel
theorem dl_657 : decode code 657 = .ok (.iconst 1, 1) := by decide +kernel
theorem dl_658 : decode code 658 = .ok (.iadd, 1) := by decide +kernel
theorem dl_659 : decode code 659 = .ok (.iaload, 1) := by decide +kernel
theorem dl_660 : decode code 660 = .ok (.invokevirtual 81, 3) := by decide +kernel
theorem dl_663 : decode code 663 = .ok (.aload_n 2, 1) := by decide +kernel
