theorem dL_522 : decode code 522 = .ok (.iconst 0, 1) := by decide +kernel
theorem dL_523 : decode code 523 = .ok (.ireturn, 1) := by decide +kernel
theorem dL_524 : decode code 524 = .ok (.aload_n 1, 1) := by decide +kernel
theorem dL_525 : decode code 525 = .ok (.aload_n 0, 1) := by decide +kernel
theorem dL_526 : decode code 526 = .ok (.iload 4, 2) := by decide +kernel
theorem dL_528 : decode code 528 = .ok (.iconst 1, 1) := by decide +kernel
theorem dL_529 : decode code 529 = .ok (.iadd, 1) := by decide +kernel
theorem dL_530 : decode code 530 = .ok (.iaload, 1) := by decide +kernel
theorem dL_531 : decode code 531 = .ok (.invokevirtual 85, 3) := by decide +kernel
theorem dL_534 : decode code 534 = .ok (.aload_n 2, 1) := by decide +kernel
theorem dL_535 : decode code 535 = .ok (.aload_n 0, 1) := by decide +kernel
theorem dL_536 : decode code 536 = .ok (.iload 4, 2) := by decide +kernel
theorem dL_538 : decode code 538 = .ok (.iconst 1, 1) := by decide +kernel
theorem dL_539 : decode code 539 = .ok (.iadd, 1) := by decide +kernel
theorem dL_540 : decode code 540 = .ok (.iaload, 1) := by decide +kernel
theorem dL_541 : decode code 541 = .ok (.invokevirtual 88, 3) := by decide +kernel
theorem dL_544 : decode code 544 = .ok (.if_icmp .eq 69, 3) := by decide +kernel
theorem dL_547 : decode code 547 = .ok (.iconst 0, 1) := by decide +kernel
theorem dL_548 : decode code 548 = .ok (.ireturn, 1) := by decide +kernel
theorem dL_549 : decode code 549 = .ok (.aload_n 1, 1) := by decide +kernel
theorem dL_550 : decode code 550 = .ok (.aload_n 0, 1) := by decide +kernel
theorem dL_551 : decode code 551 = .ok (.iload 4, 2) := by decide +kernel
theorem dL_553 : decode code 553 = .ok (.iconst 1, 1) := by decide +kernel
theorem dL_554 : decode code 554 = .ok (.iadd, 1) := by decide +kernel
theorem dL_555 : decode code 555 = .ok (.iaload, 1) := by decide +kernel
theorem dL_556 : decode code 556 = .ok (.invokevirtual 89, 3) := by decide +kernel
theorem dL_559 : decode code 559 = .ok (.aload_n 2, 1) := by decide +kernel
theorem dL_560 : decode code 560 = .ok (.aload_n 0, 1) := by decide +kernel
theorem dL_561 : decode code 561 = .ok (.iload 4, 2) := by decide +kernel
theorem dL_563 : decode code 563 = .ok (.iconst 1, 1) := by decide +kernel
theorem dL_564 : decode code 564 = .ok (.iadd, 1) := by decide +kernel
theorem dL_565 : decode code 565 = .ok (.iaload, 1) := by decide +kernel
theorem dL_566 : decode code 566 = .ok (.invokevirtual 92, 3) := by decide +kernel
theorem dL_569 : decode code 569 = .ok (.if_icmp .eq 44, 3) := by decide +kernel
theorem dL_572 : decode code 572 = .ok (.iconst 0, 1) := by decide +kernel
theorem dL_573 : decode code 573 = .ok (.ireturn, 1) := by decide +kernel
theorem dL_574 : decode code 574 = .ok (.aload_n 1, 1) := by decide +kernel
theorem dL_575 : decode code 575 = .ok (.invokevirtual 93, 3) := by decide +kernel
theorem dL_578 : decode code 578 = .ok (.aload_n 2, 1) := by decide +kernel
theorem dL_579 : decode code 579 = .ok (.invokevirtual 96, 3) := by decide +kernel
theorem dL_582 : decode code 582 = .ok (.if_icmp .eq 31, 3) := by decide +kernel
theorem dL_585 : decode code 585 = .ok (.iconst 0, 1) := by decide +kernel
theorem dL_586 : decode code 586 = .ok (.ireturn, 1) := by decide +kernel
theorem dL_587 : decode code 587 = .ok (.aload_n 1, 1) := by decide +kernel
theorem dL_588 : decode code 588 = .ok (.aload_n 0, 1) := by decide +kernel
theorem dL_589 : decode code 589 = .ok (.iload 4, 2) := by decide +kernel
theorem dL_591 : decode code 591 = .ok (.iconst 1, 1) := by decide +kernel
theorem dL_592 : decode code 592 = .ok (.iadd, 1) := by decide +kernel
theorem dL_593 : decode code 593 = .ok (.iaload, 1) := by decide +kernel
theorem dL_594 : decode code 594 = .ok (.invokevirtual 97, 3) := by decide +kernel
theorem dL_597 : decode code 597 = .ok (.aload_n 2, 1) := by decide +kernel
theorem dL_598 : decode code 598 = .ok (.aload_n 0, 1) := by decide +kernel
theorem dL_599 : decode code 599 = .ok (.iload 4, 2) := by decide +kernel
theorem dL_601 : decode code 601 = .ok (.iconst 1, 1) := by decide +kernel
theorem dL_602 : decode code 602 = .ok (.iadd, 1) := by decide +kernel
theorem dL_603 : decode code 603 = .ok (.iaload, 1) := by decide +kernel
theorem dL_604 : decode code 604 = .ok (.invokevirtual 100, 3) := by decide +kernel
theorem dL_607 : decode code 607 = .ok (.lcmp, 1) := by decide +kernel
theorem dL_608 : decode code 608 = .ok (.ifCond .eq 5, 3) := by decide +kernel
theorem dL_611 : decode code 611 = .ok (.iconst 0, 1) := by decide +kernel
