theorem dL_432 : decode code 432 = .ok (.iconst 0, 1) := by decide +kernel
theorem dL_433 : decode code 433 = .ok (.ireturn, 1) := by decide +kernel
theorem dL_434 : decode code 434 = .ok (.aload_n 1, 1) := by decide +kernel
theorem dL_435 : decode code 435 = .ok (.aload_n 0, 1) := by decide +kernel
theorem dL_436 : decode code 436 = .ok (.iload 4, 2) := by decide +kernel
theorem dL_438 : decode code 438 = .ok (.iconst 1, 1) := by decide +kernel
theorem dL_439 : decode code 439 = .ok (.iadd, 1) := by decide +kernel
theorem dL_440 : decode code 440 = .ok (.iaload, 1) := by decide +kernel
theorem dL_441 : decode code 441 = .ok (.invokevirtual 68, 3) := by decide +kernel
theorem dL_444 : decode code 444 = .ok (.aload_n 2, 1) := by decide +kernel
theorem dL_445 : decode code 445 = .ok (.aload_n 0, 1) := by decide +kernel
theorem dL_446 : decode code 446 = .ok (.iload 4, 2) := by decide +kernel
theorem dL_448 : decode code 448 = .ok (.iconst 1, 1) := by decide +kernel
theorem dL_449 : decode code 449 = .ok (.iadd, 1) := by decide +kernel
theorem dL_450 : decode code 450 = .ok (.iaload, 1) := by decide +kernel
theorem dL_451 : decode code 451 = .ok (.invokevirtual 71, 3) := by decide +kernel
theorem dL_454 : decode code 454 = .ok (.if_icmp .eq 159, 3) := by decide +kernel
theorem dL_457 : decode code 457 = .ok (.iconst 0, 1) := by decide +kernel
theorem dL_458 : decode code 458 = .ok (.ireturn, 1) := by decide +kernel
theorem dL_459 : decode code 459 = .ok (.aload_n 1, 1) := by decide +kernel
theorem dL_460 : decode code 460 = .ok (.aload_n 0, 1) := by decide +kernel
theorem dL_461 : decode code 461 = .ok (.iload 4, 2) := by decide +kernel
theorem dL_463 : decode code 463 = .ok (.iconst 1, 1) := by decide +kernel
theorem dL_464 : decode code 464 = .ok (.iadd, 1) := by decide +kernel
theorem dL_465 : decode code 465 = .ok (.iaload, 1) := by decide +kernel
theorem dL_466 : decode code 466 = .ok (.invokevirtual 72, 3) := by decide +kernel
theorem dL_469 : decode code 469 = .ok (.aload_n 2, 1) := by decide +kernel
theorem dL_470 : decode code 470 = .ok (.aload_n 0, 1) := by decide +kernel
theorem dL_471 : decode code 471 = .ok (.iload 4, 2) := by decide +kernel
theorem dL_473 : decode code 473 = .ok (.iconst 1, 1) := by decide +kernel
theorem dL_474 : decode code 474 = .ok (.iadd, 1) := by decide +kernel
theorem dL_475 : decode code 475 = .ok (.iaload, 1) := by decide +kernel
theorem dL_476 : decode code 476 = .ok (.invokevirtual 75, 3) := by decide +kernel
theorem dL_479 : decode code 479 = .ok (.if_icmp .eq 134, 3) := by decide +kernel
theorem dL_482 : decode code 482 = .ok (.iconst 0, 1) := by decide +kernel
theorem dL_483 : decode code 483 = .ok (.ireturn, 1) := by decide +kernel
theorem dL_484 : decode code 484 = .ok (.aload_n 1, 1) := by decide +kernel
theorem dL_485 : decode code 485 = .ok (.invokevirtual 76, 3) := by decide +kernel
theorem dL_488 : decode code 488 = .ok (.aload_n 2, 1) := by decide +kernel
theorem dL_489 : decode code 489 = .ok (.invokevirtual 80, 3) := by decide +kernel
theorem dL_492 : decode code 492 = .ok (.lcmp, 1) := by decide +kernel
theorem dL_493 : decode code 493 = .ok (.ifCond .eq 120, 3) := by decide +kernel
theorem dL_496 : decode code 496 = .ok (.iconst 0, 1) := by decide +kernel
theorem dL_497 : decode code 497 = .ok (.ireturn, 1) := by decide +kernel
theorem dL_498 : decode code 498 = .ok (.aload_n 1, 1) := by decide +kernel
theorem dL_499 : decode code 499 = .ok (.aload_n 0, 1) := by decide +kernel
theorem dL_500 : decode code 500 = .ok (.iload 4, 2) := by decide +kernel
theorem dL_502 : decode code 502 = .ok (.iconst 1, 1) := by decide +kernel
theorem dL_503 : decode code 503 = .ok (.iadd, 1) := by decide +kernel
theorem dL_504 : decode code 504 = .ok (.iaload, 1) := by decide +kernel
theorem dL_505 : decode code 505 = .ok (.invokevirtual 81, 3) := by decide +kernel
theorem dL_508 : decode code 508 = .ok (.aload_n 2, 1) := by decide +kernel
theorem dL_509 : decode code 509 = .ok (.aload_n 0, 1) := by decide +kernel
theorem dL_510 : decode code 510 = .ok (.iload 4, 2) := by decide +kernel
theorem dL_512 : decode code 512 = .ok (.iconst 1, 1) := by decide +kernel
theorem dL_513 : decode code 513 = .ok (.iadd, 1) := by decide +kernel
theorem dL_514 : decode code 514 = .ok (.iaload, 1) := by decide +kernel
theorem dL_515 : decode code 515 = .ok (.invokevirtual 84, 3) := by decide +kernel
theorem dL_518 : decode code 518 = .ok (.lcmp, 1) := by decide +kernel
theorem dL_519 : decode code 519 = .ok (.ifCond .eq 94, 3) := by decide +kernel
