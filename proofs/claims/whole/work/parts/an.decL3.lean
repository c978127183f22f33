theorem dL_348 : decode code 348 = .ok (.iconst 1, 1) := by decide +kernel
theorem dL_349 : decode code 349 = .ok (.iadd, 1) := by decide +kernel
theorem dL_350 : decode code 350 = .ok (.iaload, 1) := by decide +kernel
theorem dL_351 : decode code 351 = .ok (.invokevirtual 59, 3) := by decide +kernel
theorem dL_354 : decode code 354 = .ok (.lcmp, 1) := by decide +kernel
theorem dL_355 : decode code 355 = .ok (.ifCond .eq 258, 3) := by decide +kernel
theorem dL_358 : decode code 358 = .ok (.iconst 0, 1) := by decide +kernel
theorem dL_359 : decode code 359 = .ok (.ireturn, 1) := by decide +kernel
theorem dL_360 : decode code 360 = .ok (.aload_n 1, 1) := by decide +kernel
theorem dL_361 : decode code 361 = .ok (.aload_n 0, 1) := by decide +kernel
theorem dL_362 : decode code 362 = .ok (.iload 4, 2) := by decide +kernel
theorem dL_364 : decode code 364 = .ok (.iconst 1, 1) := by decide +kernel
theorem dL_365 : decode code 365 = .ok (.iadd, 1) := by decide +kernel
theorem dL_366 : decode code 366 = .ok (.iaload, 1) := by decide +kernel
theorem dL_367 : decode code 367 = .ok (.aload_n 0, 1) := by decide +kernel
theorem dL_368 : decode code 368 = .ok (.iload 4, 2) := by decide +kernel
theorem dL_370 : decode code 370 = .ok (.iconst 2, 1) := by decide +kernel
theorem dL_371 : decode code 371 = .ok (.iadd, 1) := by decide +kernel
theorem dL_372 : decode code 372 = .ok (.iaload, 1) := by decide +kernel
theorem dL_373 : decode code 373 = .ok (.invokevirtual 60, 3) := by decide +kernel
theorem dL_376 : decode code 376 = .ok (.aload_n 2, 1) := by decide +kernel
theorem dL_377 : decode code 377 = .ok (.aload_n 0, 1) := by decide +kernel
theorem dL_378 : decode code 378 = .ok (.iload 4, 2) := by decide +kernel
theorem dL_380 : decode code 380 = .ok (.iconst 1, 1) := by decide +kernel
theorem dL_381 : decode code 381 = .ok (.iadd, 1) := by decide +kernel
theorem dL_382 : decode code 382 = .ok (.iaload, 1) := by decide +kernel
theorem dL_383 : decode code 383 = .ok (.aload_n 0, 1) := by decide +kernel
theorem dL_384 : decode code 384 = .ok (.iload 4, 2) := by decide +kernel
theorem dL_386 : decode code 386 = .ok (.iconst 2, 1) := by decide +kernel
theorem dL_387 : decode code 387 = .ok (.iadd, 1) := by decide +kernel
theorem dL_388 : decode code 388 = .ok (.iaload, 1) := by decide +kernel
theorem dL_389 : decode code 389 = .ok (.invokevirtual 63, 3) := by decide +kernel
theorem dL_392 : decode code 392 = .ok (.if_icmp .eq 221, 3) := by decide +kernel
theorem dL_395 : decode code 395 = .ok (.iconst 0, 1) := by decide +kernel
theorem dL_396 : decode code 396 = .ok (.ireturn, 1) := by decide +kernel
theorem dL_397 : decode code 397 = .ok (.aload_n 1, 1) := by decide +kernel
theorem dL_398 : decode code 398 = .ok (.aload_n 0, 1) := by decide +kernel
theorem dL_399 : decode code 399 = .ok (.iload 4, 2) := by decide +kernel
theorem dL_401 : decode code 401 = .ok (.iconst 1, 1) := by decide +kernel
theorem dL_402 : decode code 402 = .ok (.iadd, 1) := by decide +kernel
theorem dL_403 : decode code 403 = .ok (.iaload, 1) := by decide +kernel
theorem dL_404 : decode code 404 = .ok (.aload_n 0, 1) := by decide +kernel
theorem dL_405 : decode code 405 = .ok (.iload 4, 2) := by decide +kernel
theorem dL_407 : decode code 407 = .ok (.iconst 2, 1) := by decide +kernel
theorem dL_408 : decode code 408 = .ok (.iadd, 1) := by decide +kernel
theorem dL_409 : decode code 409 = .ok (.iaload, 1) := by decide +kernel
theorem dL_410 : decode code 410 = .ok (.invokevirtual 64, 3) := by decide +kernel
theorem dL_413 : decode code 413 = .ok (.aload_n 2, 1) := by decide +kernel
theorem dL_414 : decode code 414 = .ok (.aload_n 0, 1) := by decide +kernel
theorem dL_415 : decode code 415 = .ok (.iload 4, 2) := by decide +kernel
theorem dL_417 : decode code 417 = .ok (.iconst 1, 1) := by decide +kernel
theorem dL_418 : decode code 418 = .ok (.iadd, 1) := by decide +kernel
theorem dL_419 : decode code 419 = .ok (.iaload, 1) := by decide +kernel
theorem dL_420 : decode code 420 = .ok (.aload_n 0, 1) := by decide +kernel
theorem dL_421 : decode code 421 = .ok (.iload 4, 2) := by decide +kernel
theorem dL_423 : decode code 423 = .ok (.iconst 2, 1) := by decide +kernel
theorem dL_424 : decode code 424 = .ok (.iadd, 1) := by decide +kernel
theorem dL_425 : decode code 425 = .ok (.iaload, 1) := by decide +kernel
theorem dL_426 : decode code 426 = .ok (.invokevirtual 67, 3) := by decide +kernel
theorem dL_429 : decode code 429 = .ok (.if_icmp .eq 184, 3) := by decide +kernel
