theorem dl_404 : decode code 404 = .ok (.aload_n 0, 1) := by decide +kernel
theorem dl_405 : decode code 405 = .ok (.iload_n 3, 1) := by decide +kernel
theorem dl_406 : decode code 406 = .ok (.iconst 1, 1) := by decide +kernel
theorem dl_407 : decode code 407 = .ok (.iadd, 1) := by decide +kernel
theorem dl_408 : decode code 408 = .ok (.iaload, 1) := by decide +kernel
theorem dl_409 : decode code 409 = .ok (.invokevirtual 43, 3) := by decide +kernel
theorem dl_412 : decode code 412 = .ok (.if_icmp .eq 883, 3) := by decide +kernel
theorem dl_417 : decode code 417 = .ok (.aload_n 1, 1) := by decide +kernel
theorem dl_418 : decode code 418 = .ok (.aload_n 0, 1) := by decide +kernel
theorem dl_419 : decode code 419 = .ok (.iload_n 3, 1) := by decide +kernel
theorem dl_420 : decode code 420 = .ok (.iconst 1, 1) := by decide +kernel
theorem dl_421 : decode code 421 = .ok (.iadd, 1) := by decide +kernel
theorem dl_422 : decode code 422 = .ok (.iaload, 1) := by decide +kernel
theorem dl_423 : decode code 423 = .ok (.invokevirtual 44, 3) := by decide +kernel
theorem dl_426 : decode code 426 = .ok (.aload_n 2, 1) := by decide +kernel
theorem dl_427 : decode code 427 = .ok (.aload_n 0, 1) := by decide +kernel
theorem dl_428 : decode code 428 = .ok (.iload_n 3, 1) := by decide +kernel
theorem dl_429 : decode code 429 = .ok (.iconst 1, 1) := by decide +kernel
theorem dl_430 : decode code 430 = .ok (.iadd, 1) := by decide +kernel
theorem dl_431 : decode code 431 = .ok (.iaload, 1) := by decide +kernel
theorem dl_432 : decode code 432 = .ok (.invokevirtual 47, 3) := by decide +kernel
theorem dl_435 : decode code 435 = .ok (.if_icmp .eq 860, 3) := by decide +kernel
theorem dl_440 : decode code 440 = .ok (.aload_n 1, 1) := by decide +kernel
theorem dl_441 : decode code 441 = .ok (.aload_n 0, 1) := by decide +kernel
theorem dl_442 : decode code 442 = .ok (.iload_n 3, 1) := by decide +kernel
theorem dl_443 : decode code 443 = .ok (.iconst 1, 1) := by decide +kernel
theorem dl_444 : decode code 444 = .ok (.iadd, 1) := by decide +kernel
theorem dl_445 : decode code 445 = .ok (.iaload, 1) := by decide +kernel
theorem dl_446 : decode code 446 = .ok (.aload_n 0, 1) := by decide +kernel
theorem dl_447 : decode code 447 = .ok (.iload_n 3, 1) := by decide +kernel
theorem dl_448 : decode code 448 = .ok (.iconst 2, 1) := by decide +kernel
theorem dl_449 : decode code 449 = .ok (.iadd, 1) := by decide +kernel
theorem dl_450 : decode code 450 = .ok (.iaload, 1) := by decide +kernel
theorem dl_451 : decode code 451 = .ok (.invokevirtual 48, 3) := by decide +kernel
theorem dl_454 : decode code 454 = .ok (.aload_n 2, 1) := by decide +kernel
theorem dl_455 : decode code 455 = .ok (.aload_n 0, 1) := by decide +kernel
theorem dl_456 : decode code 456 = .ok (.iload_n 3, 1) := by decide +kernel
theorem dl_457 : decode code 457 = .ok (.iconst 1, 1) := by decide +kernel
theorem dl_458 : decode code 458 = .ok (.iadd, 1) := by decide +kernel
theorem dl_459 : decode code 459 = .ok (.iaload, 1) := by decide +kernel
theorem dl_460 : decode code 460 = .ok (.aload_n 0, 1) := by decide +kernel
theorem dl_461 : decode code 461 = .ok (.iload_n 3, 1) := by decide +kernel
theorem dl_462 : decode code 462 = .ok (.iconst 2, 1) := by decide +kernel
theorem dl_463 : decode code 463 = .ok (.iadd, 1) := by decide +kernel
theorem dl_464 : decode code 464 = .ok (.iaload, 1) := by decide +kernel
theorem dl_465 : decode code 465 = .ok (.invokevirtual 51, 3) := by decide +kernel
theorem dl_468 : decode code 468 = .ok (.if_icmp .eq 827, 3) := by decide +kernel
theorem dl_473 : decode code 473 = .ok (.aload_n 1, 1) := by decide +kernel
theorem dl_474 : decode code 474 = .ok (.aload_n 0, 1) := by decide +kernel
theorem dl_475 : decode code 475 = .ok (.iload_n 3, 1) := by decide +kernel
theorem dl_476 : decode code 476 = .ok (.iconst 1, 1) := by decide +kernel
theorem dl_477 : decode code 477 = .ok (.iadd, 1) := by decide +kernel
theorem dl_478 : decode code 478 = .ok (.iaload, 1) := by decide +kernel
theorem dl_479 : decode code 479 = .ok (.aload_n 0, 1) := by decide +kernel
theorem dl_480 : decode code 480 = .ok (.iload_n 3, 1) := by decide +kernel
theorem dl_481 : decode code 481 = .ok (.iconst 2, 1) := by decide +kernel
theorem dl_482 : decode code 482 = .ok (.iadd, 1) := by decide +kernel
theorem dl_483 : decode code 483 = .ok (.iaload, 1) := by decide +kernel
theorem dl_484 : decode code 484 = .ok (.invokevirtual 52, 3) := by decide +kernel
theorem dl_487 : decode code 487 = .ok (.aload_n 2, 1) := by decide +kernel
theorem dl_488 : decode code 488 = .ok (.aload_n 0, 1) := by decide +kernel
theorem dl_489 : decode code 489 = .ok (.iload_n 3, 1) := by decide +kernel
theorem dl_490 : decode code 490 = .ok (.iconst 1, 1) := by decide +kernel
theorem dl_491 : decode code 491 = .ok (.iadd, 1) := by decide +kernel
theorem dl_492 : decode code 492 = .ok (.iaload, 1) := by decide +kernel
theorem dl_493 : decode code 493 = .ok (.aload_n 0, 1) := by decide +kernel
theorem dl_494 : decode code 494 = .ok (.iload_n 3, 1) := by decide +kernel
theorem dl_495 : decode code 495 = .ok (.iconst 2, 1) := by decide +kernel
theorem dl_496 : decode code 496 = .ok (.iadd, 1) := by decide +kernel
theorem dl_497 : decode code 497 = .ok (.iaload, 1) := by decide +kernel
theorem dl_498 : decode code 498 = .ok (.invokevirtual 55, 3) := by decide +kernel
theorem dl_501 : decode code 501 = .ok (.if_icmp .eq 794, 3) := by decide +kernel
theorem dl_506 : decode code 506 = .ok (.aload_n 1, 1) := by decide +kernel
theorem dl_507 : decode code 507 = .ok (.invokevirtual 56, 3) := by decide +kernel
theorem dl_510 : decode code 510 = .ok (.aload_n 2, 1) := by decide +kernel
theorem dl_511 : decode code 511 = .ok (.invokevirtual 60, 3) := by decide +kernel
theorem dl_514 : decode code 514 = .ok (.if_icmp .eq 781, 3) := by decide +kernel
theorem dl_519 : decode code 519 = .ok (.aload_n 1, 1) := by decide +kernel
theorem dl_520 : decode code 520 = .ok (.aload_n 0, 1) := by decide +kernel
theorem dl_521 : decode code 521 = .ok (.iload_n 3, 1) := by decide +kernel
theorem dl_522 : decode code 522 = .ok (.iconst 1, 1) := by decide +kernel
theorem dl_523 : decode code 523 = .ok (.iadd, 1) := by decide +kernel
theorem dl_524 : decode code 524 = .ok (.iaload, 1) := by decide +kernel
theorem dl_525 : decode code 525 = .ok (.invokevirtual 61, 3) := by decide +kernel
theorem dl_528 : decode code 528 = .ok (.aload_n 2, 1) := by decide +kernel
theorem dl_529 : decode code 529 = .ok (.aload_n 0, 1) := by decide +kernel
theorem dl_530 : decode code 530 = .ok (.iload_n 3, 1) := by decide +kernel
theorem dl_531 : decode code 531 = .ok (.iconst 1, 1) := by decide +kernel
theorem dl_532 : decode code 532 = .ok (.iadd, 1) := by decide +kernel
theorem dl_533 : decode code 533 = .ok (.iaload, 1) := by decide +kernel
