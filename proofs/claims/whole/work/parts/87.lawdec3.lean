theorem d_W_346 : decode code 346 = .ok (.iaload, 1) := by decide +kernel
theorem d_W_347 : decode code 347 = .ok (.ifCond .eq 7, 3) := by decide +kernel
theorem d_W_350 : decode code 350 = .ok (.iconst 1, 1) := by decide +kernel
theorem d_W_351 : decode code 351 = .ok (.goto 4, 3) := by decide +kernel
theorem d_W_354 : decode code 354 = .ok (.iconst 0, 1) := by decide +kernel
theorem d_W_355 : decode code 355 = .ok (.aload_n 0, 1) := by decide +kernel
theorem d_W_356 : decode code 356 = .ok (.iload_n 3, 1) := by decide +kernel
theorem d_W_357 : decode code 357 = .ok (.iconst 2, 1) := by decide +kernel
theorem d_W_358 : decode code 358 = .ok (.iadd, 1) := by decide +kernel
theorem d_W_359 : decode code 359 = .ok (.iaload, 1) := by decide +kernel
theorem d_W_360 : decode code 360 = .ok (.ifCond .eq 7, 3) := by decide +kernel
theorem d_W_363 : decode code 363 = .ok (.iconst 1, 1) := by decide +kernel
theorem d_W_364 : decode code 364 = .ok (.goto 4, 3) := by decide +kernel
theorem d_W_367 : decode code 367 = .ok (.iconst 0, 1) := by decide +kernel
theorem d_W_368 : decode code 368 = .ok (.invokevirtual 40, 3) := by decide +kernel
theorem d_W_371 : decode code 371 = .ok (.if_icmp .eq 259, 3) := by decide +kernel
theorem d_W_374 : decode code 374 = .ok (.iconst 0, 1) := by decide +kernel
theorem d_W_375 : decode code 375 = .ok (.ireturn, 1) := by decide +kernel
theorem d_W_376 : decode code 376 = .ok (.aload_n 1, 1) := by decide +kernel
theorem d_W_377 : decode code 377 = .ok (.invokevirtual 41, 3) := by decide +kernel
theorem d_W_380 : decode code 380 = .ok (.aload_n 2, 1) := by decide +kernel
theorem d_W_381 : decode code 381 = .ok (.invokevirtual 45, 3) := by decide +kernel
theorem d_W_384 : decode code 384 = .ok (.if_icmp .eq 246, 3) := by decide +kernel
theorem d_W_387 : decode code 387 = .ok (.iconst 0, 1) := by decide +kernel
theorem d_W_388 : decode code 388 = .ok (.ireturn, 1) := by decide +kernel
theorem d_W_389 : decode code 389 = .ok (.aload_n 1, 1) := by decide +kernel
theorem d_W_390 : decode code 390 = .ok (.aload_n 0, 1) := by decide +kernel
theorem d_W_391 : decode code 391 = .ok (.iload_n 3, 1) := by decide +kernel
theorem d_W_392 : decode code 392 = .ok (.iconst 1, 1) := by decide +kernel
theorem d_W_393 : decode code 393 = .ok (.iadd, 1) := by decide +kernel
theorem d_W_394 : decode code 394 = .ok (.iaload, 1) := by decide +kernel
theorem d_W_395 : decode code 395 = .ok (.aload_n 0, 1) := by decide +kernel
theorem d_W_396 : decode code 396 = .ok (.iload_n 3, 1) := by decide +kernel
theorem d_W_397 : decode code 397 = .ok (.iconst 2, 1) := by decide +kernel
theorem d_W_398 : decode code 398 = .ok (.iadd, 1) := by decide +kernel
theorem d_W_399 : decode code 399 = .ok (.iaload, 1) := by decide +kernel
theorem d_W_400 : decode code 400 = .ok (.invokevirtual 46, 3) := by decide +kernel
theorem d_W_403 : decode code 403 = .ok (.aload_n 2, 1) := by decide +kernel
theorem d_W_404 : decode code 404 = .ok (.aload_n 0, 1) := by decide +kernel
theorem d_W_405 : decode code 405 = .ok (.iload_n 3, 1) := by decide +kernel
theorem d_W_406 : decode code 406 = .ok (.iconst 1, 1) := by decide +kernel
theorem d_W_407 : decode code 407 = .ok (.iadd, 1) := by decide +kernel
theorem d_W_408 : decode code 408 = .ok (.iaload, 1) := by decide +kernel
theorem d_W_409 : decode code 409 = .ok (.aload_n 0, 1) := by decide +kernel
theorem d_W_410 : decode code 410 = .ok (.iload_n 3, 1) := by decide +kernel
theorem d_W_411 : decode code 411 = .ok (.iconst 2, 1) := by decide +kernel
theorem d_W_412 : decode code 412 = .ok (.iadd, 1) := by decide +kernel
theorem d_W_413 : decode code 413 = .ok (.iaload, 1) := by decide +kernel
theorem d_W_414 : decode code 414 = .ok (.invokevirtual 49, 3) := by decide +kernel
theorem d_W_417 : decode code 417 = .ok (.if_icmp .eq 213, 3) := by decide +kernel
theorem d_W_420 : decode code 420 = .ok (.iconst 0, 1) := by decide +kernel
theorem d_W_421 : decode code 421 = .ok (.ireturn, 1) := by decide +kernel
theorem d_W_422 : decode code 422 = .ok (.aload_n 1, 1) := by decide +kernel
theorem d_W_423 : decode code 423 = .ok (.aload_n 0, 1) := by decide +kernel
theorem d_W_424 : decode code 424 = .ok (.iload_n 3, 1) := by decide +kernel
theorem d_W_425 : decode code 425 = .ok (.iconst 1, 1) := by decide +kernel
theorem d_W_426 : decode code 426 = .ok (.iadd, 1) := by decide +kernel
theorem d_W_427 : decode code 427 = .ok (.iaload, 1) := by decide +kernel
theorem d_W_428 : decode code 428 = .ok (.aload_n 0, 1) := by decide +kernel
theorem d_W_429 : decode code 429 = .ok (.iload_n 3, 1) := by decide +kernel
theorem d_W_430 : decode code 430 = .ok (.iconst 2, 1) := by decide +kernel
theorem d_W_431 : decode code 431 = .ok (.iadd, 1) := by decide +kernel
theorem d_W_432 : decode code 432 = .ok (.iaload, 1) := by decide +kernel
theorem d_W_433 : decode code 433 = .ok (.invokevirtual 50, 3) := by decide +kernel
theorem d_W_436 : decode code 436 = .ok (.aload_n 2, 1) := by decide +kernel
theorem d_W_437 : decode code 437 = .ok (.aload_n 0, 1) := by decide +kernel
theorem d_W_438 : decode code 438 = .ok (.iload_n 3, 1) := by decide +kernel
theorem d_W_439 : decode code 439 = .ok (.iconst 1, 1) := by decide +kernel
theorem d_W_440 : decode code 440 = .ok (.iadd, 1) := by decide +kernel
theorem d_W_441 : decode code 441 = .ok (.iaload, 1) := by decide +kernel
theorem d_W_442 : decode code 442 = .ok (.aload_n 0, 1) := by decide +kernel
theorem d_W_443 : decode code 443 = .ok (.iload_n 3, 1) := by decide +kernel
theorem d_W_444 : decode code 444 = .ok (.iconst 2, 1) := by decide +kernel
theorem d_W_445 : decode code 445 = .ok (.iadd, 1) := by decide +kernel
theorem d_W_446 : decode code 446 = .ok (.iaload, 1) := by decide +kernel
theorem d_W_447 : decode code 447 = .ok (.invokevirtual 53, 3) := by decide +kernel
theorem d_W_450 : decode code 450 = .ok (.if_icmp .eq 180, 3) := by decide +kernel
theorem d_W_453 : decode code 453 = .ok (.iconst 0, 1) := by decide +kernel
theorem d_W_454 : decode code 454 = .ok (.ireturn, 1) := by decide +kernel
theorem d_W_455 : decode code 455 = .ok (.aload_n 1, 1) := by decide +kernel
theorem d_W_456 : decode code 456 = .ok (.aload_n 0, 1) := by decide +kernel
theorem d_W_457 : decode code 457 = .ok (.iload_n 3, 1) := by decide +kernel
theorem d_W_458 : decode code 458 = .ok (.iconst 1, 1) := by decide +kernel
theorem d_W_459 : decode code 459 = .ok (.iadd, 1) := by decide +kernel
theorem d_W_460 : decode code 460 = .ok (.iaload, 1) := by decide +kernel
theorem d_W_461 : decode code 461 = .ok (.aload_n 0, 1) := by decide +kernel
theorem d_W_462 : decode code 462 = .ok (.iload_n 3, 1) := by decide +kernel
theorem d_W_463 : decode code 463 = .ok (.iconst 2, 1) := by decide +kernel
theorem d_W_464 : decode code 464 = .ok (.iadd, 1) := by decide +kernel
theorem d_W_465 : decode code 465 = .ok (.iaload, 1) := by decide +kernel
theorem d_W_466 : decode code 466 = .ok (.invokevirtual 54, 3) := by decide +kernel
theorem d_W_469 : decode code 469 = .ok (.aload_n 2, 1) := by decide +kernel
theorem d_W_470 : decode code 470 = .ok (.aload_n 0, 1) := by decide +kernel
theorem d_W_471 : decode code 471 = .ok (.iload_n 3, 1) := by decide +kernel
theorem d_W_472 : decode code 472 = .ok (.iconst 1, 1) := by decide +kernel
theorem d_W_473 : decode code 473 = .ok (.iadd, 1) := by decide +kernel
theorem d_W_474 : decode code 474 = .ok (.iaload, 1) := by decide +kernel
theorem d_W_475 : decode code 475 = .ok (.aload_n 0, 1) := by decide +kernel
theorem d_W_476 : decode code 476 = .ok (.iload_n 3, 1) := by decide +kernel
theorem d_W_477 : decode code 477 = .ok (.iconst 2, 1) := by decide +kernel
theorem d_W_478 : decode code 478 = .ok (.iadd, 1) := by decide +kernel
theorem d_W_479 : decode code 479 = .ok (.iaload, 1) := by decide +kernel
theorem d_W_480 : decode code 480 = .ok (.invokevirtual 58, 3) := by decide +kernel
theorem d_W_483 : decode code 483 = .ok (.if_icmp .eq 147, 3) := by decide +kernel
theorem d_W_486 : decode code 486 = .ok (.iconst 0, 1) := by decide +kernel
theorem d_W_487 : decode code 487 = .ok (.ireturn, 1) := by decide +kernel
