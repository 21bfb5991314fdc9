theorem dL_law_327 : decode cL_law 327 = .ok (.iload 15, 2) := by decide +kernel
theorem dL_law_329 : decode cL_law 329 = .ok (.iconst 5, 1) := by decide +kernel
theorem dL_law_330 : decode cL_law 330 = .ok (.if_icmp .ne 16, 3) := by decide +kernel
theorem dL_law_333 : decode cL_law 333 = .ok (.aload_n 1, 1) := by decide +kernel
theorem dL_law_334 : decode cL_law 334 = .ok (.iload 10, 2) := by decide +kernel
theorem dL_law_336 : decode cL_law 336 = .ok (.aload_n 1, 1) := by decide +kernel
theorem dL_law_337 : decode cL_law 337 = .ok (.iconst 0, 1) := by decide +kernel
theorem dL_law_338 : decode cL_law 338 = .ok (.invokevirtual 25, 3) := by decide +kernel
theorem dL_law_341 : decode cL_law 341 = .ok (.invokevirtual 29, 3) := by decide +kernel
theorem dL_law_344 : decode cL_law 344 = .ok (.istore 10, 2) := by decide +kernel
theorem dL_law_346 : decode cL_law 346 = .ok (.iload 15, 2) := by decide +kernel
theorem dL_law_348 : decode cL_law 348 = .ok (.bipush 9, 2) := by decide +kernel
theorem dL_law_350 : decode cL_law 350 = .ok (.if_icmp .ne 16, 3) := by decide +kernel
theorem dL_law_353 : decode cL_law 353 = .ok (.aload_n 1, 1) := by decide +kernel
theorem dL_law_354 : decode cL_law 354 = .ok (.iload 9, 2) := by decide +kernel
theorem dL_law_356 : decode cL_law 356 = .ok (.aload_n 1, 1) := by decide +kernel
theorem dL_law_357 : decode cL_law 357 = .ok (.iconst 0, 1) := by decide +kernel
theorem dL_law_358 : decode cL_law 358 = .ok (.invokevirtual 25, 3) := by decide +kernel
theorem dL_law_361 : decode cL_law 361 = .ok (.invokevirtual 77, 3) := by decide +kernel
theorem dL_law_364 : decode cL_law 364 = .ok (.istore 9, 2) := by decide +kernel
theorem dL_law_366 : decode cL_law 366 = .ok (.iload 15, 2) := by decide +kernel
theorem dL_law_368 : decode cL_law 368 = .ok (.ifCond .ne 14, 3) := by decide +kernel
theorem dL_law_371 : decode cL_law 371 = .ok (.aload_n 1, 1) := by decide +kernel
theorem dL_law_372 : decode cL_law 372 = .ok (.iload 9, 2) := by decide +kernel
theorem dL_law_374 : decode cL_law 374 = .ok (.iload 10, 2) := by decide +kernel
theorem dL_law_376 : decode cL_law 376 = .ok (.invokevirtual 29, 3) := by decide +kernel
theorem dL_law_379 : decode cL_law 379 = .ok (.goto 72, 3) := by decide +kernel
theorem dL_law_382 : decode cL_law 382 = .ok (.iload 15, 2) := by decide +kernel
theorem dL_law_384 : decode cL_law 384 = .ok (.iconst 1, 1) := by decide +kernel
theorem dL_law_385 : decode cL_law 385 = .ok (.if_icmp .ne 14, 3) := by decide +kernel
theorem dL_law_388 : decode cL_law 388 = .ok (.aload_n 1, 1) := by decide +kernel
theorem dL_law_389 : decode cL_law 389 = .ok (.iload 9, 2) := by decide +kernel
theorem dL_law_391 : decode cL_law 391 = .ok (.iload 10, 2) := by decide +kernel
theorem dL_law_393 : decode cL_law 393 = .ok (.invokevirtual 77, 3) := by decide +kernel
theorem dL_law_396 : decode cL_law 396 = .ok (.goto 55, 3) := by decide +kernel
theorem dL_law_399 : decode cL_law 399 = .ok (.iload 15, 2) := by decide +kernel
theorem dL_law_401 : decode cL_law 401 = .ok (.iconst 2, 1) := by decide +kernel
theorem dL_law_402 : decode cL_law 402 = .ok (.if_icmp .ne 14, 3) := by decide +kernel
theorem dL_law_405 : decode cL_law 405 = .ok (.aload_n 1, 1) := by decide +kernel
theorem dL_law_406 : decode cL_law 406 = .ok (.iload 9, 2) := by decide +kernel
theorem dL_law_408 : decode cL_law 408 = .ok (.iload 10, 2) := by decide +kernel
theorem dL_law_410 : decode cL_law 410 = .ok (.invokevirtual 80, 3) := by decide +kernel
theorem dL_law_413 : decode cL_law 413 = .ok (.goto 38, 3) := by decide +kernel
theorem dL_law_416 : decode cL_law 416 = .ok (.iload 15, 2) := by decide +kernel
theorem dL_law_418 : decode cL_law 418 = .ok (.iconst 3, 1) := by decide +kernel
theorem dL_law_419 : decode cL_law 419 = .ok (.if_icmp .ne 14, 3) := by decide +kernel
theorem dL_law_422 : decode cL_law 422 = .ok (.aload_n 1, 1) := by decide +kernel
theorem dL_law_423 : decode cL_law 423 = .ok (.iload 9, 2) := by decide +kernel
theorem dL_law_425 : decode cL_law 425 = .ok (.iload 10, 2) := by decide +kernel
theorem dL_law_427 : decode cL_law 427 = .ok (.invokevirtual 83, 3) := by decide +kernel
theorem dL_law_430 : decode cL_law 430 = .ok (.goto 21, 3) := by decide +kernel
theorem dL_law_433 : decode cL_law 433 = .ok (.iload 15, 2) := by decide +kernel
theorem dL_law_435 : decode cL_law 435 = .ok (.iconst 4, 1) := by decide +kernel
theorem dL_law_436 : decode cL_law 436 = .ok (.if_icmp .ne 14, 3) := by decide +kernel
theorem dL_law_439 : decode cL_law 439 = .ok (.aload_n 1, 1) := by decide +kernel
theorem dL_law_440 : decode cL_law 440 = .ok (.iload 9, 2) := by decide +kernel
theorem dL_law_442 : decode cL_law 442 = .ok (.iload 10, 2) := by decide +kernel
theorem dL_law_444 : decode cL_law 444 = .ok (.invokevirtual 85, 3) := by decide +kernel
theorem dL_law_447 : decode cL_law 447 = .ok (.goto 4, 3) := by decide +kernel
theorem dL_law_450 : decode cL_law 450 = .ok (.iconst (-1), 1) := by decide +kernel
theorem dL_law_451 : decode cL_law 451 = .ok (.istore 18, 2) := by decide +kernel
theorem dL_law_453 : decode cL_law 453 = .ok (.iload 15, 2) := by decide +kernel
theorem dL_law_455 : decode cL_law 455 = .ok (.iconst 5, 1) := by decide +kernel
theorem dL_law_456 : decode cL_law 456 = .ok (.if_icmp .ne 13, 3) := by decide +kernel
theorem dL_law_459 : decode cL_law 459 = .ok (.aload_n 1, 1) := by decide +kernel
theorem dL_law_460 : decode cL_law 460 = .ok (.iload 9, 2) := by decide +kernel
theorem dL_law_462 : decode cL_law 462 = .ok (.iload 10, 2) := by decide +kernel
theorem dL_law_464 : decode cL_law 464 = .ok (.invokevirtual 87, 3) := by decide +kernel
theorem dL_law_467 : decode cL_law 467 = .ok (.istore 18, 2) := by decide +kernel
theorem dL_law_469 : decode cL_law 469 = .ok (.iload 15, 2) := by decide +kernel
theorem dL_law_471 : decode cL_law 471 = .ok (.bipush 6, 2) := by decide +kernel
theorem dL_law_473 : decode cL_law 473 = .ok (.if_icmp .eq 10, 3) := by decide +kernel
theorem dL_law_476 : decode cL_law 476 = .ok (.iload 15, 2) := by decide +kernel
theorem dL_law_478 : decode cL_law 478 = .ok (.bipush 7, 2) := by decide +kernel
theorem dL_law_480 : decode cL_law 480 = .ok (.if_icmp .ne 27, 3) := by decide +kernel
theorem dL_law_483 : decode cL_law 483 = .ok (.iload 15, 2) := by decide +kernel
theorem dL_law_485 : decode cL_law 485 = .ok (.bipush 6, 2) := by decide +kernel
theorem dL_law_487 : decode cL_law 487 = .ok (.if_icmp .ne 12, 3) := by decide +kernel
theorem dL_law_490 : decode cL_law 490 = .ok (.aload_n 1, 1) := by decide +kernel
theorem dL_law_491 : decode cL_law 491 = .ok (.iload 9, 2) := by decide +kernel
theorem dL_law_493 : decode cL_law 493 = .ok (.invokevirtual 90, 3) := by decide +kernel
theorem dL_law_496 : decode cL_law 496 = .ok (.goto 9, 3) := by decide +kernel
theorem dL_law_499 : decode cL_law 499 = .ok (.aload_n 1, 1) := by decide +kernel
theorem dL_law_500 : decode cL_law 500 = .ok (.iload 9, 2) := by decide +kernel
theorem dL_law_502 : decode cL_law 502 = .ok (.invokevirtual 93, 3) := by decide +kernel
theorem dL_law_505 : decode cL_law 505 = .ok (.istore 18, 2) := by decide +kernel
theorem dL_law_507 : decode cL_law 507 = .ok (.iload 15, 2) := by decide +kernel
theorem dL_law_509 : decode cL_law 509 = .ok (.bipush 7, 2) := by decide +kernel
theorem dL_law_511 : decode cL_law 511 = .ok (.if_icmp .le 11, 3) := by decide +kernel
theorem dL_law_514 : decode cL_law 514 = .ok (.aload_n 1, 1) := by decide +kernel
theorem dL_law_515 : decode cL_law 515 = .ok (.iload 9, 2) := by decide +kernel
theorem dL_law_517 : decode cL_law 517 = .ok (.invokevirtual 96, 3) := by decide +kernel
theorem dL_law_520 : decode cL_law 520 = .ok (.istore 18, 2) := by decide +kernel
theorem dL_law_522 : decode cL_law 522 = .ok (.aload_n 1, 1) := by decide +kernel
theorem dL_law_523 : decode cL_law 523 = .ok (.iload 18, 2) := by decide +kernel
theorem dL_law_525 : decode cL_law 525 = .ok (.lload 16, 2) := by decide +kernel
theorem dL_law_527 : decode cL_law 527 = .ok (.invokestatic 98, 3) := by decide +kernel
theorem dL_law_530 : decode cL_law 530 = .ok (.ifCond .ne 5, 3) := by decide +kernel
theorem dL_law_533 : decode cL_law 533 = .ok (.iconst 0, 1) := by decide +kernel
theorem dL_law_534 : decode cL_law 534 = .ok (.ireturn, 1) := by decide +kernel
theorem dL_law_535 : decode cL_law 535 = .ok (.iload 4, 2) := by decide +kernel
theorem dL_law_537 : decode cL_law 537 = .ok (.bipush 8, 2) := by decide +kernel
theorem dL_law_539 : decode cL_law 539 = .ok (.if_icmp .ge 21, 3) := by decide +kernel
theorem dL_law_542 : decode cL_law 542 = .ok (.aload_n 2, 1) := by decide +kernel
theorem dL_law_543 : decode cL_law 543 = .ok (.iload 4, 2) := by decide +kernel
theorem dL_law_545 : decode cL_law 545 = .ok (.iload 18, 2) := by decide +kernel
theorem dL_law_547 : decode cL_law 547 = .ok (.iastore, 1) := by decide +kernel
theorem dL_law_548 : decode cL_law 548 = .ok (.aload_n 3, 1) := by decide +kernel
theorem dL_law_549 : decode cL_law 549 = .ok (.iload 4, 2) := by decide +kernel
theorem dL_law_551 : decode cL_law 551 = .ok (.lload 16, 2) := by decide +kernel
theorem dL_law_553 : decode cL_law 553 = .ok (.lastore, 1) := by decide +kernel
theorem dL_law_554 : decode cL_law 554 = .ok (.iinc 4 1, 3) := by decide +kernel
theorem dL_law_557 : decode cL_law 557 = .ok (.goto 28, 3) := by decide +kernel
theorem dL_law_560 : decode cL_law 560 = .ok (.aload_n 1, 1) := by decide +kernel
theorem dL_law_561 : decode cL_law 561 = .ok (.aload_n 2, 1) := by decide +kernel
theorem dL_law_562 : decode cL_law 562 = .ok (.iload 8, 2) := by decide +kernel
theorem dL_law_564 : decode cL_law 564 = .ok (.iaload, 1) := by decide +kernel
theorem dL_law_565 : decode cL_law 565 = .ok (.invokevirtual 102, 3) := by decide +kernel
theorem dL_law_568 : decode cL_law 568 = .ok (.ifCond .ge 5, 3) := by decide +kernel
theorem dL_law_571 : decode cL_law 571 = .ok (.iconst 0, 1) := by decide +kernel
theorem dL_law_572 : decode cL_law 572 = .ok (.ireturn, 1) := by decide +kernel
theorem dL_law_573 : decode cL_law 573 = .ok (.aload_n 2, 1) := by decide +kernel
theorem dL_law_574 : decode cL_law 574 = .ok (.iload 8, 2) := by decide +kernel
theorem dL_law_576 : decode cL_law 576 = .ok (.iload 18, 2) := by decide +kernel
theorem dL_law_578 : decode cL_law 578 = .ok (.iastore, 1) := by decide +kernel
theorem dL_law_579 : decode cL_law 579 = .ok (.aload_n 3, 1) := by decide +kernel
theorem dL_law_580 : decode cL_law 580 = .ok (.iload 8, 2) := by decide +kernel
theorem dL_law_582 : decode cL_law 582 = .ok (.lload 16, 2) := by decide +kernel
theorem dL_law_584 : decode cL_law 584 = .ok (.lastore, 1) := by decide +kernel
theorem dL_law_585 : decode cL_law 585 = .ok (.iconst 0, 1) := by decide +kernel
theorem dL_law_586 : decode cL_law 586 = .ok (.istore 19, 2) := by decide +kernel
theorem dL_law_588 : decode cL_law 588 = .ok (.iload 19, 2) := by decide +kernel
theorem dL_law_590 : decode cL_law 590 = .ok (.iload 4, 2) := by decide +kernel
theorem dL_law_592 : decode cL_law 592 = .ok (.if_icmp .ge 59, 3) := by decide +kernel
theorem dL_law_595 : decode cL_law 595 = .ok (.iconst 0, 1) := by decide +kernel
theorem dL_law_596 : decode cL_law 596 = .ok (.istore 20, 2) := by decide +kernel
theorem dL_law_598 : decode cL_law 598 = .ok (.iload 20, 2) := by decide +kernel
theorem dL_law_600 : decode cL_law 600 = .ok (.iload 19, 2) := by decide +kernel
theorem dL_law_602 : decode cL_law 602 = .ok (.if_icmp .ge 43, 3) := by decide +kernel
theorem dL_law_605 : decode cL_law 605 = .ok (.aload_n 1, 1) := by decide +kernel
theorem dL_law_606 : decode cL_law 606 = .ok (.aload_n 2, 1) := by decide +kernel
theorem dL_law_607 : decode cL_law 607 = .ok (.iload 19, 2) := by decide +kernel
theorem dL_law_609 : decode cL_law 609 = .ok (.iaload, 1) := by decide +kernel
theorem dL_law_610 : decode cL_law 610 = .ok (.aload_n 2, 1) := by decide +kernel
theorem dL_law_611 : decode cL_law 611 = .ok (.iload 20, 2) := by decide +kernel
theorem dL_law_613 : decode cL_law 613 = .ok (.iaload, 1) := by decide +kernel
theorem dL_law_614 : decode cL_law 614 = .ok (.invokevirtual 105, 3) := by decide +kernel
theorem dL_law_617 : decode cL_law 617 = .ok (.aload_n 3, 1) := by decide +kernel
theorem dL_law_618 : decode cL_law 618 = .ok (.iload 19, 2) := by decide +kernel
theorem dL_law_620 : decode cL_law 620 = .ok (.laload, 1) := by decide +kernel
theorem dL_law_621 : decode cL_law 621 = .ok (.aload_n 3, 1) := by decide +kernel
theorem dL_law_622 : decode cL_law 622 = .ok (.iload 20, 2) := by decide +kernel
theorem dL_law_624 : decode cL_law 624 = .ok (.laload, 1) := by decide +kernel
theorem dL_law_625 : decode cL_law 625 = .ok (.lcmp, 1) := by decide +kernel
theorem dL_law_626 : decode cL_law 626 = .ok (.ifCond .ne 7, 3) := by decide +kernel
theorem dL_law_629 : decode cL_law 629 = .ok (.iconst 1, 1) := by decide +kernel
theorem dL_law_630 : decode cL_law 630 = .ok (.goto 4, 3) := by decide +kernel
theorem dL_law_633 : decode cL_law 633 = .ok (.iconst 0, 1) := by decide +kernel
theorem dL_law_634 : decode cL_law 634 = .ok (.if_icmp .eq 5, 3) := by decide +kernel
theorem dL_law_637 : decode cL_law 637 = .ok (.iconst 0, 1) := by decide +kernel
theorem dL_law_638 : decode cL_law 638 = .ok (.ireturn, 1) := by decide +kernel
theorem dL_law_639 : decode cL_law 639 = .ok (.iinc 20 1, 3) := by decide +kernel
theorem dL_law_642 : decode cL_law 642 = .ok (.goto (-44), 3) := by decide +kernel
theorem dL_law_645 : decode cL_law 645 = .ok (.iinc 19 1, 3) := by decide +kernel
theorem dL_law_648 : decode cL_law 648 = .ok (.goto (-60), 3) := by decide +kernel
theorem dL_law_651 : decode cL_law 651 = .ok (.iinc 5 1, 3) := by decide +kernel
theorem dL_law_654 : decode cL_law 654 = .ok (.goto (-590), 3) := by decide +kernel
theorem dL_law_657 : decode cL_law 657 = .ok (.iconst 0, 1) := by decide +kernel
theorem dL_law_658 : decode cL_law 658 = .ok (.istore 5, 2) := by decide +kernel
theorem dL_law_660 : decode cL_law 660 = .ok (.iload 5, 2) := by decide +kernel
theorem dL_law_662 : decode cL_law 662 = .ok (.iload 4, 2) := by decide +kernel
theorem dL_law_664 : decode cL_law 664 = .ok (.if_icmp .ge 26, 3) := by decide +kernel
theorem dL_law_667 : decode cL_law 667 = .ok (.aload_n 1, 1) := by decide +kernel
theorem dL_law_668 : decode cL_law 668 = .ok (.aload_n 2, 1) := by decide +kernel
theorem dL_law_669 : decode cL_law 669 = .ok (.iload 5, 2) := by decide +kernel
theorem dL_law_671 : decode cL_law 671 = .ok (.iaload, 1) := by decide +kernel
theorem dL_law_672 : decode cL_law 672 = .ok (.aload_n 3, 1) := by decide +kernel
theorem dL_law_673 : decode cL_law 673 = .ok (.iload 5, 2) := by decide +kernel
theorem dL_law_675 : decode cL_law 675 = .ok (.laload, 1) := by decide +kernel
theorem dL_law_676 : decode cL_law 676 = .ok (.invokestatic 98, 3) := by decide +kernel
theorem dL_law_679 : decode cL_law 679 = .ok (.ifCond .ne 5, 3) := by decide +kernel
theorem dL_law_682 : decode cL_law 682 = .ok (.iconst 0, 1) := by decide +kernel
theorem dL_law_683 : decode cL_law 683 = .ok (.ireturn, 1) := by decide +kernel
theorem dL_law_684 : decode cL_law 684 = .ok (.iinc 5 1, 3) := by decide +kernel
theorem dL_law_687 : decode cL_law 687 = .ok (.goto (-27), 3) := by decide +kernel
theorem dL_law_690 : decode cL_law 690 = .ok (.iconst 1, 1) := by decide +kernel
theorem dL_law_691 : decode cL_law 691 = .ok (.ireturn, 1) := by decide +kernel
