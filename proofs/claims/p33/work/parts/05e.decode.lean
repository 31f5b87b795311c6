theorem dL_act_358 : decode cL_act 358 = .ok (.if_icmp .ne 29, 3) := by decide +kernel
theorem dL_act_361 : decode cL_act 361 = .ok (.aload_n 0, 1) := by decide +kernel
theorem dL_act_362 : decode cL_act 362 = .ok (.invokevirtual 54, 3) := by decide +kernel
theorem dL_act_365 : decode cL_act 365 = .ok (.iload 4, 2) := by decide +kernel
theorem dL_act_367 : decode cL_act 367 = .ok (.if_icmp .ne 16, 3) := by decide +kernel
theorem dL_act_370 : decode cL_act 370 = .ok (.aload_n 0, 1) := by decide +kernel
theorem dL_act_371 : decode cL_act 371 = .ok (.invokevirtual 57, 3) := by decide +kernel
theorem dL_act_374 : decode cL_act 374 = .ok (.iload 5, 2) := by decide +kernel
theorem dL_act_376 : decode cL_act 376 = .ok (.if_icmp .ne 7, 3) := by decide +kernel
theorem dL_act_379 : decode cL_act 379 = .ok (.iconst 1, 1) := by decide +kernel
theorem dL_act_380 : decode cL_act 380 = .ok (.goto 28, 3) := by decide +kernel
theorem dL_act_383 : decode cL_act 383 = .ok (.iconst 0, 1) := by decide +kernel
theorem dL_act_384 : decode cL_act 384 = .ok (.goto 24, 3) := by decide +kernel
theorem dL_act_387 : decode cL_act 387 = .ok (.iload 12, 2) := by decide +kernel
theorem dL_act_389 : decode cL_act 389 = .ok (.iload 4, 2) := by decide +kernel
theorem dL_act_391 : decode cL_act 391 = .ok (.if_icmp .ne 16, 3) := by decide +kernel
theorem dL_act_394 : decode cL_act 394 = .ok (.aload_n 0, 1) := by decide +kernel
theorem dL_act_395 : decode cL_act 395 = .ok (.invokevirtual 54, 3) := by decide +kernel
theorem dL_act_398 : decode cL_act 398 = .ok (.iload 4, 2) := by decide +kernel
theorem dL_act_400 : decode cL_act 400 = .ok (.if_icmp .le 7, 3) := by decide +kernel
theorem dL_act_403 : decode cL_act 403 = .ok (.iconst 1, 1) := by decide +kernel
theorem dL_act_404 : decode cL_act 404 = .ok (.goto 4, 3) := by decide +kernel
theorem dL_act_407 : decode cL_act 407 = .ok (.iconst 0, 1) := by decide +kernel
theorem dL_act_408 : decode cL_act 408 = .ok (.ireturn, 1) := by decide +kernel
theorem dL_act_409 : decode cL_act 409 = .ok (.aload_n 0, 1) := by decide +kernel
theorem dL_act_410 : decode cL_act 410 = .ok (.iconst 1, 1) := by decide +kernel
theorem dL_act_411 : decode cL_act 411 = .ok (.iload_n 1, 1) := by decide +kernel
theorem dL_act_412 : decode cL_act 412 = .ok (.bipush 6, 2) := by decide +kernel
theorem dL_act_414 : decode cL_act 414 = .ok (.ishr, 1) := by decide +kernel
theorem dL_act_415 : decode cL_act 415 = .ok (.bipush 12, 2) := by decide +kernel
theorem dL_act_417 : decode cL_act 417 = .ok (.invokestatic 20, 3) := by decide +kernel
theorem dL_act_420 : decode cL_act 420 = .ok (.iadd, 1) := by decide +kernel
theorem dL_act_421 : decode cL_act 421 = .ok (.invokevirtual 81, 3) := by decide +kernel
theorem dL_act_424 : decode cL_act 424 = .ok (.istore 13, 2) := by decide +kernel
theorem dL_act_426 : decode cL_act 426 = .ok (.iload 13, 2) := by decide +kernel
theorem dL_act_428 : decode cL_act 428 = .ok (.aload_n 0, 1) := by decide +kernel
theorem dL_act_429 : decode cL_act 429 = .ok (.invokevirtual 57, 3) := by decide +kernel
theorem dL_act_432 : decode cL_act 432 = .ok (.if_icmp .ne 60, 3) := by decide +kernel
theorem dL_act_435 : decode cL_act 435 = .ok (.aload_n 0, 1) := by decide +kernel
theorem dL_act_436 : decode cL_act 436 = .ok (.invokevirtual 60, 3) := by decide +kernel
theorem dL_act_439 : decode cL_act 439 = .ok (.i2l, 1) := by decide +kernel
theorem dL_act_440 : decode cL_act 440 = .ok (.lload 6, 2) := by decide +kernel
theorem dL_act_442 : decode cL_act 442 = .ok (.lsub, 1) := by decide +kernel
theorem dL_act_443 : decode cL_act 443 = .ok (.iconst 1, 1) := by decide +kernel
theorem dL_act_444 : decode cL_act 444 = .ok (.iload_n 1, 1) := by decide +kernel
theorem dL_act_445 : decode cL_act 445 = .ok (.bipush 6, 2) := by decide +kernel
theorem dL_act_447 : decode cL_act 447 = .ok (.ishr, 1) := by decide +kernel
theorem dL_act_448 : decode cL_act 448 = .ok (.bipush 12, 2) := by decide +kernel
theorem dL_act_450 : decode cL_act 450 = .ok (.invokestatic 20, 3) := by decide +kernel
theorem dL_act_453 : decode cL_act 453 = .ok (.iadd, 1) := by decide +kernel
theorem dL_act_454 : decode cL_act 454 = .ok (.i2l, 1) := by decide +kernel
theorem dL_act_455 : decode cL_act 455 = .ok (.lcmp, 1) := by decide +kernel
theorem dL_act_456 : decode cL_act 456 = .ok (.ifCond .gt 36, 3) := by decide +kernel
theorem dL_act_459 : decode cL_act 459 = .ok (.iload 13, 2) := by decide +kernel
theorem dL_act_461 : decode cL_act 461 = .ok (.ifCond .eq 27, 3) := by decide +kernel
theorem dL_act_464 : decode cL_act 464 = .ok (.aload_n 0, 1) := by decide +kernel
theorem dL_act_465 : decode cL_act 465 = .ok (.invokevirtual 60, 3) := by decide +kernel
theorem dL_act_468 : decode cL_act 468 = .ok (.i2l, 1) := by decide +kernel
theorem dL_act_469 : decode cL_act 469 = .ok (.lload 6, 2) := by decide +kernel
theorem dL_act_471 : decode cL_act 471 = .ok (.lsub, 1) := by decide +kernel
theorem dL_act_472 : decode cL_act 472 = .ok (.iconst 1, 1) := by decide +kernel
theorem dL_act_473 : decode cL_act 473 = .ok (.iload_n 1, 1) := by decide +kernel
theorem dL_act_474 : decode cL_act 474 = .ok (.bipush 6, 2) := by decide +kernel
theorem dL_act_476 : decode cL_act 476 = .ok (.ishr, 1) := by decide +kernel
theorem dL_act_477 : decode cL_act 477 = .ok (.bipush 12, 2) := by decide +kernel
theorem dL_act_479 : decode cL_act 479 = .ok (.invokestatic 20, 3) := by decide +kernel
theorem dL_act_482 : decode cL_act 482 = .ok (.iadd, 1) := by decide +kernel
theorem dL_act_483 : decode cL_act 483 = .ok (.i2l, 1) := by decide +kernel
theorem dL_act_484 : decode cL_act 484 = .ok (.lcmp, 1) := by decide +kernel
theorem dL_act_485 : decode cL_act 485 = .ok (.ifCond .ne 7, 3) := by decide +kernel
theorem dL_act_488 : decode cL_act 488 = .ok (.iconst 1, 1) := by decide +kernel
theorem dL_act_489 : decode cL_act 489 = .ok (.goto 4, 3) := by decide +kernel
theorem dL_act_492 : decode cL_act 492 = .ok (.iconst 0, 1) := by decide +kernel
theorem dL_act_493 : decode cL_act 493 = .ok (.ireturn, 1) := by decide +kernel
theorem dL_act_494 : decode cL_act 494 = .ok (.iload_n 1, 1) := by decide +kernel
theorem dL_act_495 : decode cL_act 495 = .ok (.bipush 6, 2) := by decide +kernel
theorem dL_act_497 : decode cL_act 497 = .ok (.ishr, 1) := by decide +kernel
theorem dL_act_498 : decode cL_act 498 = .ok (.iconst 2, 1) := by decide +kernel
theorem dL_act_499 : decode cL_act 499 = .ok (.invokestatic 20, 3) := by decide +kernel
theorem dL_act_502 : decode cL_act 502 = .ok (.ifCond .ne 25, 3) := by decide +kernel
theorem dL_act_505 : decode cL_act 505 = .ok (.aload_n 0, 1) := by decide +kernel
theorem dL_act_506 : decode cL_act 506 = .ok (.iload_n 3, 1) := by decide +kernel
theorem dL_act_507 : decode cL_act 507 = .ok (.invokevirtual 84, 3) := by decide +kernel
theorem dL_act_510 : decode cL_act 510 = .ok (.ifCond .lt 15, 3) := by decide +kernel
theorem dL_act_513 : decode cL_act 513 = .ok (.aload_n 0, 1) := by decide +kernel
theorem dL_act_514 : decode cL_act 514 = .ok (.iload_n 3, 1) := by decide +kernel
theorem dL_act_515 : decode cL_act 515 = .ok (.invokevirtual 84, 3) := by decide +kernel
theorem dL_act_518 : decode cL_act 518 = .ok (.ifCond .ne 7, 3) := by decide +kernel
theorem dL_act_521 : decode cL_act 521 = .ok (.iconst 1, 1) := by decide +kernel
theorem dL_act_522 : decode cL_act 522 = .ok (.goto 4, 3) := by decide +kernel
theorem dL_act_525 : decode cL_act 525 = .ok (.iconst 0, 1) := by decide +kernel
theorem dL_act_526 : decode cL_act 526 = .ok (.ireturn, 1) := by decide +kernel
theorem dL_act_527 : decode cL_act 527 = .ok (.aload_n 0, 1) := by decide +kernel
theorem dL_act_528 : decode cL_act 528 = .ok (.iload_n 3, 1) := by decide +kernel
theorem dL_act_529 : decode cL_act 529 = .ok (.invokevirtual 87, 3) := by decide +kernel
theorem dL_act_532 : decode cL_act 532 = .ok (.istore 14, 2) := by decide +kernel
theorem dL_act_534 : decode cL_act 534 = .ok (.aload_n 0, 1) := by decide +kernel
theorem dL_act_535 : decode cL_act 535 = .ok (.invokevirtual 90, 3) := by decide +kernel
theorem dL_act_538 : decode cL_act 538 = .ok (.istore 15, 2) := by decide +kernel
theorem dL_act_540 : decode cL_act 540 = .ok (.aload_n 0, 1) := by decide +kernel
theorem dL_act_541 : decode cL_act 541 = .ok (.iload_n 3, 1) := by decide +kernel
theorem dL_act_542 : decode cL_act 542 = .ok (.invokevirtual 93, 3) := by decide +kernel
theorem dL_act_545 : decode cL_act 545 = .ok (.iload 14, 2) := by decide +kernel
theorem dL_act_547 : decode cL_act 547 = .ok (.if_icmp .ne 29, 3) := by decide +kernel
theorem dL_act_550 : decode cL_act 550 = .ok (.aload_n 0, 1) := by decide +kernel
theorem dL_act_551 : decode cL_act 551 = .ok (.iload_n 3, 1) := by decide +kernel
theorem dL_act_552 : decode cL_act 552 = .ok (.invokevirtual 87, 3) := by decide +kernel
theorem dL_act_555 : decode cL_act 555 = .ok (.iload 14, 2) := by decide +kernel
theorem dL_act_557 : decode cL_act 557 = .ok (.if_icmp .gt 19, 3) := by decide +kernel
theorem dL_act_560 : decode cL_act 560 = .ok (.aload_n 0, 1) := by decide +kernel
theorem dL_act_561 : decode cL_act 561 = .ok (.invokevirtual 90, 3) := by decide +kernel
theorem dL_act_564 : decode cL_act 564 = .ok (.iload 15, 2) := by decide +kernel
theorem dL_act_566 : decode cL_act 566 = .ok (.iload 14, 2) := by decide +kernel
theorem dL_act_568 : decode cL_act 568 = .ok (.iadd, 1) := by decide +kernel
theorem dL_act_569 : decode cL_act 569 = .ok (.if_icmp .lt 7, 3) := by decide +kernel
theorem dL_act_572 : decode cL_act 572 = .ok (.iconst 1, 1) := by decide +kernel
theorem dL_act_573 : decode cL_act 573 = .ok (.goto 4, 3) := by decide +kernel
theorem dL_act_576 : decode cL_act 576 = .ok (.iconst 0, 1) := by decide +kernel
theorem dL_act_577 : decode cL_act 577 = .ok (.ireturn, 1) := by decide +kernel
theorem dL_act_578 : decode cL_act 578 = .ok (.iload_n 1, 1) := by decide +kernel
theorem dL_act_579 : decode cL_act 579 = .ok (.bipush 6, 2) := by decide +kernel
theorem dL_act_581 : decode cL_act 581 = .ok (.ishr, 1) := by decide +kernel
theorem dL_act_582 : decode cL_act 582 = .ok (.iconst 3, 1) := by decide +kernel
theorem dL_act_583 : decode cL_act 583 = .ok (.invokestatic 20, 3) := by decide +kernel
theorem dL_act_586 : decode cL_act 586 = .ok (.ifCond .ne 38, 3) := by decide +kernel
theorem dL_act_589 : decode cL_act 589 = .ok (.aload_n 0, 1) := by decide +kernel
theorem dL_act_590 : decode cL_act 590 = .ok (.iload_n 1, 1) := by decide +kernel
theorem dL_act_591 : decode cL_act 591 = .ok (.bipush 8, 2) := by decide +kernel
theorem dL_act_593 : decode cL_act 593 = .ok (.ishr, 1) := by decide +kernel
theorem dL_act_594 : decode cL_act 594 = .ok (.iconst 3, 1) := by decide +kernel
theorem dL_act_595 : decode cL_act 595 = .ok (.invokestatic 20, 3) := by decide +kernel
theorem dL_act_598 : decode cL_act 598 = .ok (.ifCond .le 7, 3) := by decide +kernel
theorem dL_act_601 : decode cL_act 601 = .ok (.iconst 1, 1) := by decide +kernel
theorem dL_act_602 : decode cL_act 602 = .ok (.goto 4, 3) := by decide +kernel
theorem dL_act_605 : decode cL_act 605 = .ok (.iconst 0, 1) := by decide +kernel
theorem dL_act_606 : decode cL_act 606 = .ok (.invokevirtual 28, 3) := by decide +kernel
theorem dL_act_609 : decode cL_act 609 = .ok (.aload_n 0, 1) := by decide +kernel
theorem dL_act_610 : decode cL_act 610 = .ok (.invokevirtual 50, 3) := by decide +kernel
theorem dL_act_613 : decode cL_act 613 = .ok (.iconst 1, 1) := by decide +kernel
theorem dL_act_614 : decode cL_act 614 = .ok (.isub, 1) := by decide +kernel
theorem dL_act_615 : decode cL_act 615 = .ok (.if_icmp .ne 7, 3) := by decide +kernel
theorem dL_act_618 : decode cL_act 618 = .ok (.iconst 1, 1) := by decide +kernel
theorem dL_act_619 : decode cL_act 619 = .ok (.goto 4, 3) := by decide +kernel
theorem dL_act_622 : decode cL_act 622 = .ok (.iconst 0, 1) := by decide +kernel
theorem dL_act_623 : decode cL_act 623 = .ok (.ireturn, 1) := by decide +kernel
theorem dL_act_624 : decode cL_act 624 = .ok (.iload_n 1, 1) := by decide +kernel
theorem dL_act_625 : decode cL_act 625 = .ok (.bipush 6, 2) := by decide +kernel
theorem dL_act_627 : decode cL_act 627 = .ok (.ishr, 1) := by decide +kernel
theorem dL_act_628 : decode cL_act 628 = .ok (.iconst 3, 1) := by decide +kernel
theorem dL_act_629 : decode cL_act 629 = .ok (.invokestatic 20, 3) := by decide +kernel
theorem dL_act_632 : decode cL_act 632 = .ok (.iconst 1, 1) := by decide +kernel
theorem dL_act_633 : decode cL_act 633 = .ok (.if_icmp .ne 30, 3) := by decide +kernel
theorem dL_act_636 : decode cL_act 636 = .ok (.aload_n 0, 1) := by decide +kernel
theorem dL_act_637 : decode cL_act 637 = .ok (.iload_n 1, 1) := by decide +kernel
theorem dL_act_638 : decode cL_act 638 = .ok (.bipush 8, 2) := by decide +kernel
theorem dL_act_640 : decode cL_act 640 = .ok (.ishr, 1) := by decide +kernel
theorem dL_act_641 : decode cL_act 641 = .ok (.iconst 2, 1) := by decide +kernel
theorem dL_act_642 : decode cL_act 642 = .ok (.invokestatic 20, 3) := by decide +kernel
theorem dL_act_645 : decode cL_act 645 = .ok (.bipush 12, 2) := by decide +kernel
theorem dL_act_647 : decode cL_act 647 = .ok (.iload_n 1, 1) := by decide +kernel
theorem dL_act_648 : decode cL_act 648 = .ok (.iconst 5, 1) := by decide +kernel
theorem dL_act_649 : decode cL_act 649 = .ok (.ishr, 1) := by decide +kernel
theorem dL_act_650 : decode cL_act 650 = .ok (.bipush 60, 2) := by decide +kernel
theorem dL_act_652 : decode cL_act 652 = .ok (.invokestatic 20, 3) := by decide +kernel
theorem dL_act_655 : decode cL_act 655 = .ok (.iadd, 1) := by decide +kernel
theorem dL_act_656 : decode cL_act 656 = .ok (.invokevirtual 96, 3) := by decide +kernel
theorem dL_act_659 : decode cL_act 659 = .ok (.pop, 1) := by decide +kernel
theorem dL_act_660 : decode cL_act 660 = .ok (.goto 25, 3) := by decide +kernel
theorem dL_act_663 : decode cL_act 663 = .ok (.aload_n 0, 1) := by decide +kernel
theorem dL_act_664 : decode cL_act 664 = .ok (.iload_n 3, 1) := by decide +kernel
theorem dL_act_665 : decode cL_act 665 = .ok (.iload_n 1, 1) := by decide +kernel
theorem dL_act_666 : decode cL_act 666 = .ok (.bipush 8, 2) := by decide +kernel
theorem dL_act_668 : decode cL_act 668 = .ok (.ishr, 1) := by decide +kernel
theorem dL_act_669 : decode cL_act 669 = .ok (.iconst 3, 1) := by decide +kernel
theorem dL_act_670 : decode cL_act 670 = .ok (.invokestatic 20, 3) := by decide +kernel
theorem dL_act_673 : decode cL_act 673 = .ok (.ifCond .le 7, 3) := by decide +kernel
theorem dL_act_676 : decode cL_act 676 = .ok (.iconst 1, 1) := by decide +kernel
theorem dL_act_677 : decode cL_act 677 = .ok (.goto 4, 3) := by decide +kernel
theorem dL_act_680 : decode cL_act 680 = .ok (.iconst 0, 1) := by decide +kernel
theorem dL_act_681 : decode cL_act 681 = .ok (.invokevirtual 99, 3) := by decide +kernel
theorem dL_act_684 : decode cL_act 684 = .ok (.pop, 1) := by decide +kernel
theorem dL_act_685 : decode cL_act 685 = .ok (.goto 81, 3) := by decide +kernel
theorem dL_act_688 : decode cL_act 688 = .ok (.astore 8, 2) := by decide +kernel
theorem dL_act_690 : decode cL_act 690 = .ok (.aload_n 0, 1) := by decide +kernel
theorem dL_act_691 : decode cL_act 691 = .ok (.invokevirtual 54, 3) := by decide +kernel
theorem dL_act_694 : decode cL_act 694 = .ok (.iload 4, 2) := by decide +kernel
theorem dL_act_696 : decode cL_act 696 = .ok (.if_icmp .ne 16, 3) := by decide +kernel
theorem dL_act_699 : decode cL_act 699 = .ok (.aload_n 0, 1) := by decide +kernel
theorem dL_act_700 : decode cL_act 700 = .ok (.invokevirtual 57, 3) := by decide +kernel
theorem dL_act_703 : decode cL_act 703 = .ok (.iload 5, 2) := by decide +kernel
theorem dL_act_705 : decode cL_act 705 = .ok (.if_icmp .ne 7, 3) := by decide +kernel
theorem dL_act_708 : decode cL_act 708 = .ok (.iconst 1, 1) := by decide +kernel
theorem dL_act_709 : decode cL_act 709 = .ok (.goto 4, 3) := by decide +kernel
theorem dL_act_712 : decode cL_act 712 = .ok (.iconst 0, 1) := by decide +kernel
theorem dL_act_713 : decode cL_act 713 = .ok (.ireturn, 1) := by decide +kernel
theorem dL_act_714 : decode cL_act 714 = .ok (.astore 8, 2) := by decide +kernel
theorem dL_act_716 : decode cL_act 716 = .ok (.aload_n 0, 1) := by decide +kernel
theorem dL_act_717 : decode cL_act 717 = .ok (.invokevirtual 54, 3) := by decide +kernel
theorem dL_act_720 : decode cL_act 720 = .ok (.iload 4, 2) := by decide +kernel
theorem dL_act_722 : decode cL_act 722 = .ok (.if_icmp .ne 16, 3) := by decide +kernel
theorem dL_act_725 : decode cL_act 725 = .ok (.aload_n 0, 1) := by decide +kernel
theorem dL_act_726 : decode cL_act 726 = .ok (.invokevirtual 57, 3) := by decide +kernel
theorem dL_act_729 : decode cL_act 729 = .ok (.iload 5, 2) := by decide +kernel
theorem dL_act_731 : decode cL_act 731 = .ok (.if_icmp .ne 7, 3) := by decide +kernel
theorem dL_act_734 : decode cL_act 734 = .ok (.iconst 1, 1) := by decide +kernel
theorem dL_act_735 : decode cL_act 735 = .ok (.goto 4, 3) := by decide +kernel
theorem dL_act_738 : decode cL_act 738 = .ok (.iconst 0, 1) := by decide +kernel
theorem dL_act_739 : decode cL_act 739 = .ok (.ireturn, 1) := by decide +kernel
theorem dL_act_740 : decode cL_act 740 = .ok (.astore 8, 2) := by decide +kernel
theorem dL_act_742 : decode cL_act 742 = .ok (.aload_n 0, 1) := by decide +kernel
theorem dL_act_743 : decode cL_act 743 = .ok (.invokevirtual 54, 3) := by decide +kernel
theorem dL_act_746 : decode cL_act 746 = .ok (.iload 4, 2) := by decide +kernel
theorem dL_act_748 : decode cL_act 748 = .ok (.if_icmp .ne 16, 3) := by decide +kernel
theorem dL_act_751 : decode cL_act 751 = .ok (.aload_n 0, 1) := by decide +kernel
theorem dL_act_752 : decode cL_act 752 = .ok (.invokevirtual 57, 3) := by decide +kernel
theorem dL_act_755 : decode cL_act 755 = .ok (.iload 5, 2) := by decide +kernel
theorem dL_act_757 : decode cL_act 757 = .ok (.if_icmp .ne 7, 3) := by decide +kernel
theorem dL_act_760 : decode cL_act 760 = .ok (.iconst 1, 1) := by decide +kernel
theorem dL_act_761 : decode cL_act 761 = .ok (.goto 4, 3) := by decide +kernel
theorem dL_act_764 : decode cL_act 764 = .ok (.iconst 0, 1) := by decide +kernel
theorem dL_act_765 : decode cL_act 765 = .ok (.ireturn, 1) := by decide +kernel
theorem dL_act_766 : decode cL_act 766 = .ok (.iconst 1, 1) := by decide +kernel
theorem dL_act_767 : decode cL_act 767 = .ok (.ireturn, 1) := by decide +kernel
theorem dL_areMachinesRight_0 : decode cL_areMachinesRight 0 = .ok (.aload_n 0, 1) := by decide +kernel
theorem dL_areMachinesRight_1 : decode cL_areMachinesRight 1 = .ok (.invokevirtual 60, 3) := by decide +kernel
theorem dL_areMachinesRight_4 : decode cL_areMachinesRight 4 = .ok (.aload_n 0, 1) := by decide +kernel
theorem dL_areMachinesRight_5 : decode cL_areMachinesRight 5 = .ok (.iconst 0, 1) := by decide +kernel
theorem dL_areMachinesRight_6 : decode cL_areMachinesRight 6 = .ok (.invokevirtual 109, 3) := by decide +kernel
theorem dL_areMachinesRight_9 : decode cL_areMachinesRight 9 = .ok (.aload_n 0, 1) := by decide +kernel
theorem dL_areMachinesRight_10 : decode cL_areMachinesRight 10 = .ok (.iconst 1, 1) := by decide +kernel
theorem dL_areMachinesRight_11 : decode cL_areMachinesRight 11 = .ok (.invokevirtual 109, 3) := by decide +kernel
theorem dL_areMachinesRight_14 : decode cL_areMachinesRight 14 = .ok (.iadd, 1) := by decide +kernel
theorem dL_areMachinesRight_15 : decode cL_areMachinesRight 15 = .ok (.if_icmp .ne 21, 3) := by decide +kernel
theorem dL_areMachinesRight_18 : decode cL_areMachinesRight 18 = .ok (.aload_n 0, 1) := by decide +kernel
theorem dL_areMachinesRight_19 : decode cL_areMachinesRight 19 = .ok (.invokevirtual 112, 3) := by decide +kernel
theorem dL_areMachinesRight_22 : decode cL_areMachinesRight 22 = .ok (.dconst 0, 1) := by decide +kernel
theorem dL_areMachinesRight_23 : decode cL_areMachinesRight 23 = .ok (.dcmp .g, 1) := by decide +kernel
theorem dL_areMachinesRight_24 : decode cL_areMachinesRight 24 = .ok (.ifCond .lt 12, 3) := by decide +kernel
theorem dL_areMachinesRight_27 : decode cL_areMachinesRight 27 = .ok (.aload_n 0, 1) := by decide +kernel
theorem dL_areMachinesRight_28 : decode cL_areMachinesRight 28 = .ok (.invokevirtual 112, 3) := by decide +kernel
theorem dL_areMachinesRight_31 : decode cL_areMachinesRight 31 = .ok (.dconst 1, 1) := by decide +kernel
theorem dL_areMachinesRight_32 : decode cL_areMachinesRight 32 = .ok (.dcmp .l, 1) := by decide +kernel
theorem dL_areMachinesRight_33 : decode cL_areMachinesRight 33 = .ok (.ifCond .le 5, 3) := by decide +kernel
theorem dL_areMachinesRight_36 : decode cL_areMachinesRight 36 = .ok (.iconst 0, 1) := by decide +kernel
theorem dL_areMachinesRight_37 : decode cL_areMachinesRight 37 = .ok (.ireturn, 1) := by decide +kernel
theorem dL_areMachinesRight_38 : decode cL_areMachinesRight 38 = .ok (.iconst 0, 1) := by decide +kernel
theorem dL_areMachinesRight_39 : decode cL_areMachinesRight 39 = .ok (.istore_n 2, 1) := by decide +kernel
theorem dL_areMachinesRight_40 : decode cL_areMachinesRight 40 = .ok (.iload_n 2, 1) := by decide +kernel
theorem dL_areMachinesRight_41 : decode cL_areMachinesRight 41 = .ok (.aload_n 0, 1) := by decide +kernel
theorem dL_areMachinesRight_42 : decode cL_areMachinesRight 42 = .ok (.invokevirtual 50, 3) := by decide +kernel
theorem dL_areMachinesRight_45 : decode cL_areMachinesRight 45 = .ok (.if_icmp .ge 276, 3) := by decide +kernel
theorem dL_areMachinesRight_48 : decode cL_areMachinesRight 48 = .ok (.aload_n 0, 1) := by decide +kernel
theorem dL_areMachinesRight_49 : decode cL_areMachinesRight 49 = .ok (.iload_n 2, 1) := by decide +kernel
theorem dL_areMachinesRight_50 : decode cL_areMachinesRight 50 = .ok (.invokevirtual 87, 3) := by decide +kernel
theorem dL_areMachinesRight_53 : decode cL_areMachinesRight 53 = .ok (.bipush 6, 2) := by decide +kernel
theorem dL_areMachinesRight_55 : decode cL_areMachinesRight 55 = .ok (.if_icmp .gt 12, 3) := by decide +kernel
theorem dL_areMachinesRight_58 : decode cL_areMachinesRight 58 = .ok (.aload_n 0, 1) := by decide +kernel
theorem dL_areMachinesRight_59 : decode cL_areMachinesRight 59 = .ok (.iload_n 2, 1) := by decide +kernel
theorem dL_areMachinesRight_60 : decode cL_areMachinesRight 60 = .ok (.invokevirtual 116, 3) := by decide +kernel
theorem dL_areMachinesRight_63 : decode cL_areMachinesRight 63 = .ok (.iconst 3, 1) := by decide +kernel
theorem dL_areMachinesRight_64 : decode cL_areMachinesRight 64 = .ok (.if_icmp .le 5, 3) := by decide +kernel
theorem dL_areMachinesRight_67 : decode cL_areMachinesRight 67 = .ok (.iconst 0, 1) := by decide +kernel
theorem dL_areMachinesRight_68 : decode cL_areMachinesRight 68 = .ok (.ireturn, 1) := by decide +kernel
theorem dL_areMachinesRight_69 : decode cL_areMachinesRight 69 = .ok (.iconst 0, 1) := by decide +kernel
theorem dL_areMachinesRight_70 : decode cL_areMachinesRight 70 = .ok (.istore_n 3, 1) := by decide +kernel
theorem dL_areMachinesRight_71 : decode cL_areMachinesRight 71 = .ok (.iload_n 3, 1) := by decide +kernel
theorem dL_areMachinesRight_72 : decode cL_areMachinesRight 72 = .ok (.bipush 10, 2) := by decide +kernel
theorem dL_areMachinesRight_74 : decode cL_areMachinesRight 74 = .ok (.aload_n 0, 1) := by decide +kernel
theorem dL_areMachinesRight_75 : decode cL_areMachinesRight 75 = .ok (.iload_n 2, 1) := by decide +kernel
theorem dL_areMachinesRight_76 : decode cL_areMachinesRight 76 = .ok (.invokevirtual 119, 3) := by decide +kernel
theorem dL_areMachinesRight_79 : decode cL_areMachinesRight 79 = .ok (.invokestatic 122, 3) := by decide +kernel
theorem dL_areMachinesRight_82 : decode cL_areMachinesRight 82 = .ok (.if_icmp .ge 86, 3) := by decide +kernel
theorem dL_areMachinesRight_85 : decode cL_areMachinesRight 85 = .ok (.aload_n 0, 1) := by decide +kernel
theorem dL_areMachinesRight_86 : decode cL_areMachinesRight 86 = .ok (.iload_n 2, 1) := by decide +kernel
theorem dL_areMachinesRight_87 : decode cL_areMachinesRight 87 = .ok (.iload_n 3, 1) := by decide +kernel
theorem dL_areMachinesRight_88 : decode cL_areMachinesRight 88 = .ok (.iconst 0, 1) := by decide +kernel
theorem dL_areMachinesRight_89 : decode cL_areMachinesRight 89 = .ok (.invokevirtual 127, 3) := by decide +kernel
theorem dL_areMachinesRight_92 : decode cL_areMachinesRight 92 = .ok (.istore 4, 2) := by decide +kernel
theorem dL_areMachinesRight_94 : decode cL_areMachinesRight 94 = .ok (.iload 4, 2) := by decide +kernel
theorem dL_areMachinesRight_96 : decode cL_areMachinesRight 96 = .ok (.iconst 1, 1) := by decide +kernel
theorem dL_areMachinesRight_97 : decode cL_areMachinesRight 97 = .ok (.if_icmp .eq 63, 3) := by decide +kernel
theorem dL_areMachinesRight_100 : decode cL_areMachinesRight 100 = .ok (.iload 4, 2) := by decide +kernel
theorem dL_areMachinesRight_102 : decode cL_areMachinesRight 102 = .ok (.bipush 6, 2) := by decide +kernel
theorem dL_areMachinesRight_104 : decode cL_areMachinesRight 104 = .ok (.if_icmp .eq 56, 3) := by decide +kernel
theorem dL_areMachinesRight_107 : decode cL_areMachinesRight 107 = .ok (.iload 4, 2) := by decide +kernel
theorem dL_areMachinesRight_109 : decode cL_areMachinesRight 109 = .ok (.ifCond .lt 51, 3) := by decide +kernel
theorem dL_areMachinesRight_112 : decode cL_areMachinesRight 112 = .ok (.iload 4, 2) := by decide +kernel
theorem dL_areMachinesRight_114 : decode cL_areMachinesRight 114 = .ok (.bipush 6, 2) := by decide +kernel
theorem dL_areMachinesRight_116 : decode cL_areMachinesRight 116 = .ok (.if_icmp .gt 44, 3) := by decide +kernel
theorem dL_areMachinesRight_119 : decode cL_areMachinesRight 119 = .ok (.aload_n 0, 1) := by decide +kernel
theorem dL_areMachinesRight_120 : decode cL_areMachinesRight 120 = .ok (.iload_n 2, 1) := by decide +kernel
theorem dL_areMachinesRight_121 : decode cL_areMachinesRight 121 = .ok (.iload_n 3, 1) := by decide +kernel
theorem dL_areMachinesRight_122 : decode cL_areMachinesRight 122 = .ok (.iconst 3, 1) := by decide +kernel
theorem dL_areMachinesRight_123 : decode cL_areMachinesRight 123 = .ok (.invokevirtual 127, 3) := by decide +kernel
theorem dL_areMachinesRight_126 : decode cL_areMachinesRight 126 = .ok (.iconst 1, 1) := by decide +kernel
theorem dL_areMachinesRight_127 : decode cL_areMachinesRight 127 = .ok (.if_icmp .lt 33, 3) := by decide +kernel
theorem dL_areMachinesRight_130 : decode cL_areMachinesRight 130 = .ok (.aload_n 0, 1) := by decide +kernel
theorem dL_areMachinesRight_131 : decode cL_areMachinesRight 131 = .ok (.iload_n 2, 1) := by decide +kernel
theorem dL_areMachinesRight_132 : decode cL_areMachinesRight 132 = .ok (.iload_n 3, 1) := by decide +kernel
theorem dL_areMachinesRight_133 : decode cL_areMachinesRight 133 = .ok (.iconst 4, 1) := by decide +kernel
theorem dL_areMachinesRight_134 : decode cL_areMachinesRight 134 = .ok (.invokevirtual 127, 3) := by decide +kernel
theorem dL_areMachinesRight_137 : decode cL_areMachinesRight 137 = .ok (.aload_n 0, 1) := by decide +kernel
theorem dL_areMachinesRight_138 : decode cL_areMachinesRight 138 = .ok (.invokevirtual 54, 3) := by decide +kernel
theorem dL_areMachinesRight_141 : decode cL_areMachinesRight 141 = .ok (.if_icmp .ge 19, 3) := by decide +kernel
theorem dL_areMachinesRight_144 : decode cL_areMachinesRight 144 = .ok (.iload 4, 2) := by decide +kernel
theorem dL_areMachinesRight_146 : decode cL_areMachinesRight 146 = .ok (.iconst 2, 1) := by decide +kernel
theorem dL_areMachinesRight_147 : decode cL_areMachinesRight 147 = .ok (.if_icmp .le 15, 3) := by decide +kernel
theorem dL_areMachinesRight_150 : decode cL_areMachinesRight 150 = .ok (.aload_n 0, 1) := by decide +kernel
theorem dL_areMachinesRight_151 : decode cL_areMachinesRight 151 = .ok (.iload_n 2, 1) := by decide +kernel
theorem dL_areMachinesRight_152 : decode cL_areMachinesRight 152 = .ok (.iload_n 3, 1) := by decide +kernel
theorem dL_areMachinesRight_153 : decode cL_areMachinesRight 153 = .ok (.iconst 2, 1) := by decide +kernel
theorem dL_areMachinesRight_154 : decode cL_areMachinesRight 154 = .ok (.invokevirtual 127, 3) := by decide +kernel
theorem dL_areMachinesRight_157 : decode cL_areMachinesRight 157 = .ok (.ifCond .eq 5, 3) := by decide +kernel
theorem dL_areMachinesRight_160 : decode cL_areMachinesRight 160 = .ok (.iconst 0, 1) := by decide +kernel
theorem dL_areMachinesRight_161 : decode cL_areMachinesRight 161 = .ok (.ireturn, 1) := by decide +kernel
theorem dL_areMachinesRight_162 : decode cL_areMachinesRight 162 = .ok (.iinc 3 1, 3) := by decide +kernel
theorem dL_areMachinesRight_165 : decode cL_areMachinesRight 165 = .ok (.goto (-94), 3) := by decide +kernel
theorem dL_areMachinesRight_168 : decode cL_areMachinesRight 168 = .ok (.iconst 0, 1) := by decide +kernel
theorem dL_areMachinesRight_169 : decode cL_areMachinesRight 169 = .ok (.istore_n 3, 1) := by decide +kernel
theorem dL_areMachinesRight_170 : decode cL_areMachinesRight 170 = .ok (.iload_n 3, 1) := by decide +kernel
theorem dL_areMachinesRight_171 : decode cL_areMachinesRight 171 = .ok (.bipush 32, 2) := by decide +kernel
theorem dL_areMachinesRight_173 : decode cL_areMachinesRight 173 = .ok (.if_icmp .ge 142, 3) := by decide +kernel
theorem dL_areMachinesRight_176 : decode cL_areMachinesRight 176 = .ok (.aload_n 1, 1) := by decide +kernel
theorem dL_areMachinesRight_177 : decode cL_areMachinesRight 177 = .ok (.iload_n 3, 1) := by decide +kernel
theorem dL_areMachinesRight_178 : decode cL_areMachinesRight 178 = .ok (.aaload, 1) := by decide +kernel
theorem dL_areMachinesRight_179 : decode cL_areMachinesRight 179 = .ok (.iconst 1, 1) := by decide +kernel
theorem dL_areMachinesRight_180 : decode cL_areMachinesRight 180 = .ok (.iaload, 1) := by decide +kernel
theorem dL_areMachinesRight_181 : decode cL_areMachinesRight 181 = .ok (.ifCond .ge 6, 3) := by decide +kernel
theorem dL_areMachinesRight_184 : decode cL_areMachinesRight 184 = .ok (.goto 125, 3) := by decide +kernel
theorem dL_areMachinesRight_187 : decode cL_areMachinesRight 187 = .ok (.aload_n 0, 1) := by decide +kernel
theorem dL_areMachinesRight_188 : decode cL_areMachinesRight 188 = .ok (.iload_n 2, 1) := by decide +kernel
theorem dL_areMachinesRight_189 : decode cL_areMachinesRight 189 = .ok (.aload_n 1, 1) := by decide +kernel
theorem dL_areMachinesRight_190 : decode cL_areMachinesRight 190 = .ok (.iload_n 3, 1) := by decide +kernel
theorem dL_areMachinesRight_191 : decode cL_areMachinesRight 191 = .ok (.aaload, 1) := by decide +kernel
theorem dL_areMachinesRight_192 : decode cL_areMachinesRight 192 = .ok (.iconst 1, 1) := by decide +kernel
theorem dL_areMachinesRight_193 : decode cL_areMachinesRight 193 = .ok (.iaload, 1) := by decide +kernel
theorem dL_areMachinesRight_194 : decode cL_areMachinesRight 194 = .ok (.invokevirtual 131, 3) := by decide +kernel
theorem dL_areMachinesRight_197 : decode cL_areMachinesRight 197 = .ok (.istore 4, 2) := by decide +kernel
theorem dL_areMachinesRight_199 : decode cL_areMachinesRight 199 = .ok (.iload 4, 2) := by decide +kernel
theorem dL_areMachinesRight_201 : decode cL_areMachinesRight 201 = .ok (.iconst (-1), 1) := by decide +kernel
theorem dL_areMachinesRight_202 : decode cL_areMachinesRight 202 = .ok (.if_icmp .eq 11, 3) := by decide +kernel
theorem dL_areMachinesRight_205 : decode cL_areMachinesRight 205 = .ok (.iload 4, 2) := by decide +kernel
theorem dL_areMachinesRight_207 : decode cL_areMachinesRight 207 = .ok (.iload_n 3, 1) := by decide +kernel
theorem dL_areMachinesRight_208 : decode cL_areMachinesRight 208 = .ok (.if_icmp .eq 5, 3) := by decide +kernel
theorem dL_areMachinesRight_211 : decode cL_areMachinesRight 211 = .ok (.iconst 0, 1) := by decide +kernel
theorem dL_areMachinesRight_212 : decode cL_areMachinesRight 212 = .ok (.ireturn, 1) := by decide +kernel
theorem dL_areMachinesRight_213 : decode cL_areMachinesRight 213 = .ok (.aload_n 0, 1) := by decide +kernel
theorem dL_areMachinesRight_214 : decode cL_areMachinesRight 214 = .ok (.iload_n 2, 1) := by decide +kernel
theorem dL_areMachinesRight_215 : decode cL_areMachinesRight 215 = .ok (.aload_n 1, 1) := by decide +kernel
theorem dL_areMachinesRight_216 : decode cL_areMachinesRight 216 = .ok (.iload_n 3, 1) := by decide +kernel
theorem dL_areMachinesRight_217 : decode cL_areMachinesRight 217 = .ok (.aaload, 1) := by decide +kernel
theorem dL_areMachinesRight_218 : decode cL_areMachinesRight 218 = .ok (.iconst 1, 1) := by decide +kernel
theorem dL_areMachinesRight_219 : decode cL_areMachinesRight 219 = .ok (.iaload, 1) := by decide +kernel
theorem dL_areMachinesRight_220 : decode cL_areMachinesRight 220 = .ok (.iconst 0, 1) := by decide +kernel
theorem dL_areMachinesRight_221 : decode cL_areMachinesRight 221 = .ok (.invokevirtual 134, 3) := by decide +kernel
theorem dL_areMachinesRight_224 : decode cL_areMachinesRight 224 = .ok (.istore 5, 2) := by decide +kernel
theorem dL_areMachinesRight_226 : decode cL_areMachinesRight 226 = .ok (.iload 5, 2) := by decide +kernel
theorem dL_areMachinesRight_228 : decode cL_areMachinesRight 228 = .ok (.bipush (-2), 2) := by decide +kernel
theorem dL_areMachinesRight_230 : decode cL_areMachinesRight 230 = .ok (.if_icmp .lt 77, 3) := by decide +kernel
theorem dL_areMachinesRight_233 : decode cL_areMachinesRight 233 = .ok (.iload 5, 2) := by decide +kernel
theorem dL_areMachinesRight_235 : decode cL_areMachinesRight 235 = .ok (.iconst 3, 1) := by decide +kernel
theorem dL_areMachinesRight_236 : decode cL_areMachinesRight 236 = .ok (.if_icmp .gt 71, 3) := by decide +kernel
theorem dL_areMachinesRight_239 : decode cL_areMachinesRight 239 = .ok (.iload 5, 2) := by decide +kernel
theorem dL_areMachinesRight_241 : decode cL_areMachinesRight 241 = .ok (.iconst (-1), 1) := by decide +kernel
theorem dL_areMachinesRight_242 : decode cL_areMachinesRight 242 = .ok (.if_icmp .ne 7, 3) := by decide +kernel
theorem dL_areMachinesRight_245 : decode cL_areMachinesRight 245 = .ok (.iconst 1, 1) := by decide +kernel
theorem dL_areMachinesRight_246 : decode cL_areMachinesRight 246 = .ok (.goto 4, 3) := by decide +kernel
theorem dL_areMachinesRight_249 : decode cL_areMachinesRight 249 = .ok (.iconst 0, 1) := by decide +kernel
theorem dL_areMachinesRight_250 : decode cL_areMachinesRight 250 = .ok (.aload_n 0, 1) := by decide +kernel
theorem dL_areMachinesRight_251 : decode cL_areMachinesRight 251 = .ok (.iload_n 2, 1) := by decide +kernel
theorem dL_areMachinesRight_252 : decode cL_areMachinesRight 252 = .ok (.aload_n 1, 1) := by decide +kernel
theorem dL_areMachinesRight_253 : decode cL_areMachinesRight 253 = .ok (.iload_n 3, 1) := by decide +kernel
theorem dL_areMachinesRight_254 : decode cL_areMachinesRight 254 = .ok (.aaload, 1) := by decide +kernel
theorem dL_areMachinesRight_255 : decode cL_areMachinesRight 255 = .ok (.iconst 1, 1) := by decide +kernel
theorem dL_areMachinesRight_256 : decode cL_areMachinesRight 256 = .ok (.iaload, 1) := by decide +kernel
theorem dL_areMachinesRight_257 : decode cL_areMachinesRight 257 = .ok (.iconst 2, 1) := by decide +kernel
theorem dL_areMachinesRight_258 : decode cL_areMachinesRight 258 = .ok (.invokevirtual 134, 3) := by decide +kernel
theorem dL_areMachinesRight_261 : decode cL_areMachinesRight 261 = .ok (.iconst (-1), 1) := by decide +kernel
theorem dL_areMachinesRight_262 : decode cL_areMachinesRight 262 = .ok (.if_icmp .ne 7, 3) := by decide +kernel
theorem dL_areMachinesRight_265 : decode cL_areMachinesRight 265 = .ok (.iconst 1, 1) := by decide +kernel
theorem dL_areMachinesRight_266 : decode cL_areMachinesRight 266 = .ok (.goto 4, 3) := by decide +kernel
theorem dL_areMachinesRight_269 : decode cL_areMachinesRight 269 = .ok (.iconst 0, 1) := by decide +kernel
theorem dL_areMachinesRight_270 : decode cL_areMachinesRight 270 = .ok (.if_icmp .ne 37, 3) := by decide +kernel
theorem dL_areMachinesRight_273 : decode cL_areMachinesRight 273 = .ok (.iload 5, 2) := by decide +kernel
theorem dL_areMachinesRight_275 : decode cL_areMachinesRight 275 = .ok (.iconst (-1), 1) := by decide +kernel
theorem dL_areMachinesRight_276 : decode cL_areMachinesRight 276 = .ok (.if_icmp .ne 7, 3) := by decide +kernel
theorem dL_areMachinesRight_279 : decode cL_areMachinesRight 279 = .ok (.iconst 1, 1) := by decide +kernel
theorem dL_areMachinesRight_280 : decode cL_areMachinesRight 280 = .ok (.goto 4, 3) := by decide +kernel
theorem dL_areMachinesRight_283 : decode cL_areMachinesRight 283 = .ok (.iconst 0, 1) := by decide +kernel
theorem dL_areMachinesRight_284 : decode cL_areMachinesRight 284 = .ok (.aload_n 0, 1) := by decide +kernel
theorem dL_areMachinesRight_285 : decode cL_areMachinesRight 285 = .ok (.iload_n 2, 1) := by decide +kernel
theorem dL_areMachinesRight_286 : decode cL_areMachinesRight 286 = .ok (.aload_n 1, 1) := by decide +kernel
theorem dL_areMachinesRight_287 : decode cL_areMachinesRight 287 = .ok (.iload_n 3, 1) := by decide +kernel
theorem dL_areMachinesRight_288 : decode cL_areMachinesRight 288 = .ok (.aaload, 1) := by decide +kernel
theorem dL_areMachinesRight_289 : decode cL_areMachinesRight 289 = .ok (.iconst 1, 1) := by decide +kernel
theorem dL_areMachinesRight_290 : decode cL_areMachinesRight 290 = .ok (.iaload, 1) := by decide +kernel
theorem dL_areMachinesRight_291 : decode cL_areMachinesRight 291 = .ok (.iconst 1, 1) := by decide +kernel
theorem dL_areMachinesRight_292 : decode cL_areMachinesRight 292 = .ok (.invokevirtual 134, 3) := by decide +kernel
theorem dL_areMachinesRight_295 : decode cL_areMachinesRight 295 = .ok (.iconst (-1), 1) := by decide +kernel
theorem dL_areMachinesRight_296 : decode cL_areMachinesRight 296 = .ok (.if_icmp .ne 7, 3) := by decide +kernel
theorem dL_areMachinesRight_299 : decode cL_areMachinesRight 299 = .ok (.iconst 1, 1) := by decide +kernel
theorem dL_areMachinesRight_300 : decode cL_areMachinesRight 300 = .ok (.goto 4, 3) := by decide +kernel
theorem dL_areMachinesRight_303 : decode cL_areMachinesRight 303 = .ok (.iconst 0, 1) := by decide +kernel
theorem dL_areMachinesRight_304 : decode cL_areMachinesRight 304 = .ok (.if_icmp .eq 5, 3) := by decide +kernel
theorem dL_areMachinesRight_307 : decode cL_areMachinesRight 307 = .ok (.iconst 0, 1) := by decide +kernel
theorem dL_areMachinesRight_308 : decode cL_areMachinesRight 308 = .ok (.ireturn, 1) := by decide +kernel
theorem dL_areMachinesRight_309 : decode cL_areMachinesRight 309 = .ok (.iinc 3 1, 3) := by decide +kernel
theorem dL_areMachinesRight_312 : decode cL_areMachinesRight 312 = .ok (.goto (-142), 3) := by decide +kernel
theorem dL_areMachinesRight_315 : decode cL_areMachinesRight 315 = .ok (.iinc 2 1, 3) := by decide +kernel
theorem dL_areMachinesRight_318 : decode cL_areMachinesRight 318 = .ok (.goto (-278), 3) := by decide +kernel
theorem dL_areMachinesRight_321 : decode cL_areMachinesRight 321 = .ok (.iconst 1, 1) := by decide +kernel
theorem dL_areMachinesRight_322 : decode cL_areMachinesRight 322 = .ok (.ireturn, 1) := by decide +kernel
theorem dL_areFramesRight_0 : decode cL_areFramesRight 0 = .ok (.iconst 0, 1) := by decide +kernel
theorem dL_areFramesRight_1 : decode cL_areFramesRight 1 = .ok (.istore_n 2, 1) := by decide +kernel
theorem dL_areFramesRight_2 : decode cL_areFramesRight 2 = .ok (.iload_n 2, 1) := by decide +kernel
theorem dL_areFramesRight_3 : decode cL_areFramesRight 3 = .ok (.aload_n 0, 1) := by decide +kernel
theorem dL_areFramesRight_4 : decode cL_areFramesRight 4 = .ok (.invokevirtual 57, 3) := by decide +kernel
theorem dL_areFramesRight_7 : decode cL_areFramesRight 7 = .ok (.if_icmp .ge 152, 3) := by decide +kernel
theorem dL_areFramesRight_10 : decode cL_areFramesRight 10 = .ok (.aload_n 0, 1) := by decide +kernel
theorem dL_areFramesRight_11 : decode cL_areFramesRight 11 = .ok (.iload_n 2, 1) := by decide +kernel
theorem dL_areFramesRight_12 : decode cL_areFramesRight 12 = .ok (.iconst 1, 1) := by decide +kernel
theorem dL_areFramesRight_13 : decode cL_areFramesRight 13 = .ok (.invokevirtual 137, 3) := by decide +kernel
theorem dL_areFramesRight_16 : decode cL_areFramesRight 16 = .ok (.istore_n 3, 1) := by decide +kernel
theorem dL_areFramesRight_17 : decode cL_areFramesRight 17 = .ok (.aload_n 0, 1) := by decide +kernel
theorem dL_areFramesRight_18 : decode cL_areFramesRight 18 = .ok (.iload_n 2, 1) := by decide +kernel
theorem dL_areFramesRight_19 : decode cL_areFramesRight 19 = .ok (.iconst 2, 1) := by decide +kernel
theorem dL_areFramesRight_20 : decode cL_areFramesRight 20 = .ok (.invokevirtual 137, 3) := by decide +kernel
theorem dL_areFramesRight_23 : decode cL_areFramesRight 23 = .ok (.istore 4, 2) := by decide +kernel
theorem dL_areFramesRight_25 : decode cL_areFramesRight 25 = .ok (.aload_n 0, 1) := by decide +kernel
theorem dL_areFramesRight_26 : decode cL_areFramesRight 26 = .ok (.iload_n 2, 1) := by decide +kernel
theorem dL_areFramesRight_27 : decode cL_areFramesRight 27 = .ok (.iconst 3, 1) := by decide +kernel
theorem dL_areFramesRight_28 : decode cL_areFramesRight 28 = .ok (.invokevirtual 137, 3) := by decide +kernel
theorem dL_areFramesRight_31 : decode cL_areFramesRight 31 = .ok (.istore 5, 2) := by decide +kernel
theorem dL_areFramesRight_33 : decode cL_areFramesRight 33 = .ok (.aload_n 1, 1) := by decide +kernel
theorem dL_areFramesRight_34 : decode cL_areFramesRight 34 = .ok (.iload_n 3, 1) := by decide +kernel
theorem dL_areFramesRight_35 : decode cL_areFramesRight 35 = .ok (.aaload, 1) := by decide +kernel
theorem dL_areFramesRight_36 : decode cL_areFramesRight 36 = .ok (.iconst 1, 1) := by decide +kernel
theorem dL_areFramesRight_37 : decode cL_areFramesRight 37 = .ok (.iaload, 1) := by decide +kernel
theorem dL_areFramesRight_38 : decode cL_areFramesRight 38 = .ok (.ifCond .lt 57, 3) := by decide +kernel
theorem dL_areFramesRight_41 : decode cL_areFramesRight 41 = .ok (.aload_n 1, 1) := by decide +kernel
theorem dL_areFramesRight_42 : decode cL_areFramesRight 42 = .ok (.iload_n 3, 1) := by decide +kernel
theorem dL_areFramesRight_43 : decode cL_areFramesRight 43 = .ok (.aaload, 1) := by decide +kernel
theorem dL_areFramesRight_44 : decode cL_areFramesRight 44 = .ok (.iconst 0, 1) := by decide +kernel
theorem dL_areFramesRight_45 : decode cL_areFramesRight 45 = .ok (.iaload, 1) := by decide +kernel
theorem dL_areFramesRight_46 : decode cL_areFramesRight 46 = .ok (.aload_n 0, 1) := by decide +kernel
theorem dL_areFramesRight_47 : decode cL_areFramesRight 47 = .ok (.iload_n 2, 1) := by decide +kernel
theorem dL_areFramesRight_48 : decode cL_areFramesRight 48 = .ok (.iconst 0, 1) := by decide +kernel
theorem dL_areFramesRight_49 : decode cL_areFramesRight 49 = .ok (.invokevirtual 137, 3) := by decide +kernel
theorem dL_areFramesRight_52 : decode cL_areFramesRight 52 = .ok (.if_icmp .ne 43, 3) := by decide +kernel
theorem dL_areFramesRight_55 : decode cL_areFramesRight 55 = .ok (.iload 4, 2) := by decide +kernel
theorem dL_areFramesRight_57 : decode cL_areFramesRight 57 = .ok (.iconst (-1), 1) := by decide +kernel
theorem dL_areFramesRight_58 : decode cL_areFramesRight 58 = .ok (.if_icmp .eq 12, 3) := by decide +kernel
theorem dL_areFramesRight_61 : decode cL_areFramesRight 61 = .ok (.aload_n 1, 1) := by decide +kernel
theorem dL_areFramesRight_62 : decode cL_areFramesRight 62 = .ok (.iload 4, 2) := by decide +kernel
theorem dL_areFramesRight_64 : decode cL_areFramesRight 64 = .ok (.aaload, 1) := by decide +kernel
theorem dL_areFramesRight_65 : decode cL_areFramesRight 65 = .ok (.iconst 1, 1) := by decide +kernel
theorem dL_areFramesRight_66 : decode cL_areFramesRight 66 = .ok (.iaload, 1) := by decide +kernel
theorem dL_areFramesRight_67 : decode cL_areFramesRight 67 = .ok (.ifCond .lt 28, 3) := by decide +kernel
theorem dL_areFramesRight_70 : decode cL_areFramesRight 70 = .ok (.iload 4, 2) := by decide +kernel
theorem dL_areFramesRight_72 : decode cL_areFramesRight 72 = .ok (.iconst (-1), 1) := by decide +kernel
theorem dL_areFramesRight_73 : decode cL_areFramesRight 73 = .ok (.if_icmp .ne 7, 3) := by decide +kernel
theorem dL_areFramesRight_76 : decode cL_areFramesRight 76 = .ok (.iconst 1, 1) := by decide +kernel
theorem dL_areFramesRight_77 : decode cL_areFramesRight 77 = .ok (.goto 4, 3) := by decide +kernel
theorem dL_areFramesRight_80 : decode cL_areFramesRight 80 = .ok (.iconst 0, 1) := by decide +kernel
theorem dL_areFramesRight_81 : decode cL_areFramesRight 81 = .ok (.iload 5, 2) := by decide +kernel
theorem dL_areFramesRight_83 : decode cL_areFramesRight 83 = .ok (.iconst 1, 1) := by decide +kernel
theorem dL_areFramesRight_84 : decode cL_areFramesRight 84 = .ok (.if_icmp .ne 7, 3) := by decide +kernel
theorem dL_areFramesRight_87 : decode cL_areFramesRight 87 = .ok (.iconst 1, 1) := by decide +kernel
theorem dL_areFramesRight_88 : decode cL_areFramesRight 88 = .ok (.goto 4, 3) := by decide +kernel
theorem dL_areFramesRight_91 : decode cL_areFramesRight 91 = .ok (.iconst 0, 1) := by decide +kernel
theorem dL_areFramesRight_92 : decode cL_areFramesRight 92 = .ok (.if_icmp .eq 5, 3) := by decide +kernel
theorem dL_areFramesRight_95 : decode cL_areFramesRight 95 = .ok (.iconst 0, 1) := by decide +kernel
theorem dL_areFramesRight_96 : decode cL_areFramesRight 96 = .ok (.ireturn, 1) := by decide +kernel
theorem dL_areFramesRight_97 : decode cL_areFramesRight 97 = .ok (.iload 5, 2) := by decide +kernel
theorem dL_areFramesRight_99 : decode cL_areFramesRight 99 = .ok (.iconst 2, 1) := by decide +kernel
theorem dL_areFramesRight_100 : decode cL_areFramesRight 100 = .ok (.if_icmp .ne 17, 3) := by decide +kernel
theorem dL_areFramesRight_103 : decode cL_areFramesRight 103 = .ok (.aload_n 0, 1) := by decide +kernel
theorem dL_areFramesRight_104 : decode cL_areFramesRight 104 = .ok (.iload_n 2, 1) := by decide +kernel
theorem dL_areFramesRight_105 : decode cL_areFramesRight 105 = .ok (.iconst 4, 1) := by decide +kernel
theorem dL_areFramesRight_106 : decode cL_areFramesRight 106 = .ok (.invokevirtual 137, 3) := by decide +kernel
theorem dL_areFramesRight_109 : decode cL_areFramesRight 109 = .ok (.aload_n 1, 1) := by decide +kernel
theorem dL_areFramesRight_110 : decode cL_areFramesRight 110 = .ok (.iload_n 3, 1) := by decide +kernel
theorem dL_areFramesRight_111 : decode cL_areFramesRight 111 = .ok (.aaload, 1) := by decide +kernel
theorem dL_areFramesRight_112 : decode cL_areFramesRight 112 = .ok (.iconst 1, 1) := by decide +kernel
theorem dL_areFramesRight_113 : decode cL_areFramesRight 113 = .ok (.iaload, 1) := by decide +kernel
theorem dL_areFramesRight_114 : decode cL_areFramesRight 114 = .ok (.if_icmp .ne 37, 3) := by decide +kernel
theorem dL_areFramesRight_117 : decode cL_areFramesRight 117 = .ok (.iload 5, 2) := by decide +kernel
theorem dL_areFramesRight_119 : decode cL_areFramesRight 119 = .ok (.ifCond .ne 16, 3) := by decide +kernel
theorem dL_areFramesRight_122 : decode cL_areFramesRight 122 = .ok (.aload_n 0, 1) := by decide +kernel
theorem dL_areFramesRight_123 : decode cL_areFramesRight 123 = .ok (.iload_n 2, 1) := by decide +kernel
theorem dL_areFramesRight_124 : decode cL_areFramesRight 124 = .ok (.iconst 4, 1) := by decide +kernel
theorem dL_areFramesRight_125 : decode cL_areFramesRight 125 = .ok (.invokevirtual 137, 3) := by decide +kernel
theorem dL_areFramesRight_128 : decode cL_areFramesRight 128 = .ok (.aload_n 0, 1) := by decide +kernel
theorem dL_areFramesRight_129 : decode cL_areFramesRight 129 = .ok (.invokevirtual 54, 3) := by decide +kernel
theorem dL_areFramesRight_132 : decode cL_areFramesRight 132 = .ok (.if_icmp .ge 19, 3) := by decide +kernel
theorem dL_areFramesRight_135 : decode cL_areFramesRight 135 = .ok (.iload 5, 2) := by decide +kernel
theorem dL_areFramesRight_137 : decode cL_areFramesRight 137 = .ok (.ifCond .le 16, 3) := by decide +kernel
theorem dL_areFramesRight_140 : decode cL_areFramesRight 140 = .ok (.aload_n 0, 1) := by decide +kernel
theorem dL_areFramesRight_141 : decode cL_areFramesRight 141 = .ok (.iload_n 2, 1) := by decide +kernel
theorem dL_areFramesRight_142 : decode cL_areFramesRight 142 = .ok (.bipush 7, 2) := by decide +kernel
theorem dL_areFramesRight_144 : decode cL_areFramesRight 144 = .ok (.invokevirtual 137, 3) := by decide +kernel
theorem dL_areFramesRight_147 : decode cL_areFramesRight 147 = .ok (.iconst (-1), 1) := by decide +kernel
theorem dL_areFramesRight_148 : decode cL_areFramesRight 148 = .ok (.if_icmp .eq 5, 3) := by decide +kernel
theorem dL_areFramesRight_151 : decode cL_areFramesRight 151 = .ok (.iconst 0, 1) := by decide +kernel
theorem dL_areFramesRight_152 : decode cL_areFramesRight 152 = .ok (.ireturn, 1) := by decide +kernel
theorem dL_areFramesRight_153 : decode cL_areFramesRight 153 = .ok (.iinc 2 1, 3) := by decide +kernel
theorem dL_areFramesRight_156 : decode cL_areFramesRight 156 = .ok (.goto (-154), 3) := by decide +kernel
theorem dL_areFramesRight_159 : decode cL_areFramesRight 159 = .ok (.iconst 1, 1) := by decide +kernel
theorem dL_areFramesRight_160 : decode cL_areFramesRight 160 = .ok (.ireturn, 1) := by decide +kernel
theorem dL_areTriedRight_0 : decode cL_areTriedRight 0 = .ok (.iload_n 1, 1) := by decide +kernel
theorem dL_areTriedRight_1 : decode cL_areTriedRight 1 = .ok (.aload_n 0, 1) := by decide +kernel
theorem dL_areTriedRight_2 : decode cL_areTriedRight 2 = .ok (.invokevirtual 50, 3) := by decide +kernel
theorem dL_areTriedRight_5 : decode cL_areTriedRight 5 = .ok (.invokestatic 20, 3) := by decide +kernel
theorem dL_areTriedRight_8 : decode cL_areTriedRight 8 = .ok (.istore_n 3, 1) := by decide +kernel
theorem dL_areTriedRight_9 : decode cL_areTriedRight 9 = .ok (.aload_n 2, 1) := by decide +kernel
theorem dL_areTriedRight_10 : decode cL_areTriedRight 10 = .ok (.iload_n 1, 1) := by decide +kernel
theorem dL_areTriedRight_11 : decode cL_areTriedRight 11 = .ok (.iconst 4, 1) := by decide +kernel
theorem dL_areTriedRight_12 : decode cL_areTriedRight 12 = .ok (.ishr, 1) := by decide +kernel
theorem dL_areTriedRight_13 : decode cL_areTriedRight 13 = .ok (.invokestatic 67, 3) := by decide +kernel
theorem dL_areTriedRight_16 : decode cL_areTriedRight 16 = .ok (.istore 4, 2) := by decide +kernel
theorem dL_areTriedRight_18 : decode cL_areTriedRight 18 = .ok (.aload_n 0, 1) := by decide +kernel
theorem dL_areTriedRight_19 : decode cL_areTriedRight 19 = .ok (.iload_n 3, 1) := by decide +kernel
theorem dL_areTriedRight_20 : decode cL_areTriedRight 20 = .ok (.iload 4, 2) := by decide +kernel
theorem dL_areTriedRight_22 : decode cL_areTriedRight 22 = .ok (.invokevirtual 140, 3) := by decide +kernel
theorem dL_areTriedRight_25 : decode cL_areTriedRight 25 = .ok (.istore 5, 2) := by decide +kernel
theorem dL_areTriedRight_27 : decode cL_areTriedRight 27 = .ok (.aload_n 0, 1) := by decide +kernel
theorem dL_areTriedRight_28 : decode cL_areTriedRight 28 = .ok (.iload_n 3, 1) := by decide +kernel
theorem dL_areTriedRight_29 : decode cL_areTriedRight 29 = .ok (.iload 4, 2) := by decide +kernel
theorem dL_areTriedRight_31 : decode cL_areTriedRight 31 = .ok (.invokevirtual 143, 3) := by decide +kernel
theorem dL_areTriedRight_34 : decode cL_areTriedRight 34 = .ok (.istore 6, 2) := by decide +kernel
theorem dL_areTriedRight_36 : decode cL_areTriedRight 36 = .ok (.aload_n 0, 1) := by decide +kernel
theorem dL_areTriedRight_37 : decode cL_areTriedRight 37 = .ok (.iload_n 3, 1) := by decide +kernel
theorem dL_areTriedRight_38 : decode cL_areTriedRight 38 = .ok (.iload 4, 2) := by decide +kernel
theorem dL_areTriedRight_40 : decode cL_areTriedRight 40 = .ok (.bipush 12, 2) := by decide +kernel
theorem dL_areTriedRight_42 : decode cL_areTriedRight 42 = .ok (.invokevirtual 146, 3) := by decide +kernel
theorem dL_areTriedRight_45 : decode cL_areTriedRight 45 = .ok (.istore 7, 2) := by decide +kernel
theorem dL_areTriedRight_47 : decode cL_areTriedRight 47 = .ok (.iload 5, 2) := by decide +kernel
theorem dL_areTriedRight_49 : decode cL_areTriedRight 49 = .ok (.ifCond .le 15, 3) := by decide +kernel
theorem dL_areTriedRight_52 : decode cL_areTriedRight 52 = .ok (.aload_n 0, 1) := by decide +kernel
theorem dL_areTriedRight_53 : decode cL_areTriedRight 53 = .ok (.iload_n 3, 1) := by decide +kernel
theorem dL_areTriedRight_54 : decode cL_areTriedRight 54 = .ok (.iload 4, 2) := by decide +kernel
theorem dL_areTriedRight_56 : decode cL_areTriedRight 56 = .ok (.iload 5, 2) := by decide +kernel
theorem dL_areTriedRight_58 : decode cL_areTriedRight 58 = .ok (.invokevirtual 146, 3) := by decide +kernel
theorem dL_areTriedRight_61 : decode cL_areTriedRight 61 = .ok (.ifCond .lt 24, 3) := by decide +kernel
theorem dL_areTriedRight_64 : decode cL_areTriedRight 64 = .ok (.iload 6, 2) := by decide +kernel
theorem dL_areTriedRight_66 : decode cL_areTriedRight 66 = .ok (.iconst (-1), 1) := by decide +kernel
theorem dL_areTriedRight_67 : decode cL_areTriedRight 67 = .ok (.if_icmp .eq 20, 3) := by decide +kernel
theorem dL_areTriedRight_70 : decode cL_areTriedRight 70 = .ok (.iload 6, 2) := by decide +kernel
theorem dL_areTriedRight_72 : decode cL_areTriedRight 72 = .ok (.bipush 8, 2) := by decide +kernel
theorem dL_areTriedRight_74 : decode cL_areTriedRight 74 = .ok (.if_icmp .lt 11, 3) := by decide +kernel
theorem dL_areTriedRight_77 : decode cL_areTriedRight 77 = .ok (.iload 6, 2) := by decide +kernel
theorem dL_areTriedRight_79 : decode cL_areTriedRight 79 = .ok (.sipush 196, 3) := by decide +kernel
theorem dL_areTriedRight_82 : decode cL_areTriedRight 82 = .ok (.if_icmp .le 5, 3) := by decide +kernel
theorem dL_areTriedRight_85 : decode cL_areTriedRight 85 = .ok (.iconst 0, 1) := by decide +kernel
theorem dL_areTriedRight_86 : decode cL_areTriedRight 86 = .ok (.ireturn, 1) := by decide +kernel
theorem dL_areTriedRight_87 : decode cL_areTriedRight 87 = .ok (.iconst 4, 1) := by decide +kernel
theorem dL_areTriedRight_88 : decode cL_areTriedRight 88 = .ok (.iload_n 3, 1) := by decide +kernel
theorem dL_areTriedRight_89 : decode cL_areTriedRight 89 = .ok (.imul, 1) := by decide +kernel
theorem dL_areTriedRight_90 : decode cL_areTriedRight 90 = .ok (.istore 8, 2) := by decide +kernel
theorem dL_areTriedRight_92 : decode cL_areTriedRight 92 = .ok (.iload 8, 2) := by decide +kernel
theorem dL_areTriedRight_94 : decode cL_areTriedRight 94 = .ok (.iconst 4, 1) := by decide +kernel
theorem dL_areTriedRight_95 : decode cL_areTriedRight 95 = .ok (.iload_n 3, 1) := by decide +kernel
theorem dL_areTriedRight_96 : decode cL_areTriedRight 96 = .ok (.imul, 1) := by decide +kernel
theorem dL_areTriedRight_97 : decode cL_areTriedRight 97 = .ok (.iconst 4, 1) := by decide +kernel
theorem dL_areTriedRight_98 : decode cL_areTriedRight 98 = .ok (.iadd, 1) := by decide +kernel
theorem dL_areTriedRight_99 : decode cL_areTriedRight 99 = .ok (.if_icmp .ge 73, 3) := by decide +kernel
theorem dL_areTriedRight_102 : decode cL_areTriedRight 102 = .ok (.aload_n 2, 1) := by decide +kernel
theorem dL_areTriedRight_103 : decode cL_areTriedRight 103 = .ok (.iload 8, 2) := by decide +kernel
theorem dL_areTriedRight_105 : decode cL_areTriedRight 105 = .ok (.aaload, 1) := by decide +kernel
theorem dL_areTriedRight_106 : decode cL_areTriedRight 106 = .ok (.iconst 1, 1) := by decide +kernel
theorem dL_areTriedRight_107 : decode cL_areTriedRight 107 = .ok (.iaload, 1) := by decide +kernel
theorem dL_areTriedRight_108 : decode cL_areTriedRight 108 = .ok (.ifCond .lt 58, 3) := by decide +kernel
theorem dL_areTriedRight_111 : decode cL_areTriedRight 111 = .ok (.aload_n 0, 1) := by decide +kernel
theorem dL_areTriedRight_112 : decode cL_areTriedRight 112 = .ok (.iload_n 3, 1) := by decide +kernel
theorem dL_areTriedRight_113 : decode cL_areTriedRight 113 = .ok (.aload_n 2, 1) := by decide +kernel
theorem dL_areTriedRight_114 : decode cL_areTriedRight 114 = .ok (.iload 8, 2) := by decide +kernel
theorem dL_areTriedRight_116 : decode cL_areTriedRight 116 = .ok (.aaload, 1) := by decide +kernel
theorem dL_areTriedRight_117 : decode cL_areTriedRight 117 = .ok (.iconst 1, 1) := by decide +kernel
theorem dL_areTriedRight_118 : decode cL_areTriedRight 118 = .ok (.iaload, 1) := by decide +kernel
theorem dL_areTriedRight_119 : decode cL_areTriedRight 119 = .ok (.invokevirtual 140, 3) := by decide +kernel
theorem dL_areTriedRight_122 : decode cL_areTriedRight 122 = .ok (.iconst 1, 1) := by decide +kernel
theorem dL_areTriedRight_123 : decode cL_areTriedRight 123 = .ok (.if_icmp .ne 41, 3) := by decide +kernel
theorem dL_areTriedRight_126 : decode cL_areTriedRight 126 = .ok (.aload_n 0, 1) := by decide +kernel
theorem dL_areTriedRight_127 : decode cL_areTriedRight 127 = .ok (.iload_n 3, 1) := by decide +kernel
theorem dL_areTriedRight_128 : decode cL_areTriedRight 128 = .ok (.aload_n 2, 1) := by decide +kernel
theorem dL_areTriedRight_129 : decode cL_areTriedRight 129 = .ok (.iload 8, 2) := by decide +kernel
theorem dL_areTriedRight_131 : decode cL_areTriedRight 131 = .ok (.aaload, 1) := by decide +kernel
theorem dL_areTriedRight_132 : decode cL_areTriedRight 132 = .ok (.iconst 1, 1) := by decide +kernel
theorem dL_areTriedRight_133 : decode cL_areTriedRight 133 = .ok (.iaload, 1) := by decide +kernel
theorem dL_areTriedRight_134 : decode cL_areTriedRight 134 = .ok (.invokevirtual 143, 3) := by decide +kernel
theorem dL_areTriedRight_137 : decode cL_areTriedRight 137 = .ok (.sipush 196, 3) := by decide +kernel
theorem dL_areTriedRight_140 : decode cL_areTriedRight 140 = .ok (.if_icmp .ne 24, 3) := by decide +kernel
theorem dL_areTriedRight_143 : decode cL_areTriedRight 143 = .ok (.aload_n 0, 1) := by decide +kernel
theorem dL_areTriedRight_144 : decode cL_areTriedRight 144 = .ok (.iload_n 3, 1) := by decide +kernel
theorem dL_areTriedRight_145 : decode cL_areTriedRight 145 = .ok (.aload_n 2, 1) := by decide +kernel
theorem dL_areTriedRight_146 : decode cL_areTriedRight 146 = .ok (.iload 8, 2) := by decide +kernel
theorem dL_areTriedRight_148 : decode cL_areTriedRight 148 = .ok (.aaload, 1) := by decide +kernel
theorem dL_areTriedRight_149 : decode cL_areTriedRight 149 = .ok (.iconst 1, 1) := by decide +kernel
theorem dL_areTriedRight_150 : decode cL_areTriedRight 150 = .ok (.iaload, 1) := by decide +kernel
theorem dL_areTriedRight_151 : decode cL_areTriedRight 151 = .ok (.iconst 1, 1) := by decide +kernel
theorem dL_areTriedRight_152 : decode cL_areTriedRight 152 = .ok (.invokevirtual 146, 3) := by decide +kernel
theorem dL_areTriedRight_155 : decode cL_areTriedRight 155 = .ok (.aload_n 2, 1) := by decide +kernel
theorem dL_areTriedRight_156 : decode cL_areTriedRight 156 = .ok (.iload 8, 2) := by decide +kernel
theorem dL_areTriedRight_158 : decode cL_areTriedRight 158 = .ok (.aaload, 1) := by decide +kernel
theorem dL_areTriedRight_159 : decode cL_areTriedRight 159 = .ok (.iconst 1, 1) := by decide +kernel
theorem dL_areTriedRight_160 : decode cL_areTriedRight 160 = .ok (.iaload, 1) := by decide +kernel
theorem dL_areTriedRight_161 : decode cL_areTriedRight 161 = .ok (.if_icmp .eq 5, 3) := by decide +kernel
theorem dL_areTriedRight_164 : decode cL_areTriedRight 164 = .ok (.iconst 0, 1) := by decide +kernel
theorem dL_areTriedRight_165 : decode cL_areTriedRight 165 = .ok (.ireturn, 1) := by decide +kernel
theorem dL_areTriedRight_166 : decode cL_areTriedRight 166 = .ok (.iinc 8 1, 3) := by decide +kernel
theorem dL_areTriedRight_169 : decode cL_areTriedRight 169 = .ok (.goto (-77), 3) := by decide +kernel
theorem dL_areTriedRight_172 : decode cL_areTriedRight 172 = .ok (.iload 7, 2) := by decide +kernel
theorem dL_areTriedRight_174 : decode cL_areTriedRight 174 = .ok (.iconst (-1), 1) := by decide +kernel
theorem dL_areTriedRight_175 : decode cL_areTriedRight 175 = .ok (.if_icmp .lt 19, 3) := by decide +kernel
theorem dL_areTriedRight_178 : decode cL_areTriedRight 178 = .ok (.iload 5, 2) := by decide +kernel
theorem dL_areTriedRight_180 : decode cL_areTriedRight 180 = .ok (.bipush 12, 2) := by decide +kernel
theorem dL_areTriedRight_182 : decode cL_areTriedRight 182 = .ok (.if_icmp .gt 12, 3) := by decide +kernel
theorem dL_areTriedRight_185 : decode cL_areTriedRight 185 = .ok (.iload 5, 2) := by decide +kernel
theorem dL_areTriedRight_187 : decode cL_areTriedRight 187 = .ok (.ifCond .eq 7, 3) := by decide +kernel
theorem dL_areTriedRight_190 : decode cL_areTriedRight 190 = .ok (.iconst 1, 1) := by decide +kernel
theorem dL_areTriedRight_191 : decode cL_areTriedRight 191 = .ok (.goto 4, 3) := by decide +kernel
theorem dL_areTriedRight_194 : decode cL_areTriedRight 194 = .ok (.iconst 0, 1) := by decide +kernel
theorem dL_areTriedRight_195 : decode cL_areTriedRight 195 = .ok (.ireturn, 1) := by decide +kernel
