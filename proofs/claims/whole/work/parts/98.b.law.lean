/-! THE LAW: written by wip/whole/gen_law.py. -/
theorem wk_69 : Cond.classLink "BalancedLineLaw" 7 "BalancedLine" ∈ lw_g := lw_in 69 (by decide +kernel) (by decide +kernel)
theorem wk_70 : Cond.instantiable "BalancedLine" 5 ∈ lw_g := lw_in 70 (by decide +kernel) (by decide +kernel)
theorem wk_71 : Cond.methodLink "BalancedLineLaw" 9 ⟨"BalancedLine", "<init>", "()V"⟩ ∈ lw_g := lw_in 71 (by decide +kernel) (by decide +kernel)
theorem wk_72 : Cond.instanceMethod ⟨"BalancedLine", "<init>", "()V"⟩ ∈ lw_g := lw_in 72 (by decide +kernel) (by decide +kernel)
theorem wk_73 : Cond.code ⟨"BalancedLine", "<init>", "()V"⟩ prog_1_method_1_code 2 none ∈ lw_g := lw_in 73 (by decide +kernel) (by decide +kernel)
theorem wk_418 : Cond.methodLink "BalancedLineLaw" 13 ⟨"BalancedLine", "write", "(I)I"⟩ ∈ lw_g := lw_in 418 (by decide +kernel) (by decide +kernel)
theorem wk_419 : Cond.instanceMethod ⟨"BalancedLine", "write", "(I)I"⟩ ∈ lw_g := lw_in 419 (by decide +kernel) (by decide +kernel)
theorem wk_420 : Cond.selects "BalancedLine" ⟨"BalancedLine", "write", "(I)I"⟩ ⟨"BalancedLine", "write", "(I)I"⟩ ∈ lw_g := lw_in 420 (by decide +kernel) (by decide +kernel)
theorem wk_421 : Cond.code ⟨"BalancedLine", "write", "(I)I"⟩ prog_1_method_2_code 2 (some .int) ∈ lw_g := lw_in 421 (by decide +kernel) (by decide +kernel)
theorem wk_423 : Cond.methodLink "BalancedLineLaw" 18 ⟨"BalancedLine", "wipe", "()I"⟩ ∈ lw_g := lw_in 423 (by decide +kernel) (by decide +kernel)
theorem wk_424 : Cond.instanceMethod ⟨"BalancedLine", "wipe", "()I"⟩ ∈ lw_g := lw_in 424 (by decide +kernel) (by decide +kernel)
theorem wk_425 : Cond.selects "BalancedLine" ⟨"BalancedLine", "wipe", "()I"⟩ ⟨"BalancedLine", "wipe", "()I"⟩ ∈ lw_g := lw_in 425 (by decide +kernel) (by decide +kernel)
theorem wk_426 : Cond.code ⟨"BalancedLine", "wipe", "()I"⟩ prog_1_method_3_code 1 (some .int) ∈ lw_g := lw_in 426 (by decide +kernel) (by decide +kernel)
theorem wk_427 : Cond.methodLink "BalancedLineLaw" 23 ⟨"BalancedLine", "fault", "()I"⟩ ∈ lw_g := lw_in 427 (by decide +kernel) (by decide +kernel)
theorem wk_428 : Cond.instanceMethod ⟨"BalancedLine", "fault", "()I"⟩ ∈ lw_g := lw_in 428 (by decide +kernel) (by decide +kernel)
theorem wk_429 : Cond.selects "BalancedLine" ⟨"BalancedLine", "fault", "()I"⟩ ⟨"BalancedLine", "fault", "()I"⟩ ∈ lw_g := lw_in 429 (by decide +kernel) (by decide +kernel)
theorem wk_430 : Cond.code ⟨"BalancedLine", "fault", "()I"⟩ prog_1_method_4_code 1 (some .int) ∈ lw_g := lw_in 430 (by decide +kernel) (by decide +kernel)
theorem wk_431 : Cond.methodLink "BalancedLineLaw" 27 ⟨"BalancedLine", "lay", "()I"⟩ ∈ lw_g := lw_in 431 (by decide +kernel) (by decide +kernel)
theorem wk_432 : Cond.instanceMethod ⟨"BalancedLine", "lay", "()I"⟩ ∈ lw_g := lw_in 432 (by decide +kernel) (by decide +kernel)
theorem wk_433 : Cond.selects "BalancedLine" ⟨"BalancedLine", "lay", "()I"⟩ ⟨"BalancedLine", "lay", "()I"⟩ ∈ lw_g := lw_in 433 (by decide +kernel) (by decide +kernel)
theorem wk_434 : Cond.code ⟨"BalancedLine", "lay", "()I"⟩ prog_1_method_5_code 1 (some .int) ∈ lw_g := lw_in 434 (by decide +kernel) (by decide +kernel)
theorem wk_450 : Cond.methodLink "BalancedLineLaw" 31 ⟨"BalancedLine", "cycle", "(I)I"⟩ ∈ lw_g := lw_in 450 (by decide +kernel) (by decide +kernel)
theorem wk_451 : Cond.instanceMethod ⟨"BalancedLine", "cycle", "(I)I"⟩ ∈ lw_g := lw_in 451 (by decide +kernel) (by decide +kernel)
theorem wk_452 : Cond.selects "BalancedLine" ⟨"BalancedLine", "cycle", "(I)I"⟩ ⟨"BalancedLine", "cycle", "(I)I"⟩ ∈ lw_g := lw_in 452 (by decide +kernel) (by decide +kernel)
theorem wk_453 : Cond.code ⟨"BalancedLine", "cycle", "(I)I"⟩ prog_1_method_6_code 3 (some .int) ∈ lw_g := lw_in 453 (by decide +kernel) (by decide +kernel)
theorem wk_485 : Cond.methodLink "BalancedLineLaw" 35 ⟨"BalancedLine", "time", "(II)I"⟩ ∈ lw_g := lw_in 485 (by decide +kernel) (by decide +kernel)
theorem wk_486 : Cond.instanceMethod ⟨"BalancedLine", "time", "(II)I"⟩ ∈ lw_g := lw_in 486 (by decide +kernel) (by decide +kernel)
theorem wk_487 : Cond.selects "BalancedLine" ⟨"BalancedLine", "time", "(II)I"⟩ ⟨"BalancedLine", "time", "(II)I"⟩ ∈ lw_g := lw_in 487 (by decide +kernel) (by decide +kernel)
theorem wk_488 : Cond.code ⟨"BalancedLine", "time", "(II)I"⟩ prog_1_method_7_code 4 (some .int) ∈ lw_g := lw_in 488 (by decide +kernel) (by decide +kernel)
theorem wk_490 : Cond.methodLink "BalancedLineLaw" 40 ⟨"BalancedLine", "order", "(III)I"⟩ ∈ lw_g := lw_in 490 (by decide +kernel) (by decide +kernel)
theorem wk_491 : Cond.instanceMethod ⟨"BalancedLine", "order", "(III)I"⟩ ∈ lw_g := lw_in 491 (by decide +kernel) (by decide +kernel)
theorem wk_492 : Cond.selects "BalancedLine" ⟨"BalancedLine", "order", "(III)I"⟩ ⟨"BalancedLine", "order", "(III)I"⟩ ∈ lw_g := lw_in 492 (by decide +kernel) (by decide +kernel)
theorem wk_493 : Cond.code ⟨"BalancedLine", "order", "(III)I"⟩ prog_1_method_8_code 5 (some .int) ∈ lw_g := lw_in 493 (by decide +kernel) (by decide +kernel)
theorem wk_508 : Cond.methodLink "BalancedLineLaw" 45 ⟨"BalancedLine", "zone", "(III)I"⟩ ∈ lw_g := lw_in 508 (by decide +kernel) (by decide +kernel)
theorem wk_509 : Cond.instanceMethod ⟨"BalancedLine", "zone", "(III)I"⟩ ∈ lw_g := lw_in 509 (by decide +kernel) (by decide +kernel)
theorem wk_510 : Cond.selects "BalancedLine" ⟨"BalancedLine", "zone", "(III)I"⟩ ⟨"BalancedLine", "zone", "(III)I"⟩ ∈ lw_g := lw_in 510 (by decide +kernel) (by decide +kernel)
theorem wk_511 : Cond.code ⟨"BalancedLine", "zone", "(III)I"⟩ prog_1_method_9_code 5 (some .int) ∈ lw_g := lw_in 511 (by decide +kernel) (by decide +kernel)
theorem wk_514 : Cond.methodLink "BalancedLineLaw" 49 ⟨"BalancedLine", "undo", "()I"⟩ ∈ lw_g := lw_in 514 (by decide +kernel) (by decide +kernel)
theorem wk_515 : Cond.instanceMethod ⟨"BalancedLine", "undo", "()I"⟩ ∈ lw_g := lw_in 515 (by decide +kernel) (by decide +kernel)
theorem wk_516 : Cond.selects "BalancedLine" ⟨"BalancedLine", "undo", "()I"⟩ ⟨"BalancedLine", "undo", "()I"⟩ ∈ lw_g := lw_in 516 (by decide +kernel) (by decide +kernel)
theorem wk_517 : Cond.code ⟨"BalancedLine", "undo", "()I"⟩ prog_1_method_10_code 1 (some .int) ∈ lw_g := lw_in 517 (by decide +kernel) (by decide +kernel)
theorem wk_522 : Cond.methodLink "BalancedLineLaw" 53 ⟨"BalancedLine", "task", "(II)I"⟩ ∈ lw_g := lw_in 522 (by decide +kernel) (by decide +kernel)
theorem wk_523 : Cond.instanceMethod ⟨"BalancedLine", "task", "(II)I"⟩ ∈ lw_g := lw_in 523 (by decide +kernel) (by decide +kernel)
theorem wk_524 : Cond.selects "BalancedLine" ⟨"BalancedLine", "task", "(II)I"⟩ ⟨"BalancedLine", "task", "(II)I"⟩ ∈ lw_g := lw_in 524 (by decide +kernel) (by decide +kernel)
theorem wk_525 : Cond.code ⟨"BalancedLine", "task", "(II)I"⟩ prog_1_method_11_code 3 (some .int) ∈ lw_g := lw_in 525 (by decide +kernel) (by decide +kernel)
theorem wk_531 : Cond.methodLink "BalancedLineLaw" 57 ⟨"BalancedLine", "put", "(II)I"⟩ ∈ lw_g := lw_in 531 (by decide +kernel) (by decide +kernel)
theorem wk_532 : Cond.instanceMethod ⟨"BalancedLine", "put", "(II)I"⟩ ∈ lw_g := lw_in 532 (by decide +kernel) (by decide +kernel)
theorem wk_533 : Cond.selects "BalancedLine" ⟨"BalancedLine", "put", "(II)I"⟩ ⟨"BalancedLine", "put", "(II)I"⟩ ∈ lw_g := lw_in 533 (by decide +kernel) (by decide +kernel)
theorem wk_534 : Cond.code ⟨"BalancedLine", "put", "(II)I"⟩ prog_1_method_12_code 3 (some .int) ∈ lw_g := lw_in 534 (by decide +kernel) (by decide +kernel)
theorem wk_547 : Cond.methodLink "BalancedLineLaw" 61 ⟨"BalancedLine", "off", "(I)I"⟩ ∈ lw_g := lw_in 547 (by decide +kernel) (by decide +kernel)
theorem wk_548 : Cond.instanceMethod ⟨"BalancedLine", "off", "(I)I"⟩ ∈ lw_g := lw_in 548 (by decide +kernel) (by decide +kernel)
theorem wk_549 : Cond.selects "BalancedLine" ⟨"BalancedLine", "off", "(I)I"⟩ ⟨"BalancedLine", "off", "(I)I"⟩ ∈ lw_g := lw_in 549 (by decide +kernel) (by decide +kernel)
theorem wk_550 : Cond.code ⟨"BalancedLine", "off", "(I)I"⟩ prog_1_method_13_code 3 (some .int) ∈ lw_g := lw_in 550 (by decide +kernel) (by decide +kernel)
theorem wk_551 : Cond.methodLink "BalancedLineLaw" 65 ⟨"BalancedLine", "why", "(II)I"⟩ ∈ lw_g := lw_in 551 (by decide +kernel) (by decide +kernel)
theorem wk_552 : Cond.instanceMethod ⟨"BalancedLine", "why", "(II)I"⟩ ∈ lw_g := lw_in 552 (by decide +kernel) (by decide +kernel)
theorem wk_553 : Cond.selects "BalancedLine" ⟨"BalancedLine", "why", "(II)I"⟩ ⟨"BalancedLine", "why", "(II)I"⟩ ∈ lw_g := lw_in 553 (by decide +kernel) (by decide +kernel)
theorem wk_554 : Cond.code ⟨"BalancedLine", "why", "(II)I"⟩ prog_1_method_14_code 3 (some .int) ∈ lw_g := lw_in 554 (by decide +kernel) (by decide +kernel)
theorem wk_555 : Cond.methodLink "BalancedLineLaw" 69 ⟨"BalancedLine", "station", "(II)I"⟩ ∈ lw_g := lw_in 555 (by decide +kernel) (by decide +kernel)
theorem wk_556 : Cond.instanceMethod ⟨"BalancedLine", "station", "(II)I"⟩ ∈ lw_g := lw_in 556 (by decide +kernel) (by decide +kernel)
theorem wk_557 : Cond.selects "BalancedLine" ⟨"BalancedLine", "station", "(II)I"⟩ ⟨"BalancedLine", "station", "(II)I"⟩ ∈ lw_g := lw_in 557 (by decide +kernel) (by decide +kernel)
theorem wk_558 : Cond.code ⟨"BalancedLine", "station", "(II)I"⟩ prog_1_method_15_code 4 (some .int) ∈ lw_g := lw_in 558 (by decide +kernel) (by decide +kernel)
theorem wk_559 : Cond.methodLink "BalancedLineLaw" 73 ⟨"BalancedLine", "where", "(I)I"⟩ ∈ lw_g := lw_in 559 (by decide +kernel) (by decide +kernel)
theorem wk_560 : Cond.instanceMethod ⟨"BalancedLine", "where", "(I)I"⟩ ∈ lw_g := lw_in 560 (by decide +kernel) (by decide +kernel)
theorem wk_561 : Cond.selects "BalancedLine" ⟨"BalancedLine", "where", "(I)I"⟩ ⟨"BalancedLine", "where", "(I)I"⟩ ∈ lw_g := lw_in 561 (by decide +kernel) (by decide +kernel)
theorem wk_562 : Cond.code ⟨"BalancedLine", "where", "(I)I"⟩ prog_1_method_16_code 2 (some .int) ∈ lw_g := lw_in 562 (by decide +kernel) (by decide +kernel)
theorem wk_563 : Cond.methodLink "BalancedLineLaw" 77 ⟨"BalancedLine", "left", "()I"⟩ ∈ lw_g := lw_in 563 (by decide +kernel) (by decide +kernel)
theorem wk_564 : Cond.instanceMethod ⟨"BalancedLine", "left", "()I"⟩ ∈ lw_g := lw_in 564 (by decide +kernel) (by decide +kernel)
theorem wk_565 : Cond.selects "BalancedLine" ⟨"BalancedLine", "left", "()I"⟩ ⟨"BalancedLine", "left", "()I"⟩ ∈ lw_g := lw_in 565 (by decide +kernel) (by decide +kernel)
theorem wk_566 : Cond.code ⟨"BalancedLine", "left", "()I"⟩ prog_1_method_17_code 1 (some .int) ∈ lw_g := lw_in 566 (by decide +kernel) (by decide +kernel)
theorem wk_664 : Cond.methodLink "BalancedLineLaw" 81 ⟨"BalancedLine", "adopt", "()I"⟩ ∈ lw_g := lw_in 664 (by decide +kernel) (by decide +kernel)
theorem wk_665 : Cond.instanceMethod ⟨"BalancedLine", "adopt", "()I"⟩ ∈ lw_g := lw_in 665 (by decide +kernel) (by decide +kernel)
theorem wk_666 : Cond.selects "BalancedLine" ⟨"BalancedLine", "adopt", "()I"⟩ ⟨"BalancedLine", "adopt", "()I"⟩ ∈ lw_g := lw_in 666 (by decide +kernel) (by decide +kernel)
theorem wk_667 : Cond.code ⟨"BalancedLine", "adopt", "()I"⟩ prog_1_method_18_code 2 (some .int) ∈ lw_g := lw_in 667 (by decide +kernel) (by decide +kernel)
theorem wk_708 : Cond.methodLink "BalancedLineLaw" 85 ⟨"BalancedLine", "floor", "(I)I"⟩ ∈ lw_g := lw_in 708 (by decide +kernel) (by decide +kernel)
theorem wk_709 : Cond.instanceMethod ⟨"BalancedLine", "floor", "(I)I"⟩ ∈ lw_g := lw_in 709 (by decide +kernel) (by decide +kernel)
theorem wk_710 : Cond.selects "BalancedLine" ⟨"BalancedLine", "floor", "(I)I"⟩ ⟨"BalancedLine", "floor", "(I)I"⟩ ∈ lw_g := lw_in 710 (by decide +kernel) (by decide +kernel)
theorem wk_711 : Cond.code ⟨"BalancedLine", "floor", "(I)I"⟩ prog_1_method_19_code 2 (some .int) ∈ lw_g := lw_in 711 (by decide +kernel) (by decide +kernel)
theorem wk_715 : Cond.methodLink "BalancedLineLaw" 89 ⟨"BalancedLine", "load", "(I)I"⟩ ∈ lw_g := lw_in 715 (by decide +kernel) (by decide +kernel)
theorem wk_716 : Cond.instanceMethod ⟨"BalancedLine", "load", "(I)I"⟩ ∈ lw_g := lw_in 716 (by decide +kernel) (by decide +kernel)
theorem wk_717 : Cond.selects "BalancedLine" ⟨"BalancedLine", "load", "(I)I"⟩ ⟨"BalancedLine", "load", "(I)I"⟩ ∈ lw_g := lw_in 717 (by decide +kernel) (by decide +kernel)
theorem wk_718 : Cond.code ⟨"BalancedLine", "load", "(I)I"⟩ prog_1_method_20_code 2 (some .int) ∈ lw_g := lw_in 718 (by decide +kernel) (by decide +kernel)
theorem wk_731 : Cond.methodLink "BalancedLineLaw" 93 ⟨"BalancedLine", "full", "(I)I"⟩ ∈ lw_g := lw_in 731 (by decide +kernel) (by decide +kernel)
theorem wk_732 : Cond.instanceMethod ⟨"BalancedLine", "full", "(I)I"⟩ ∈ lw_g := lw_in 732 (by decide +kernel) (by decide +kernel)
theorem wk_733 : Cond.selects "BalancedLine" ⟨"BalancedLine", "full", "(I)I"⟩ ⟨"BalancedLine", "full", "(I)I"⟩ ∈ lw_g := lw_in 733 (by decide +kernel) (by decide +kernel)
theorem wk_734 : Cond.code ⟨"BalancedLine", "full", "(I)I"⟩ prog_1_method_21_code 2 (some .int) ∈ lw_g := lw_in 734 (by decide +kernel) (by decide +kernel)
theorem wk_735 : Cond.methodLink "BalancedLineLaw" 97 ⟨"BalancedLine", "fewest", "()I"⟩ ∈ lw_g := lw_in 735 (by decide +kernel) (by decide +kernel)
theorem wk_736 : Cond.instanceMethod ⟨"BalancedLine", "fewest", "()I"⟩ ∈ lw_g := lw_in 736 (by decide +kernel) (by decide +kernel)
theorem wk_737 : Cond.selects "BalancedLine" ⟨"BalancedLine", "fewest", "()I"⟩ ⟨"BalancedLine", "fewest", "()I"⟩ ∈ lw_g := lw_in 737 (by decide +kernel) (by decide +kernel)
theorem wk_738 : Cond.code ⟨"BalancedLine", "fewest", "()I"⟩ prog_1_method_22_code 1 (some .int) ∈ lw_g := lw_in 738 (by decide +kernel) (by decide +kernel)
theorem wk_739 : Cond.methodLink "BalancedLineLaw" 101 ⟨"BalancedLine", "best", "(I)I"⟩ ∈ lw_g := lw_in 739 (by decide +kernel) (by decide +kernel)
theorem wk_740 : Cond.instanceMethod ⟨"BalancedLine", "best", "(I)I"⟩ ∈ lw_g := lw_in 740 (by decide +kernel) (by decide +kernel)
theorem wk_741 : Cond.selects "BalancedLine" ⟨"BalancedLine", "best", "(I)I"⟩ ⟨"BalancedLine", "best", "(I)I"⟩ ∈ lw_g := lw_in 741 (by decide +kernel) (by decide +kernel)
theorem wk_742 : Cond.code ⟨"BalancedLine", "best", "(I)I"⟩ prog_1_method_23_code 2 (some .int) ∈ lw_g := lw_in 742 (by decide +kernel) (by decide +kernel)
theorem wk_743 : Cond.methodLink "BalancedLineLaw" 105 ⟨"BalancedLine", "many", "()I"⟩ ∈ lw_g := lw_in 743 (by decide +kernel) (by decide +kernel)
theorem wk_744 : Cond.instanceMethod ⟨"BalancedLine", "many", "()I"⟩ ∈ lw_g := lw_in 744 (by decide +kernel) (by decide +kernel)
theorem wk_745 : Cond.selects "BalancedLine" ⟨"BalancedLine", "many", "()I"⟩ ⟨"BalancedLine", "many", "()I"⟩ ∈ lw_g := lw_in 745 (by decide +kernel) (by decide +kernel)
theorem wk_746 : Cond.code ⟨"BalancedLine", "many", "()I"⟩ prog_1_method_24_code 1 (some .int) ∈ lw_g := lw_in 746 (by decide +kernel) (by decide +kernel)
theorem wk_747 : Cond.methodLink "BalancedLineLaw" 109 ⟨"BalancedLine", "may", "(I)I"⟩ ∈ lw_g := lw_in 747 (by decide +kernel) (by decide +kernel)
theorem wk_748 : Cond.instanceMethod ⟨"BalancedLine", "may", "(I)I"⟩ ∈ lw_g := lw_in 748 (by decide +kernel) (by decide +kernel)
theorem wk_749 : Cond.selects "BalancedLine" ⟨"BalancedLine", "may", "(I)I"⟩ ⟨"BalancedLine", "may", "(I)I"⟩ ∈ lw_g := lw_in 749 (by decide +kernel) (by decide +kernel)
theorem wk_750 : Cond.code ⟨"BalancedLine", "may", "(I)I"⟩ prog_1_method_25_code 2 (some .int) ∈ lw_g := lw_in 750 (by decide +kernel) (by decide +kernel)
theorem wk_755 : Cond.methodLink "BalancedLineLaw" 113 ⟨"BalancedLine", "shortest", "(I)I"⟩ ∈ lw_g := lw_in 755 (by decide +kernel) (by decide +kernel)
theorem wk_756 : Cond.instanceMethod ⟨"BalancedLine", "shortest", "(I)I"⟩ ∈ lw_g := lw_in 756 (by decide +kernel) (by decide +kernel)
theorem wk_757 : Cond.selects "BalancedLine" ⟨"BalancedLine", "shortest", "(I)I"⟩ ⟨"BalancedLine", "shortest", "(I)I"⟩ ∈ lw_g := lw_in 757 (by decide +kernel) (by decide +kernel)
theorem wk_758 : Cond.code ⟨"BalancedLine", "shortest", "(I)I"⟩ prog_1_method_26_code 2 (some .int) ∈ lw_g := lw_in 758 (by decide +kernel) (by decide +kernel)
theorem wk_780 : Cond.methodLink "BalancedLineLaw" 117 ⟨"BalancedLine", "by", "(I)I"⟩ ∈ lw_g := lw_in 780 (by decide +kernel) (by decide +kernel)
theorem wk_781 : Cond.instanceMethod ⟨"BalancedLine", "by", "(I)I"⟩ ∈ lw_g := lw_in 781 (by decide +kernel) (by decide +kernel)
theorem wk_782 : Cond.selects "BalancedLine" ⟨"BalancedLine", "by", "(I)I"⟩ ⟨"BalancedLine", "by", "(I)I"⟩ ∈ lw_g := lw_in 782 (by decide +kernel) (by decide +kernel)
theorem wk_783 : Cond.code ⟨"BalancedLine", "by", "(I)I"⟩ prog_1_method_27_code 2 (some .int) ∈ lw_g := lw_in 783 (by decide +kernel) (by decide +kernel)
theorem wk_792 : Cond.methodLink "BalancedLineLaw" 121 ⟨"BalancedLine", "were", "(II)I"⟩ ∈ lw_g := lw_in 792 (by decide +kernel) (by decide +kernel)
theorem wk_793 : Cond.instanceMethod ⟨"BalancedLine", "were", "(II)I"⟩ ∈ lw_g := lw_in 793 (by decide +kernel) (by decide +kernel)
theorem wk_794 : Cond.selects "BalancedLine" ⟨"BalancedLine", "were", "(II)I"⟩ ⟨"BalancedLine", "were", "(II)I"⟩ ∈ lw_g := lw_in 794 (by decide +kernel) (by decide +kernel)
theorem wk_795 : Cond.code ⟨"BalancedLine", "were", "(II)I"⟩ prog_1_method_28_code 3 (some .int) ∈ lw_g := lw_in 795 (by decide +kernel) (by decide +kernel)
theorem wk_800 : Cond.methodLink "BalancedLineLaw" 125 ⟨"BalancedLine", "binds", "(I)I"⟩ ∈ lw_g := lw_in 800 (by decide +kernel) (by decide +kernel)
theorem wk_801 : Cond.instanceMethod ⟨"BalancedLine", "binds", "(I)I"⟩ ∈ lw_g := lw_in 801 (by decide +kernel) (by decide +kernel)
theorem wk_802 : Cond.selects "BalancedLine" ⟨"BalancedLine", "binds", "(I)I"⟩ ⟨"BalancedLine", "binds", "(I)I"⟩ ∈ lw_g := lw_in 802 (by decide +kernel) (by decide +kernel)
theorem wk_803 : Cond.code ⟨"BalancedLine", "binds", "(I)I"⟩ prog_1_method_29_code 2 (some .int) ∈ lw_g := lw_in 803 (by decide +kernel) (by decide +kernel)
theorem wk_823 : Cond.methodLink "BalancedLineLaw" 129 ⟨"BalancedLine", "count", "(I)I"⟩ ∈ lw_g := lw_in 823 (by decide +kernel) (by decide +kernel)
theorem wk_824 : Cond.instanceMethod ⟨"BalancedLine", "count", "(I)I"⟩ ∈ lw_g := lw_in 824 (by decide +kernel) (by decide +kernel)
theorem wk_825 : Cond.selects "BalancedLine" ⟨"BalancedLine", "count", "(I)I"⟩ ⟨"BalancedLine", "count", "(I)I"⟩ ∈ lw_g := lw_in 825 (by decide +kernel) (by decide +kernel)
theorem wk_826 : Cond.code ⟨"BalancedLine", "count", "(I)I"⟩ prog_1_method_30_code 2 (some .int) ∈ lw_g := lw_in 826 (by decide +kernel) (by decide +kernel)
theorem wk_842 : Cond.classLink "BalancedLineLaw" 10 "BalancedLineModel" ∈ lw_g := lw_in 842 (by decide +kernel) (by decide +kernel)
theorem wk_843 : Cond.instantiable "BalancedLineModel" 15 ∈ lw_g := lw_in 843 (by decide +kernel) (by decide +kernel)
theorem wk_844 : Cond.methodLink "BalancedLineLaw" 12 ⟨"BalancedLineModel", "<init>", "()V"⟩ ∈ lw_g := lw_in 844 (by decide +kernel) (by decide +kernel)
theorem wk_845 : Cond.instanceMethod ⟨"BalancedLineModel", "<init>", "()V"⟩ ∈ lw_g := lw_in 845 (by decide +kernel) (by decide +kernel)
theorem wk_846 : Cond.code ⟨"BalancedLineModel", "<init>", "()V"⟩ prog_8_method_1_code 4 none ∈ lw_g := lw_in 846 (by decide +kernel) (by decide +kernel)
theorem wk_897 : Cond.methodLink "BalancedLineLaw" 17 ⟨"BalancedLineModel", "write", "(I)I"⟩ ∈ lw_g := lw_in 897 (by decide +kernel) (by decide +kernel)
theorem wk_898 : Cond.instanceMethod ⟨"BalancedLineModel", "write", "(I)I"⟩ ∈ lw_g := lw_in 898 (by decide +kernel) (by decide +kernel)
theorem wk_899 : Cond.selects "BalancedLineModel" ⟨"BalancedLineModel", "write", "(I)I"⟩ ⟨"BalancedLineModel", "write", "(I)I"⟩ ∈ lw_g := lw_in 899 (by decide +kernel) (by decide +kernel)
theorem wk_900 : Cond.code ⟨"BalancedLineModel", "write", "(I)I"⟩ prog_8_method_7_code 2 (some .int) ∈ lw_g := lw_in 900 (by decide +kernel) (by decide +kernel)
theorem wk_906 : Cond.methodLink "BalancedLineLaw" 22 ⟨"BalancedLineModel", "wipe", "()I"⟩ ∈ lw_g := lw_in 906 (by decide +kernel) (by decide +kernel)
theorem wk_907 : Cond.instanceMethod ⟨"BalancedLineModel", "wipe", "()I"⟩ ∈ lw_g := lw_in 907 (by decide +kernel) (by decide +kernel)
theorem wk_908 : Cond.selects "BalancedLineModel" ⟨"BalancedLineModel", "wipe", "()I"⟩ ⟨"BalancedLineModel", "wipe", "()I"⟩ ∈ lw_g := lw_in 908 (by decide +kernel) (by decide +kernel)
theorem wk_909 : Cond.code ⟨"BalancedLineModel", "wipe", "()I"⟩ prog_8_method_8_code 2 (some .int) ∈ lw_g := lw_in 909 (by decide +kernel) (by decide +kernel)
theorem wk_910 : Cond.methodLink "BalancedLineLaw" 26 ⟨"BalancedLineModel", "fault", "()I"⟩ ∈ lw_g := lw_in 910 (by decide +kernel) (by decide +kernel)
theorem wk_938 : Cond.methodLink "BalancedLineLaw" 30 ⟨"BalancedLineModel", "lay", "()I"⟩ ∈ lw_g := lw_in 938 (by decide +kernel) (by decide +kernel)
theorem wk_939 : Cond.instanceMethod ⟨"BalancedLineModel", "lay", "()I"⟩ ∈ lw_g := lw_in 939 (by decide +kernel) (by decide +kernel)
theorem wk_940 : Cond.selects "BalancedLineModel" ⟨"BalancedLineModel", "lay", "()I"⟩ ⟨"BalancedLineModel", "lay", "()I"⟩ ∈ lw_g := lw_in 940 (by decide +kernel) (by decide +kernel)
theorem wk_941 : Cond.code ⟨"BalancedLineModel", "lay", "()I"⟩ prog_8_method_14_code 2 (some .int) ∈ lw_g := lw_in 941 (by decide +kernel) (by decide +kernel)
theorem wk_943 : Cond.methodLink "BalancedLineLaw" 52 ⟨"BalancedLineModel", "undo", "()I"⟩ ∈ lw_g := lw_in 943 (by decide +kernel) (by decide +kernel)
theorem wk_944 : Cond.instanceMethod ⟨"BalancedLineModel", "undo", "()I"⟩ ∈ lw_g := lw_in 944 (by decide +kernel) (by decide +kernel)
theorem wk_945 : Cond.selects "BalancedLineModel" ⟨"BalancedLineModel", "undo", "()I"⟩ ⟨"BalancedLineModel", "undo", "()I"⟩ ∈ lw_g := lw_in 945 (by decide +kernel) (by decide +kernel)
theorem wk_946 : Cond.code ⟨"BalancedLineModel", "undo", "()I"⟩ prog_8_method_16_code 2 (some .int) ∈ lw_g := lw_in 946 (by decide +kernel) (by decide +kernel)
theorem wk_947 : Cond.methodLink "BalancedLineLaw" 34 ⟨"BalancedLineModel", "cycle", "(I)I"⟩ ∈ lw_g := lw_in 947 (by decide +kernel) (by decide +kernel)
theorem wk_948 : Cond.instanceMethod ⟨"BalancedLineModel", "cycle", "(I)I"⟩ ∈ lw_g := lw_in 948 (by decide +kernel) (by decide +kernel)
theorem wk_949 : Cond.selects "BalancedLineModel" ⟨"BalancedLineModel", "cycle", "(I)I"⟩ ⟨"BalancedLineModel", "cycle", "(I)I"⟩ ∈ lw_g := lw_in 949 (by decide +kernel) (by decide +kernel)
theorem wk_950 : Cond.code ⟨"BalancedLineModel", "cycle", "(I)I"⟩ prog_8_method_21_code 2 (some .int) ∈ lw_g := lw_in 950 (by decide +kernel) (by decide +kernel)
theorem wk_984 : Cond.methodLink "BalancedLineLaw" 39 ⟨"BalancedLineModel", "time", "(II)I"⟩ ∈ lw_g := lw_in 984 (by decide +kernel) (by decide +kernel)
theorem wk_985 : Cond.instanceMethod ⟨"BalancedLineModel", "time", "(II)I"⟩ ∈ lw_g := lw_in 985 (by decide +kernel) (by decide +kernel)
theorem wk_986 : Cond.selects "BalancedLineModel" ⟨"BalancedLineModel", "time", "(II)I"⟩ ⟨"BalancedLineModel", "time", "(II)I"⟩ ∈ lw_g := lw_in 986 (by decide +kernel) (by decide +kernel)
theorem wk_987 : Cond.code ⟨"BalancedLineModel", "time", "(II)I"⟩ prog_8_method_22_code 3 (some .int) ∈ lw_g := lw_in 987 (by decide +kernel) (by decide +kernel)
theorem wk_993 : Cond.methodLink "BalancedLineLaw" 44 ⟨"BalancedLineModel", "order", "(III)I"⟩ ∈ lw_g := lw_in 993 (by decide +kernel) (by decide +kernel)
theorem wk_994 : Cond.instanceMethod ⟨"BalancedLineModel", "order", "(III)I"⟩ ∈ lw_g := lw_in 994 (by decide +kernel) (by decide +kernel)
theorem wk_995 : Cond.selects "BalancedLineModel" ⟨"BalancedLineModel", "order", "(III)I"⟩ ⟨"BalancedLineModel", "order", "(III)I"⟩ ∈ lw_g := lw_in 995 (by decide +kernel) (by decide +kernel)
theorem wk_996 : Cond.code ⟨"BalancedLineModel", "order", "(III)I"⟩ prog_8_method_24_code 4 (some .int) ∈ lw_g := lw_in 996 (by decide +kernel) (by decide +kernel)
theorem wk_1008 : Cond.methodLink "BalancedLineLaw" 48 ⟨"BalancedLineModel", "zone", "(III)I"⟩ ∈ lw_g := lw_in 1008 (by decide +kernel) (by decide +kernel)
theorem wk_1009 : Cond.instanceMethod ⟨"BalancedLineModel", "zone", "(III)I"⟩ ∈ lw_g := lw_in 1009 (by decide +kernel) (by decide +kernel)
theorem wk_1010 : Cond.selects "BalancedLineModel" ⟨"BalancedLineModel", "zone", "(III)I"⟩ ⟨"BalancedLineModel", "zone", "(III)I"⟩ ∈ lw_g := lw_in 1010 (by decide +kernel) (by decide +kernel)
theorem wk_1011 : Cond.code ⟨"BalancedLineModel", "zone", "(III)I"⟩ prog_8_method_25_code 5 (some .int) ∈ lw_g := lw_in 1011 (by decide +kernel) (by decide +kernel)
theorem wk_1013 : Cond.methodLink "BalancedLineLaw" 56 ⟨"BalancedLineModel", "task", "(II)I"⟩ ∈ lw_g := lw_in 1013 (by decide +kernel) (by decide +kernel)
theorem wk_1014 : Cond.instanceMethod ⟨"BalancedLineModel", "task", "(II)I"⟩ ∈ lw_g := lw_in 1014 (by decide +kernel) (by decide +kernel)
theorem wk_1015 : Cond.selects "BalancedLineModel" ⟨"BalancedLineModel", "task", "(II)I"⟩ ⟨"BalancedLineModel", "task", "(II)I"⟩ ∈ lw_g := lw_in 1015 (by decide +kernel) (by decide +kernel)
theorem wk_1016 : Cond.code ⟨"BalancedLineModel", "task", "(II)I"⟩ prog_8_method_28_code 3 (some .int) ∈ lw_g := lw_in 1016 (by decide +kernel) (by decide +kernel)
theorem wk_1021 : Cond.methodLink "BalancedLineLaw" 60 ⟨"BalancedLineModel", "put", "(II)I"⟩ ∈ lw_g := lw_in 1021 (by decide +kernel) (by decide +kernel)
theorem wk_1022 : Cond.instanceMethod ⟨"BalancedLineModel", "put", "(II)I"⟩ ∈ lw_g := lw_in 1022 (by decide +kernel) (by decide +kernel)
theorem wk_1023 : Cond.selects "BalancedLineModel" ⟨"BalancedLineModel", "put", "(II)I"⟩ ⟨"BalancedLineModel", "put", "(II)I"⟩ ∈ lw_g := lw_in 1023 (by decide +kernel) (by decide +kernel)
theorem wk_1024 : Cond.code ⟨"BalancedLineModel", "put", "(II)I"⟩ prog_8_method_33_code 3 (some .int) ∈ lw_g := lw_in 1024 (by decide +kernel) (by decide +kernel)
theorem wk_1026 : Cond.methodLink "BalancedLineLaw" 64 ⟨"BalancedLineModel", "off", "(I)I"⟩ ∈ lw_g := lw_in 1026 (by decide +kernel) (by decide +kernel)
theorem wk_1027 : Cond.instanceMethod ⟨"BalancedLineModel", "off", "(I)I"⟩ ∈ lw_g := lw_in 1027 (by decide +kernel) (by decide +kernel)
theorem wk_1028 : Cond.selects "BalancedLineModel" ⟨"BalancedLineModel", "off", "(I)I"⟩ ⟨"BalancedLineModel", "off", "(I)I"⟩ ∈ lw_g := lw_in 1028 (by decide +kernel) (by decide +kernel)
theorem wk_1029 : Cond.code ⟨"BalancedLineModel", "off", "(I)I"⟩ prog_8_method_34_code 3 (some .int) ∈ lw_g := lw_in 1029 (by decide +kernel) (by decide +kernel)
theorem wk_1030 : Cond.methodLink "BalancedLineLaw" 68 ⟨"BalancedLineModel", "why", "(II)I"⟩ ∈ lw_g := lw_in 1030 (by decide +kernel) (by decide +kernel)
theorem wk_1031 : Cond.instanceMethod ⟨"BalancedLineModel", "why", "(II)I"⟩ ∈ lw_g := lw_in 1031 (by decide +kernel) (by decide +kernel)
theorem wk_1032 : Cond.selects "BalancedLineModel" ⟨"BalancedLineModel", "why", "(II)I"⟩ ⟨"BalancedLineModel", "why", "(II)I"⟩ ∈ lw_g := lw_in 1032 (by decide +kernel) (by decide +kernel)
theorem wk_1033 : Cond.code ⟨"BalancedLineModel", "why", "(II)I"⟩ prog_8_method_35_code 3 (some .int) ∈ lw_g := lw_in 1033 (by decide +kernel) (by decide +kernel)
theorem wk_1034 : Cond.methodLink "BalancedLineLaw" 72 ⟨"BalancedLineModel", "station", "(II)I"⟩ ∈ lw_g := lw_in 1034 (by decide +kernel) (by decide +kernel)
theorem wk_1035 : Cond.instanceMethod ⟨"BalancedLineModel", "station", "(II)I"⟩ ∈ lw_g := lw_in 1035 (by decide +kernel) (by decide +kernel)
theorem wk_1036 : Cond.selects "BalancedLineModel" ⟨"BalancedLineModel", "station", "(II)I"⟩ ⟨"BalancedLineModel", "station", "(II)I"⟩ ∈ lw_g := lw_in 1036 (by decide +kernel) (by decide +kernel)
theorem wk_1037 : Cond.code ⟨"BalancedLineModel", "station", "(II)I"⟩ prog_8_method_36_code 4 (some .int) ∈ lw_g := lw_in 1037 (by decide +kernel) (by decide +kernel)
theorem wk_1038 : Cond.methodLink "BalancedLineLaw" 76 ⟨"BalancedLineModel", "where", "(I)I"⟩ ∈ lw_g := lw_in 1038 (by decide +kernel) (by decide +kernel)
theorem wk_1039 : Cond.instanceMethod ⟨"BalancedLineModel", "where", "(I)I"⟩ ∈ lw_g := lw_in 1039 (by decide +kernel) (by decide +kernel)
theorem wk_1040 : Cond.selects "BalancedLineModel" ⟨"BalancedLineModel", "where", "(I)I"⟩ ⟨"BalancedLineModel", "where", "(I)I"⟩ ∈ lw_g := lw_in 1040 (by decide +kernel) (by decide +kernel)
theorem wk_1041 : Cond.code ⟨"BalancedLineModel", "where", "(I)I"⟩ prog_8_method_37_code 2 (some .int) ∈ lw_g := lw_in 1041 (by decide +kernel) (by decide +kernel)
theorem wk_1042 : Cond.methodLink "BalancedLineLaw" 100 ⟨"BalancedLineModel", "fewest", "()I"⟩ ∈ lw_g := lw_in 1042 (by decide +kernel) (by decide +kernel)
theorem wk_1070 : Cond.methodLink "BalancedLineLaw" 120 ⟨"BalancedLineModel", "by", "(I)I"⟩ ∈ lw_g := lw_in 1070 (by decide +kernel) (by decide +kernel)
theorem wk_1071 : Cond.instanceMethod ⟨"BalancedLineModel", "by", "(I)I"⟩ ∈ lw_g := lw_in 1071 (by decide +kernel) (by decide +kernel)
theorem wk_1072 : Cond.selects "BalancedLineModel" ⟨"BalancedLineModel", "by", "(I)I"⟩ ⟨"BalancedLineModel", "by", "(I)I"⟩ ∈ lw_g := lw_in 1072 (by decide +kernel) (by decide +kernel)
theorem wk_1073 : Cond.code ⟨"BalancedLineModel", "by", "(I)I"⟩ prog_8_method_45_code 2 (some .int) ∈ lw_g := lw_in 1073 (by decide +kernel) (by decide +kernel)
theorem wk_1074 : Cond.methodLink "BalancedLineLaw" 124 ⟨"BalancedLineModel", "were", "(II)I"⟩ ∈ lw_g := lw_in 1074 (by decide +kernel) (by decide +kernel)
theorem wk_1075 : Cond.instanceMethod ⟨"BalancedLineModel", "were", "(II)I"⟩ ∈ lw_g := lw_in 1075 (by decide +kernel) (by decide +kernel)
theorem wk_1076 : Cond.selects "BalancedLineModel" ⟨"BalancedLineModel", "were", "(II)I"⟩ ⟨"BalancedLineModel", "were", "(II)I"⟩ ∈ lw_g := lw_in 1076 (by decide +kernel) (by decide +kernel)
theorem wk_1077 : Cond.code ⟨"BalancedLineModel", "were", "(II)I"⟩ prog_8_method_46_code 5 (some .int) ∈ lw_g := lw_in 1077 (by decide +kernel) (by decide +kernel)
theorem wk_1079 : Cond.methodLink "BalancedLineLaw" 116 ⟨"BalancedLineModel", "shortest", "(I)I"⟩ ∈ lw_g := lw_in 1079 (by decide +kernel) (by decide +kernel)
theorem wk_1080 : Cond.instanceMethod ⟨"BalancedLineModel", "shortest", "(I)I"⟩ ∈ lw_g := lw_in 1080 (by decide +kernel) (by decide +kernel)
theorem wk_1081 : Cond.selects "BalancedLineModel" ⟨"BalancedLineModel", "shortest", "(I)I"⟩ ⟨"BalancedLineModel", "shortest", "(I)I"⟩ ∈ lw_g := lw_in 1081 (by decide +kernel) (by decide +kernel)
theorem wk_1082 : Cond.code ⟨"BalancedLineModel", "shortest", "(I)I"⟩ prog_8_method_47_code 5 (some .int) ∈ lw_g := lw_in 1082 (by decide +kernel) (by decide +kernel)
theorem wk_1083 : Cond.methodLink "BalancedLineLaw" 108 ⟨"BalancedLineModel", "many", "()I"⟩ ∈ lw_g := lw_in 1083 (by decide +kernel) (by decide +kernel)
theorem wk_1084 : Cond.instanceMethod ⟨"BalancedLineModel", "many", "()I"⟩ ∈ lw_g := lw_in 1084 (by decide +kernel) (by decide +kernel)
theorem wk_1085 : Cond.selects "BalancedLineModel" ⟨"BalancedLineModel", "many", "()I"⟩ ⟨"BalancedLineModel", "many", "()I"⟩ ∈ lw_g := lw_in 1085 (by decide +kernel) (by decide +kernel)
theorem wk_1086 : Cond.code ⟨"BalancedLineModel", "many", "()I"⟩ prog_8_method_48_code 6 (some .int) ∈ lw_g := lw_in 1086 (by decide +kernel) (by decide +kernel)
theorem wk_1088 : Cond.methodLink "BalancedLineLaw" 104 ⟨"BalancedLineModel", "best", "(I)I"⟩ ∈ lw_g := lw_in 1088 (by decide +kernel) (by decide +kernel)
theorem wk_1089 : Cond.instanceMethod ⟨"BalancedLineModel", "best", "(I)I"⟩ ∈ lw_g := lw_in 1089 (by decide +kernel) (by decide +kernel)
theorem wk_1090 : Cond.selects "BalancedLineModel" ⟨"BalancedLineModel", "best", "(I)I"⟩ ⟨"BalancedLineModel", "best", "(I)I"⟩ ∈ lw_g := lw_in 1090 (by decide +kernel) (by decide +kernel)
theorem wk_1091 : Cond.code ⟨"BalancedLineModel", "best", "(I)I"⟩ prog_8_method_52_code 2 (some .int) ∈ lw_g := lw_in 1091 (by decide +kernel) (by decide +kernel)
theorem wk_1104 : Cond.methodLink "BalancedLineLaw" 112 ⟨"BalancedLineModel", "may", "(I)I"⟩ ∈ lw_g := lw_in 1104 (by decide +kernel) (by decide +kernel)
theorem wk_1105 : Cond.instanceMethod ⟨"BalancedLineModel", "may", "(I)I"⟩ ∈ lw_g := lw_in 1105 (by decide +kernel) (by decide +kernel)
theorem wk_1106 : Cond.selects "BalancedLineModel" ⟨"BalancedLineModel", "may", "(I)I"⟩ ⟨"BalancedLineModel", "may", "(I)I"⟩ ∈ lw_g := lw_in 1106 (by decide +kernel) (by decide +kernel)
theorem wk_1107 : Cond.code ⟨"BalancedLineModel", "may", "(I)I"⟩ prog_8_method_53_code 2 (some .int) ∈ lw_g := lw_in 1107 (by decide +kernel) (by decide +kernel)
theorem wk_1108 : Cond.methodLink "BalancedLineLaw" 84 ⟨"BalancedLineModel", "adopt", "()I"⟩ ∈ lw_g := lw_in 1108 (by decide +kernel) (by decide +kernel)
theorem wk_1109 : Cond.instanceMethod ⟨"BalancedLineModel", "adopt", "()I"⟩ ∈ lw_g := lw_in 1109 (by decide +kernel) (by decide +kernel)
theorem wk_1110 : Cond.selects "BalancedLineModel" ⟨"BalancedLineModel", "adopt", "()I"⟩ ⟨"BalancedLineModel", "adopt", "()I"⟩ ∈ lw_g := lw_in 1110 (by decide +kernel) (by decide +kernel)
theorem wk_1111 : Cond.code ⟨"BalancedLineModel", "adopt", "()I"⟩ prog_8_method_54_code 3 (some .int) ∈ lw_g := lw_in 1111 (by decide +kernel) (by decide +kernel)
theorem wk_1112 : Cond.methodLink "BalancedLineLaw" 80 ⟨"BalancedLineModel", "left", "()I"⟩ ∈ lw_g := lw_in 1112 (by decide +kernel) (by decide +kernel)
theorem wk_1113 : Cond.instanceMethod ⟨"BalancedLineModel", "left", "()I"⟩ ∈ lw_g := lw_in 1113 (by decide +kernel) (by decide +kernel)
theorem wk_1114 : Cond.selects "BalancedLineModel" ⟨"BalancedLineModel", "left", "()I"⟩ ⟨"BalancedLineModel", "left", "()I"⟩ ∈ lw_g := lw_in 1114 (by decide +kernel) (by decide +kernel)
theorem wk_1115 : Cond.code ⟨"BalancedLineModel", "left", "()I"⟩ prog_8_method_55_code 8 (some .int) ∈ lw_g := lw_in 1115 (by decide +kernel) (by decide +kernel)
theorem wk_1116 : Cond.methodLink "BalancedLineLaw" 88 ⟨"BalancedLineModel", "floor", "(I)I"⟩ ∈ lw_g := lw_in 1116 (by decide +kernel) (by decide +kernel)
theorem wk_1117 : Cond.instanceMethod ⟨"BalancedLineModel", "floor", "(I)I"⟩ ∈ lw_g := lw_in 1117 (by decide +kernel) (by decide +kernel)
theorem wk_1118 : Cond.selects "BalancedLineModel" ⟨"BalancedLineModel", "floor", "(I)I"⟩ ⟨"BalancedLineModel", "floor", "(I)I"⟩ ∈ lw_g := lw_in 1118 (by decide +kernel) (by decide +kernel)
theorem wk_1119 : Cond.code ⟨"BalancedLineModel", "floor", "(I)I"⟩ prog_8_method_57_code 8 (some .int) ∈ lw_g := lw_in 1119 (by decide +kernel) (by decide +kernel)
theorem wk_1123 : Cond.methodLink "BalancedLineLaw" 92 ⟨"BalancedLineModel", "load", "(I)I"⟩ ∈ lw_g := lw_in 1123 (by decide +kernel) (by decide +kernel)
theorem wk_1124 : Cond.instanceMethod ⟨"BalancedLineModel", "load", "(I)I"⟩ ∈ lw_g := lw_in 1124 (by decide +kernel) (by decide +kernel)
theorem wk_1125 : Cond.selects "BalancedLineModel" ⟨"BalancedLineModel", "load", "(I)I"⟩ ⟨"BalancedLineModel", "load", "(I)I"⟩ ∈ lw_g := lw_in 1125 (by decide +kernel) (by decide +kernel)
theorem wk_1126 : Cond.code ⟨"BalancedLineModel", "load", "(I)I"⟩ prog_8_method_60_code 2 (some .int) ∈ lw_g := lw_in 1126 (by decide +kernel) (by decide +kernel)
theorem wk_1135 : Cond.methodLink "BalancedLineLaw" 96 ⟨"BalancedLineModel", "full", "(I)I"⟩ ∈ lw_g := lw_in 1135 (by decide +kernel) (by decide +kernel)
theorem wk_1136 : Cond.instanceMethod ⟨"BalancedLineModel", "full", "(I)I"⟩ ∈ lw_g := lw_in 1136 (by decide +kernel) (by decide +kernel)
theorem wk_1137 : Cond.selects "BalancedLineModel" ⟨"BalancedLineModel", "full", "(I)I"⟩ ⟨"BalancedLineModel", "full", "(I)I"⟩ ∈ lw_g := lw_in 1137 (by decide +kernel) (by decide +kernel)
theorem wk_1138 : Cond.code ⟨"BalancedLineModel", "full", "(I)I"⟩ prog_8_method_61_code 2 (some .int) ∈ lw_g := lw_in 1138 (by decide +kernel) (by decide +kernel)
theorem wk_1139 : Cond.methodLink "BalancedLineLaw" 128 ⟨"BalancedLineModel", "binds", "(I)I"⟩ ∈ lw_g := lw_in 1139 (by decide +kernel) (by decide +kernel)
theorem wk_1140 : Cond.instanceMethod ⟨"BalancedLineModel", "binds", "(I)I"⟩ ∈ lw_g := lw_in 1140 (by decide +kernel) (by decide +kernel)
theorem wk_1141 : Cond.selects "BalancedLineModel" ⟨"BalancedLineModel", "binds", "(I)I"⟩ ⟨"BalancedLineModel", "binds", "(I)I"⟩ ∈ lw_g := lw_in 1141 (by decide +kernel) (by decide +kernel)
theorem wk_1142 : Cond.code ⟨"BalancedLineModel", "binds", "(I)I"⟩ prog_8_method_62_code 8 (some .int) ∈ lw_g := lw_in 1142 (by decide +kernel) (by decide +kernel)
theorem wk_1143 : Cond.methodLink "BalancedLineLaw" 132 ⟨"BalancedLineModel", "count", "(I)I"⟩ ∈ lw_g := lw_in 1143 (by decide +kernel) (by decide +kernel)
theorem wk_1144 : Cond.instanceMethod ⟨"BalancedLineModel", "count", "(I)I"⟩ ∈ lw_g := lw_in 1144 (by decide +kernel) (by decide +kernel)
theorem wk_1145 : Cond.selects "BalancedLineModel" ⟨"BalancedLineModel", "count", "(I)I"⟩ ⟨"BalancedLineModel", "count", "(I)I"⟩ ∈ lw_g := lw_in 1145 (by decide +kernel) (by decide +kernel)
theorem wk_1146 : Cond.code ⟨"BalancedLineModel", "count", "(I)I"⟩ prog_8_method_65_code 3 (some .int) ∈ lw_g := lw_in 1146 (by decide +kernel) (by decide +kernel)
theorem zz_B_count : hc_z M_B_count 1 := ⟨wk_826, wk_54, by decide +kernel⟩
theorem zz_R_count : hc_z M_R_count 1 := ⟨wk_1146, wk_66, by decide +kernel⟩
theorem zz_B_binds : hc_z M_B_binds 1 := ⟨wk_803, wk_54, by decide +kernel⟩
theorem zz_R_binds : hc_z M_R_binds 1 := ⟨wk_1142, wk_66, by decide +kernel⟩
theorem zz_B_were : hc_z M_B_were 2 := ⟨wk_795, wk_54, by decide +kernel⟩
theorem zz_R_were : hc_z M_R_were 2 := ⟨wk_1077, wk_66, by decide +kernel⟩
theorem zz_B_by : hc_z M_B_by 1 := ⟨wk_783, wk_54, by decide +kernel⟩
theorem zz_R_by : hc_z M_R_by 1 := ⟨wk_1073, wk_66, by decide +kernel⟩
theorem zz_B_shortest : hc_z M_B_shortest 1 := ⟨wk_758, wk_54, by decide +kernel⟩
theorem zz_R_shortest : hc_z M_R_shortest 1 := ⟨wk_1082, wk_66, by decide +kernel⟩
theorem zz_B_may : hc_z M_B_may 1 := ⟨wk_750, wk_54, by decide +kernel⟩
theorem zz_R_may : hc_z M_R_may 1 := ⟨wk_1107, wk_66, by decide +kernel⟩
theorem zz_B_many : hc_z M_B_many 0 := ⟨wk_746, wk_54, by decide +kernel⟩
theorem zz_R_many : hc_z M_R_many 0 := ⟨wk_1086, wk_66, by decide +kernel⟩
theorem zz_B_best : hc_z M_B_best 1 := ⟨wk_742, wk_54, by decide +kernel⟩
theorem zz_R_best : hc_z M_R_best 1 := ⟨wk_1091, wk_66, by decide +kernel⟩
theorem zz_B_fewest : hc_z M_B_fewest 0 := ⟨wk_738, wk_54, by decide +kernel⟩
theorem zz_B_full : hc_z M_B_full 1 := ⟨wk_734, wk_54, by decide +kernel⟩
theorem zz_R_full : hc_z M_R_full 1 := ⟨wk_1138, wk_66, by decide +kernel⟩
theorem zz_B_load : hc_z M_B_load 1 := ⟨wk_718, wk_54, by decide +kernel⟩
theorem zz_R_load : hc_z M_R_load 1 := ⟨wk_1126, wk_66, by decide +kernel⟩
theorem zz_B_floor : hc_z M_B_floor 1 := ⟨wk_711, wk_54, by decide +kernel⟩
theorem zz_R_floor : hc_z M_R_floor 1 := ⟨wk_1119, wk_66, by decide +kernel⟩
theorem zz_B_adopt : hc_z M_B_adopt 0 := ⟨wk_667, wk_54, by decide +kernel⟩
theorem zz_R_adopt : hc_z M_R_adopt 0 := ⟨wk_1111, wk_66, by decide +kernel⟩
theorem zz_B_left : hc_z M_B_left 0 := ⟨wk_566, wk_54, by decide +kernel⟩
theorem zz_R_left : hc_z M_R_left 0 := ⟨wk_1115, wk_66, by decide +kernel⟩
theorem zz_B_where : hc_z M_B_where 1 := ⟨wk_562, wk_54, by decide +kernel⟩
theorem zz_R_where : hc_z M_R_where 1 := ⟨wk_1041, wk_66, by decide +kernel⟩
theorem zz_B_station : hc_z M_B_station 2 := ⟨wk_558, wk_54, by decide +kernel⟩
theorem zz_R_station : hc_z M_R_station 2 := ⟨wk_1037, wk_66, by decide +kernel⟩
theorem zz_B_why : hc_z M_B_why 2 := ⟨wk_554, wk_54, by decide +kernel⟩
theorem zz_R_why : hc_z M_R_why 2 := ⟨wk_1033, wk_66, by decide +kernel⟩
theorem zz_B_off : hc_z M_B_off 1 := ⟨wk_550, wk_54, by decide +kernel⟩
theorem zz_R_off : hc_z M_R_off 1 := ⟨wk_1029, wk_66, by decide +kernel⟩
theorem zz_B_put : hc_z M_B_put 2 := ⟨wk_534, wk_54, by decide +kernel⟩
theorem zz_R_put : hc_z M_R_put 2 := ⟨wk_1024, wk_66, by decide +kernel⟩
theorem zz_B_task : hc_z M_B_task 2 := ⟨wk_525, wk_54, by decide +kernel⟩
theorem zz_R_task : hc_z M_R_task 2 := ⟨wk_1016, wk_66, by decide +kernel⟩
theorem zz_B_undo : hc_z M_B_undo 0 := ⟨wk_517, wk_54, by decide +kernel⟩
theorem zz_R_undo : hc_z M_R_undo 0 := ⟨wk_946, wk_66, by decide +kernel⟩
theorem zz_B_zone : hc_z M_B_zone 3 := ⟨wk_511, wk_54, by decide +kernel⟩
theorem zz_R_zone : hc_z M_R_zone 3 := ⟨wk_1011, wk_66, by decide +kernel⟩
theorem zz_B_order : hc_z M_B_order 3 := ⟨wk_493, wk_54, by decide +kernel⟩
theorem zz_R_order : hc_z M_R_order 3 := ⟨wk_996, wk_66, by decide +kernel⟩
theorem zz_B_time : hc_z M_B_time 2 := ⟨wk_488, wk_54, by decide +kernel⟩
theorem zz_R_time : hc_z M_R_time 2 := ⟨wk_987, wk_66, by decide +kernel⟩
theorem zz_B_cycle : hc_z M_B_cycle 1 := ⟨wk_453, wk_54, by decide +kernel⟩
theorem zz_R_cycle : hc_z M_R_cycle 1 := ⟨wk_950, wk_66, by decide +kernel⟩
theorem zz_B_lay : hc_z M_B_lay 0 := ⟨wk_434, wk_54, by decide +kernel⟩
theorem zz_R_lay : hc_z M_R_lay 0 := ⟨wk_941, wk_66, by decide +kernel⟩
theorem zz_B_fault : hc_z M_B_fault 0 := ⟨wk_430, wk_54, by decide +kernel⟩
theorem zz_B_wipe : hc_z M_B_wipe 0 := ⟨wk_426, wk_54, by decide +kernel⟩
theorem zz_R_wipe : hc_z M_R_wipe 0 := ⟨wk_909, wk_66, by decide +kernel⟩
theorem zz_B_write : hc_z M_B_write 1 := ⟨wk_421, wk_54, by decide +kernel⟩
theorem zz_R_write : hc_z M_R_write 1 := ⟨wk_900, wk_66, by decide +kernel⟩
theorem zz_B_init : hc_z M_B_init 0 := ⟨wk_73, wk_54, by decide +kernel⟩
theorem zz_R_init : hc_z M_R_init 0 := ⟨wk_846, wk_66, by decide +kernel⟩
/-! BalancedLineLaw.law([I)Z -/
abbrev M_law : hc_M := (⟨"BalancedLineLaw", "law", "([I)Z"⟩, code, 4, (some .boolean), 10, 366)
theorem d_law_0 : decode (mC M_law) 0 = .ok (.new 7, 3) := by decide +kernel
theorem d_law_3 : decode (mC M_law) 3 = .ok (.dup, 1) := by decide +kernel
theorem d_law_4 : decode (mC M_law) 4 = .ok (.invokespecial 9, 3) := by decide +kernel
theorem d_law_7 : decode (mC M_law) 7 = .ok (.astore_n 1, 1) := by decide +kernel
theorem d_law_8 : decode (mC M_law) 8 = .ok (.new 10, 3) := by decide +kernel
theorem d_law_11 : decode (mC M_law) 11 = .ok (.dup, 1) := by decide +kernel
theorem d_law_12 : decode (mC M_law) 12 = .ok (.invokespecial 12, 3) := by decide +kernel
theorem d_law_15 : decode (mC M_law) 15 = .ok (.astore_n 2, 1) := by decide +kernel
theorem d_law_16 : decode (mC M_law) 16 = .ok (.iconst 0, 1) := by decide +kernel
theorem d_law_17 : decode (mC M_law) 17 = .ok (.istore_n 3, 1) := by decide +kernel
theorem d_law_18 : decode (mC M_law) 18 = .ok (.iload_n 3, 1) := by decide +kernel
theorem d_law_19 : decode (mC M_law) 19 = .ok (.aload_n 0, 1) := by decide +kernel
theorem d_law_20 : decode (mC M_law) 20 = .ok (.arraylength, 1) := by decide +kernel
theorem d_law_21 : decode (mC M_law) 21 = .ok (.iconst 4, 1) := by decide +kernel
theorem d_law_22 : decode (mC M_law) 22 = .ok (.isub, 1) := by decide +kernel
theorem d_law_23 : decode (mC M_law) 23 = .ok (.if_icmp .gt 834, 3) := by decide +kernel
theorem d_law_26 : decode (mC M_law) 26 = .ok (.aload_n 0, 1) := by decide +kernel
theorem d_law_27 : decode (mC M_law) 27 = .ok (.iload_n 3, 1) := by decide +kernel
theorem d_law_28 : decode (mC M_law) 28 = .ok (.iaload, 1) := by decide +kernel
theorem d_law_29 : decode (mC M_law) 29 = .ok (.bipush 31, 2) := by decide +kernel
theorem d_law_31 : decode (mC M_law) 31 = .ok (.iand, 1) := by decide +kernel
theorem d_law_32 : decode (mC M_law) 32 = .ok (.tableswitch 819 0 28 #[132, 155, 168, 181, 194, 217, 250, 293, 336, 349, 382, 415, 438, 471, 504, 527, 540, 553, 576, 599, 622, 635, 658, 671, 694, 717, 740, 773, 796], 132) := by decide +kernel
theorem d_law_164 : decode (mC M_law) 164 = .ok (.aload_n 1, 1) := by decide +kernel
theorem d_law_165 : decode (mC M_law) 165 = .ok (.aload_n 0, 1) := by decide +kernel
theorem d_law_166 : decode (mC M_law) 166 = .ok (.iload_n 3, 1) := by decide +kernel
theorem d_law_167 : decode (mC M_law) 167 = .ok (.iconst 1, 1) := by decide +kernel
theorem d_law_168 : decode (mC M_law) 168 = .ok (.iadd, 1) := by decide +kernel
theorem d_law_169 : decode (mC M_law) 169 = .ok (.iaload, 1) := by decide +kernel
theorem d_law_170 : decode (mC M_law) 170 = .ok (.invokevirtual 13, 3) := by decide +kernel
theorem d_law_173 : decode (mC M_law) 173 = .ok (.aload_n 2, 1) := by decide +kernel
theorem d_law_174 : decode (mC M_law) 174 = .ok (.aload_n 0, 1) := by decide +kernel
theorem d_law_175 : decode (mC M_law) 175 = .ok (.iload_n 3, 1) := by decide +kernel
theorem d_law_176 : decode (mC M_law) 176 = .ok (.iconst 1, 1) := by decide +kernel
theorem d_law_177 : decode (mC M_law) 177 = .ok (.iadd, 1) := by decide +kernel
theorem d_law_178 : decode (mC M_law) 178 = .ok (.iaload, 1) := by decide +kernel
theorem d_law_179 : decode (mC M_law) 179 = .ok (.invokevirtual 17, 3) := by decide +kernel
theorem d_law_182 : decode (mC M_law) 182 = .ok (.if_icmp .eq 669, 3) := by decide +kernel
theorem d_law_185 : decode (mC M_law) 185 = .ok (.iconst 0, 1) := by decide +kernel
theorem d_law_186 : decode (mC M_law) 186 = .ok (.ireturn, 1) := by decide +kernel
theorem d_law_187 : decode (mC M_law) 187 = .ok (.aload_n 1, 1) := by decide +kernel
theorem d_law_188 : decode (mC M_law) 188 = .ok (.invokevirtual 18, 3) := by decide +kernel
theorem d_law_191 : decode (mC M_law) 191 = .ok (.aload_n 2, 1) := by decide +kernel
theorem d_law_192 : decode (mC M_law) 192 = .ok (.invokevirtual 22, 3) := by decide +kernel
theorem d_law_195 : decode (mC M_law) 195 = .ok (.if_icmp .eq 656, 3) := by decide +kernel
theorem d_law_198 : decode (mC M_law) 198 = .ok (.iconst 0, 1) := by decide +kernel
theorem d_law_199 : decode (mC M_law) 199 = .ok (.ireturn, 1) := by decide +kernel
theorem d_law_200 : decode (mC M_law) 200 = .ok (.aload_n 1, 1) := by decide +kernel
theorem d_law_201 : decode (mC M_law) 201 = .ok (.invokevirtual 23, 3) := by decide +kernel
theorem d_law_204 : decode (mC M_law) 204 = .ok (.aload_n 2, 1) := by decide +kernel
theorem d_law_205 : decode (mC M_law) 205 = .ok (.invokevirtual 26, 3) := by decide +kernel
theorem d_law_208 : decode (mC M_law) 208 = .ok (.if_icmp .eq 643, 3) := by decide +kernel
theorem d_law_211 : decode (mC M_law) 211 = .ok (.iconst 0, 1) := by decide +kernel
theorem d_law_212 : decode (mC M_law) 212 = .ok (.ireturn, 1) := by decide +kernel
theorem d_law_213 : decode (mC M_law) 213 = .ok (.aload_n 1, 1) := by decide +kernel
theorem d_law_214 : decode (mC M_law) 214 = .ok (.invokevirtual 27, 3) := by decide +kernel
theorem d_law_217 : decode (mC M_law) 217 = .ok (.aload_n 2, 1) := by decide +kernel
theorem d_law_218 : decode (mC M_law) 218 = .ok (.invokevirtual 30, 3) := by decide +kernel
theorem d_law_221 : decode (mC M_law) 221 = .ok (.if_icmp .eq 630, 3) := by decide +kernel
theorem d_law_224 : decode (mC M_law) 224 = .ok (.iconst 0, 1) := by decide +kernel
theorem d_law_225 : decode (mC M_law) 225 = .ok (.ireturn, 1) := by decide +kernel
theorem d_law_226 : decode (mC M_law) 226 = .ok (.aload_n 1, 1) := by decide +kernel
theorem d_law_227 : decode (mC M_law) 227 = .ok (.aload_n 0, 1) := by decide +kernel
theorem d_law_228 : decode (mC M_law) 228 = .ok (.iload_n 3, 1) := by decide +kernel
theorem d_law_229 : decode (mC M_law) 229 = .ok (.iconst 1, 1) := by decide +kernel
theorem d_law_230 : decode (mC M_law) 230 = .ok (.iadd, 1) := by decide +kernel
theorem d_law_231 : decode (mC M_law) 231 = .ok (.iaload, 1) := by decide +kernel
theorem d_law_232 : decode (mC M_law) 232 = .ok (.invokevirtual 31, 3) := by decide +kernel
theorem d_law_235 : decode (mC M_law) 235 = .ok (.aload_n 2, 1) := by decide +kernel
theorem d_law_236 : decode (mC M_law) 236 = .ok (.aload_n 0, 1) := by decide +kernel
theorem d_law_237 : decode (mC M_law) 237 = .ok (.iload_n 3, 1) := by decide +kernel
theorem d_law_238 : decode (mC M_law) 238 = .ok (.iconst 1, 1) := by decide +kernel
theorem d_law_239 : decode (mC M_law) 239 = .ok (.iadd, 1) := by decide +kernel
theorem d_law_240 : decode (mC M_law) 240 = .ok (.iaload, 1) := by decide +kernel
theorem d_law_241 : decode (mC M_law) 241 = .ok (.invokevirtual 34, 3) := by decide +kernel
theorem d_law_244 : decode (mC M_law) 244 = .ok (.if_icmp .eq 607, 3) := by decide +kernel
theorem d_law_247 : decode (mC M_law) 247 = .ok (.iconst 0, 1) := by decide +kernel
theorem d_law_248 : decode (mC M_law) 248 = .ok (.ireturn, 1) := by decide +kernel
theorem d_law_249 : decode (mC M_law) 249 = .ok (.aload_n 1, 1) := by decide +kernel
theorem d_law_250 : decode (mC M_law) 250 = .ok (.aload_n 0, 1) := by decide +kernel
theorem d_law_251 : decode (mC M_law) 251 = .ok (.iload_n 3, 1) := by decide +kernel
theorem d_law_252 : decode (mC M_law) 252 = .ok (.iconst 1, 1) := by decide +kernel
theorem d_law_253 : decode (mC M_law) 253 = .ok (.iadd, 1) := by decide +kernel
theorem d_law_254 : decode (mC M_law) 254 = .ok (.iaload, 1) := by decide +kernel
theorem d_law_255 : decode (mC M_law) 255 = .ok (.aload_n 0, 1) := by decide +kernel
theorem d_law_256 : decode (mC M_law) 256 = .ok (.iload_n 3, 1) := by decide +kernel
theorem d_law_257 : decode (mC M_law) 257 = .ok (.iconst 2, 1) := by decide +kernel
theorem d_law_258 : decode (mC M_law) 258 = .ok (.iadd, 1) := by decide +kernel
theorem d_law_259 : decode (mC M_law) 259 = .ok (.iaload, 1) := by decide +kernel
theorem d_law_260 : decode (mC M_law) 260 = .ok (.invokevirtual 35, 3) := by decide +kernel
theorem d_law_263 : decode (mC M_law) 263 = .ok (.aload_n 2, 1) := by decide +kernel
theorem d_law_264 : decode (mC M_law) 264 = .ok (.aload_n 0, 1) := by decide +kernel
theorem d_law_265 : decode (mC M_law) 265 = .ok (.iload_n 3, 1) := by decide +kernel
theorem d_law_266 : decode (mC M_law) 266 = .ok (.iconst 1, 1) := by decide +kernel
theorem d_law_267 : decode (mC M_law) 267 = .ok (.iadd, 1) := by decide +kernel
theorem d_law_268 : decode (mC M_law) 268 = .ok (.iaload, 1) := by decide +kernel
theorem d_law_269 : decode (mC M_law) 269 = .ok (.aload_n 0, 1) := by decide +kernel
theorem d_law_270 : decode (mC M_law) 270 = .ok (.iload_n 3, 1) := by decide +kernel
theorem d_law_271 : decode (mC M_law) 271 = .ok (.iconst 2, 1) := by decide +kernel
theorem d_law_272 : decode (mC M_law) 272 = .ok (.iadd, 1) := by decide +kernel
theorem d_law_273 : decode (mC M_law) 273 = .ok (.iaload, 1) := by decide +kernel
theorem d_law_274 : decode (mC M_law) 274 = .ok (.invokevirtual 39, 3) := by decide +kernel
theorem d_law_277 : decode (mC M_law) 277 = .ok (.if_icmp .eq 574, 3) := by decide +kernel
theorem d_law_280 : decode (mC M_law) 280 = .ok (.iconst 0, 1) := by decide +kernel
theorem d_law_281 : decode (mC M_law) 281 = .ok (.ireturn, 1) := by decide +kernel
theorem d_law_282 : decode (mC M_law) 282 = .ok (.aload_n 1, 1) := by decide +kernel
theorem d_law_283 : decode (mC M_law) 283 = .ok (.aload_n 0, 1) := by decide +kernel
theorem d_law_284 : decode (mC M_law) 284 = .ok (.iload_n 3, 1) := by decide +kernel
theorem d_law_285 : decode (mC M_law) 285 = .ok (.iconst 1, 1) := by decide +kernel
theorem d_law_286 : decode (mC M_law) 286 = .ok (.iadd, 1) := by decide +kernel
theorem d_law_287 : decode (mC M_law) 287 = .ok (.iaload, 1) := by decide +kernel
theorem d_law_288 : decode (mC M_law) 288 = .ok (.aload_n 0, 1) := by decide +kernel
theorem d_law_289 : decode (mC M_law) 289 = .ok (.iload_n 3, 1) := by decide +kernel
theorem d_law_290 : decode (mC M_law) 290 = .ok (.iconst 2, 1) := by decide +kernel
theorem d_law_291 : decode (mC M_law) 291 = .ok (.iadd, 1) := by decide +kernel
theorem d_law_292 : decode (mC M_law) 292 = .ok (.iaload, 1) := by decide +kernel
theorem d_law_293 : decode (mC M_law) 293 = .ok (.aload_n 0, 1) := by decide +kernel
theorem d_law_294 : decode (mC M_law) 294 = .ok (.iload_n 3, 1) := by decide +kernel
theorem d_law_295 : decode (mC M_law) 295 = .ok (.iconst 3, 1) := by decide +kernel
theorem d_law_296 : decode (mC M_law) 296 = .ok (.iadd, 1) := by decide +kernel
theorem d_law_297 : decode (mC M_law) 297 = .ok (.iaload, 1) := by decide +kernel
theorem d_law_298 : decode (mC M_law) 298 = .ok (.invokevirtual 40, 3) := by decide +kernel
theorem d_law_301 : decode (mC M_law) 301 = .ok (.aload_n 2, 1) := by decide +kernel
theorem d_law_302 : decode (mC M_law) 302 = .ok (.aload_n 0, 1) := by decide +kernel
theorem d_law_303 : decode (mC M_law) 303 = .ok (.iload_n 3, 1) := by decide +kernel
theorem d_law_304 : decode (mC M_law) 304 = .ok (.iconst 1, 1) := by decide +kernel
theorem d_law_305 : decode (mC M_law) 305 = .ok (.iadd, 1) := by decide +kernel
theorem d_law_306 : decode (mC M_law) 306 = .ok (.iaload, 1) := by decide +kernel
theorem d_law_307 : decode (mC M_law) 307 = .ok (.aload_n 0, 1) := by decide +kernel
theorem d_law_308 : decode (mC M_law) 308 = .ok (.iload_n 3, 1) := by decide +kernel
theorem d_law_309 : decode (mC M_law) 309 = .ok (.iconst 2, 1) := by decide +kernel
theorem d_law_310 : decode (mC M_law) 310 = .ok (.iadd, 1) := by decide +kernel
theorem d_law_311 : decode (mC M_law) 311 = .ok (.iaload, 1) := by decide +kernel
theorem d_law_312 : decode (mC M_law) 312 = .ok (.aload_n 0, 1) := by decide +kernel
theorem d_law_313 : decode (mC M_law) 313 = .ok (.iload_n 3, 1) := by decide +kernel
theorem d_law_314 : decode (mC M_law) 314 = .ok (.iconst 3, 1) := by decide +kernel
theorem d_law_315 : decode (mC M_law) 315 = .ok (.iadd, 1) := by decide +kernel
theorem d_law_316 : decode (mC M_law) 316 = .ok (.iaload, 1) := by decide +kernel
theorem d_law_317 : decode (mC M_law) 317 = .ok (.invokevirtual 44, 3) := by decide +kernel
theorem d_law_320 : decode (mC M_law) 320 = .ok (.if_icmp .eq 531, 3) := by decide +kernel
theorem d_law_323 : decode (mC M_law) 323 = .ok (.iconst 0, 1) := by decide +kernel
theorem d_law_324 : decode (mC M_law) 324 = .ok (.ireturn, 1) := by decide +kernel
theorem d_law_325 : decode (mC M_law) 325 = .ok (.aload_n 1, 1) := by decide +kernel
theorem d_law_326 : decode (mC M_law) 326 = .ok (.aload_n 0, 1) := by decide +kernel
theorem d_law_327 : decode (mC M_law) 327 = .ok (.iload_n 3, 1) := by decide +kernel
theorem d_law_328 : decode (mC M_law) 328 = .ok (.iconst 1, 1) := by decide +kernel
theorem d_law_329 : decode (mC M_law) 329 = .ok (.iadd, 1) := by decide +kernel
theorem d_law_330 : decode (mC M_law) 330 = .ok (.iaload, 1) := by decide +kernel
theorem d_law_331 : decode (mC M_law) 331 = .ok (.aload_n 0, 1) := by decide +kernel
theorem d_law_332 : decode (mC M_law) 332 = .ok (.iload_n 3, 1) := by decide +kernel
theorem d_law_333 : decode (mC M_law) 333 = .ok (.iconst 2, 1) := by decide +kernel
theorem d_law_334 : decode (mC M_law) 334 = .ok (.iadd, 1) := by decide +kernel
theorem d_law_335 : decode (mC M_law) 335 = .ok (.iaload, 1) := by decide +kernel
theorem d_law_336 : decode (mC M_law) 336 = .ok (.aload_n 0, 1) := by decide +kernel
theorem d_law_337 : decode (mC M_law) 337 = .ok (.iload_n 3, 1) := by decide +kernel
theorem d_law_338 : decode (mC M_law) 338 = .ok (.iconst 3, 1) := by decide +kernel
theorem d_law_339 : decode (mC M_law) 339 = .ok (.iadd, 1) := by decide +kernel
theorem d_law_340 : decode (mC M_law) 340 = .ok (.iaload, 1) := by decide +kernel
theorem d_law_341 : decode (mC M_law) 341 = .ok (.invokevirtual 45, 3) := by decide +kernel
theorem d_law_344 : decode (mC M_law) 344 = .ok (.aload_n 2, 1) := by decide +kernel
theorem d_law_345 : decode (mC M_law) 345 = .ok (.aload_n 0, 1) := by decide +kernel
theorem d_law_346 : decode (mC M_law) 346 = .ok (.iload_n 3, 1) := by decide +kernel
theorem d_law_347 : decode (mC M_law) 347 = .ok (.iconst 1, 1) := by decide +kernel
theorem d_law_348 : decode (mC M_law) 348 = .ok (.iadd, 1) := by decide +kernel
theorem d_law_349 : decode (mC M_law) 349 = .ok (.iaload, 1) := by decide +kernel
theorem d_law_350 : decode (mC M_law) 350 = .ok (.aload_n 0, 1) := by decide +kernel
theorem d_law_351 : decode (mC M_law) 351 = .ok (.iload_n 3, 1) := by decide +kernel
theorem d_law_352 : decode (mC M_law) 352 = .ok (.iconst 2, 1) := by decide +kernel
theorem d_law_353 : decode (mC M_law) 353 = .ok (.iadd, 1) := by decide +kernel
theorem d_law_354 : decode (mC M_law) 354 = .ok (.iaload, 1) := by decide +kernel
theorem d_law_355 : decode (mC M_law) 355 = .ok (.aload_n 0, 1) := by decide +kernel
theorem d_law_356 : decode (mC M_law) 356 = .ok (.iload_n 3, 1) := by decide +kernel
theorem d_law_357 : decode (mC M_law) 357 = .ok (.iconst 3, 1) := by decide +kernel
theorem d_law_358 : decode (mC M_law) 358 = .ok (.iadd, 1) := by decide +kernel
theorem d_law_359 : decode (mC M_law) 359 = .ok (.iaload, 1) := by decide +kernel
theorem d_law_360 : decode (mC M_law) 360 = .ok (.invokevirtual 48, 3) := by decide +kernel
theorem d_law_363 : decode (mC M_law) 363 = .ok (.if_icmp .eq 488, 3) := by decide +kernel
theorem d_law_366 : decode (mC M_law) 366 = .ok (.iconst 0, 1) := by decide +kernel
theorem d_law_367 : decode (mC M_law) 367 = .ok (.ireturn, 1) := by decide +kernel
theorem d_law_368 : decode (mC M_law) 368 = .ok (.aload_n 1, 1) := by decide +kernel
theorem d_law_369 : decode (mC M_law) 369 = .ok (.invokevirtual 49, 3) := by decide +kernel
theorem d_law_372 : decode (mC M_law) 372 = .ok (.aload_n 2, 1) := by decide +kernel
theorem d_law_373 : decode (mC M_law) 373 = .ok (.invokevirtual 52, 3) := by decide +kernel
theorem d_law_376 : decode (mC M_law) 376 = .ok (.if_icmp .eq 475, 3) := by decide +kernel
theorem d_law_379 : decode (mC M_law) 379 = .ok (.iconst 0, 1) := by decide +kernel
theorem d_law_380 : decode (mC M_law) 380 = .ok (.ireturn, 1) := by decide +kernel
theorem d_law_381 : decode (mC M_law) 381 = .ok (.aload_n 1, 1) := by decide +kernel
theorem d_law_382 : decode (mC M_law) 382 = .ok (.aload_n 0, 1) := by decide +kernel
theorem d_law_383 : decode (mC M_law) 383 = .ok (.iload_n 3, 1) := by decide +kernel
theorem d_law_384 : decode (mC M_law) 384 = .ok (.iconst 1, 1) := by decide +kernel
theorem d_law_385 : decode (mC M_law) 385 = .ok (.iadd, 1) := by decide +kernel
theorem d_law_386 : decode (mC M_law) 386 = .ok (.iaload, 1) := by decide +kernel
theorem d_law_387 : decode (mC M_law) 387 = .ok (.aload_n 0, 1) := by decide +kernel
theorem d_law_388 : decode (mC M_law) 388 = .ok (.iload_n 3, 1) := by decide +kernel
theorem d_law_389 : decode (mC M_law) 389 = .ok (.iconst 2, 1) := by decide +kernel
theorem d_law_390 : decode (mC M_law) 390 = .ok (.iadd, 1) := by decide +kernel
theorem d_law_391 : decode (mC M_law) 391 = .ok (.iaload, 1) := by decide +kernel
theorem d_law_392 : decode (mC M_law) 392 = .ok (.invokevirtual 53, 3) := by decide +kernel
theorem d_law_395 : decode (mC M_law) 395 = .ok (.aload_n 2, 1) := by decide +kernel
theorem d_law_396 : decode (mC M_law) 396 = .ok (.aload_n 0, 1) := by decide +kernel
theorem d_law_397 : decode (mC M_law) 397 = .ok (.iload_n 3, 1) := by decide +kernel
theorem d_law_398 : decode (mC M_law) 398 = .ok (.iconst 1, 1) := by decide +kernel
theorem d_law_399 : decode (mC M_law) 399 = .ok (.iadd, 1) := by decide +kernel
theorem d_law_400 : decode (mC M_law) 400 = .ok (.iaload, 1) := by decide +kernel
theorem d_law_401 : decode (mC M_law) 401 = .ok (.aload_n 0, 1) := by decide +kernel
theorem d_law_402 : decode (mC M_law) 402 = .ok (.iload_n 3, 1) := by decide +kernel
theorem d_law_403 : decode (mC M_law) 403 = .ok (.iconst 2, 1) := by decide +kernel
theorem d_law_404 : decode (mC M_law) 404 = .ok (.iadd, 1) := by decide +kernel
theorem d_law_405 : decode (mC M_law) 405 = .ok (.iaload, 1) := by decide +kernel
theorem d_law_406 : decode (mC M_law) 406 = .ok (.invokevirtual 56, 3) := by decide +kernel
theorem d_law_409 : decode (mC M_law) 409 = .ok (.if_icmp .eq 442, 3) := by decide +kernel
theorem d_law_412 : decode (mC M_law) 412 = .ok (.iconst 0, 1) := by decide +kernel
theorem d_law_413 : decode (mC M_law) 413 = .ok (.ireturn, 1) := by decide +kernel
theorem d_law_414 : decode (mC M_law) 414 = .ok (.aload_n 1, 1) := by decide +kernel
theorem d_law_415 : decode (mC M_law) 415 = .ok (.aload_n 0, 1) := by decide +kernel
theorem d_law_416 : decode (mC M_law) 416 = .ok (.iload_n 3, 1) := by decide +kernel
theorem d_law_417 : decode (mC M_law) 417 = .ok (.iconst 1, 1) := by decide +kernel
theorem d_law_418 : decode (mC M_law) 418 = .ok (.iadd, 1) := by decide +kernel
theorem d_law_419 : decode (mC M_law) 419 = .ok (.iaload, 1) := by decide +kernel
theorem d_law_420 : decode (mC M_law) 420 = .ok (.aload_n 0, 1) := by decide +kernel
theorem d_law_421 : decode (mC M_law) 421 = .ok (.iload_n 3, 1) := by decide +kernel
theorem d_law_422 : decode (mC M_law) 422 = .ok (.iconst 2, 1) := by decide +kernel
theorem d_law_423 : decode (mC M_law) 423 = .ok (.iadd, 1) := by decide +kernel
theorem d_law_424 : decode (mC M_law) 424 = .ok (.iaload, 1) := by decide +kernel
theorem d_law_425 : decode (mC M_law) 425 = .ok (.invokevirtual 57, 3) := by decide +kernel
theorem d_law_428 : decode (mC M_law) 428 = .ok (.aload_n 2, 1) := by decide +kernel
theorem d_law_429 : decode (mC M_law) 429 = .ok (.aload_n 0, 1) := by decide +kernel
theorem d_law_430 : decode (mC M_law) 430 = .ok (.iload_n 3, 1) := by decide +kernel
theorem d_law_431 : decode (mC M_law) 431 = .ok (.iconst 1, 1) := by decide +kernel
theorem d_law_432 : decode (mC M_law) 432 = .ok (.iadd, 1) := by decide +kernel
theorem d_law_433 : decode (mC M_law) 433 = .ok (.iaload, 1) := by decide +kernel
theorem d_law_434 : decode (mC M_law) 434 = .ok (.aload_n 0, 1) := by decide +kernel
theorem d_law_435 : decode (mC M_law) 435 = .ok (.iload_n 3, 1) := by decide +kernel
theorem d_law_436 : decode (mC M_law) 436 = .ok (.iconst 2, 1) := by decide +kernel
theorem d_law_437 : decode (mC M_law) 437 = .ok (.iadd, 1) := by decide +kernel
theorem d_law_438 : decode (mC M_law) 438 = .ok (.iaload, 1) := by decide +kernel
theorem d_law_439 : decode (mC M_law) 439 = .ok (.invokevirtual 60, 3) := by decide +kernel
theorem d_law_442 : decode (mC M_law) 442 = .ok (.if_icmp .eq 409, 3) := by decide +kernel
theorem d_law_445 : decode (mC M_law) 445 = .ok (.iconst 0, 1) := by decide +kernel
theorem d_law_446 : decode (mC M_law) 446 = .ok (.ireturn, 1) := by decide +kernel
theorem d_law_447 : decode (mC M_law) 447 = .ok (.aload_n 1, 1) := by decide +kernel
theorem d_law_448 : decode (mC M_law) 448 = .ok (.aload_n 0, 1) := by decide +kernel
theorem d_law_449 : decode (mC M_law) 449 = .ok (.iload_n 3, 1) := by decide +kernel
theorem d_law_450 : decode (mC M_law) 450 = .ok (.iconst 1, 1) := by decide +kernel
theorem d_law_451 : decode (mC M_law) 451 = .ok (.iadd, 1) := by decide +kernel
theorem d_law_452 : decode (mC M_law) 452 = .ok (.iaload, 1) := by decide +kernel
theorem d_law_453 : decode (mC M_law) 453 = .ok (.invokevirtual 61, 3) := by decide +kernel
theorem d_law_456 : decode (mC M_law) 456 = .ok (.aload_n 2, 1) := by decide +kernel
theorem d_law_457 : decode (mC M_law) 457 = .ok (.aload_n 0, 1) := by decide +kernel
theorem d_law_458 : decode (mC M_law) 458 = .ok (.iload_n 3, 1) := by decide +kernel
theorem d_law_459 : decode (mC M_law) 459 = .ok (.iconst 1, 1) := by decide +kernel
theorem d_law_460 : decode (mC M_law) 460 = .ok (.iadd, 1) := by decide +kernel
theorem d_law_461 : decode (mC M_law) 461 = .ok (.iaload, 1) := by decide +kernel
theorem d_law_462 : decode (mC M_law) 462 = .ok (.invokevirtual 64, 3) := by decide +kernel
theorem d_law_465 : decode (mC M_law) 465 = .ok (.if_icmp .eq 386, 3) := by decide +kernel
theorem d_law_468 : decode (mC M_law) 468 = .ok (.iconst 0, 1) := by decide +kernel
theorem d_law_469 : decode (mC M_law) 469 = .ok (.ireturn, 1) := by decide +kernel
theorem d_law_470 : decode (mC M_law) 470 = .ok (.aload_n 1, 1) := by decide +kernel
theorem d_law_471 : decode (mC M_law) 471 = .ok (.aload_n 0, 1) := by decide +kernel
theorem d_law_472 : decode (mC M_law) 472 = .ok (.iload_n 3, 1) := by decide +kernel
theorem d_law_473 : decode (mC M_law) 473 = .ok (.iconst 1, 1) := by decide +kernel
theorem d_law_474 : decode (mC M_law) 474 = .ok (.iadd, 1) := by decide +kernel
theorem d_law_475 : decode (mC M_law) 475 = .ok (.iaload, 1) := by decide +kernel
theorem d_law_476 : decode (mC M_law) 476 = .ok (.aload_n 0, 1) := by decide +kernel
theorem d_law_477 : decode (mC M_law) 477 = .ok (.iload_n 3, 1) := by decide +kernel
theorem d_law_478 : decode (mC M_law) 478 = .ok (.iconst 2, 1) := by decide +kernel
theorem d_law_479 : decode (mC M_law) 479 = .ok (.iadd, 1) := by decide +kernel
theorem d_law_480 : decode (mC M_law) 480 = .ok (.iaload, 1) := by decide +kernel
theorem d_law_481 : decode (mC M_law) 481 = .ok (.invokevirtual 65, 3) := by decide +kernel
theorem d_law_484 : decode (mC M_law) 484 = .ok (.aload_n 2, 1) := by decide +kernel
theorem d_law_485 : decode (mC M_law) 485 = .ok (.aload_n 0, 1) := by decide +kernel
theorem d_law_486 : decode (mC M_law) 486 = .ok (.iload_n 3, 1) := by decide +kernel
theorem d_law_487 : decode (mC M_law) 487 = .ok (.iconst 1, 1) := by decide +kernel
theorem d_law_488 : decode (mC M_law) 488 = .ok (.iadd, 1) := by decide +kernel
theorem d_law_489 : decode (mC M_law) 489 = .ok (.iaload, 1) := by decide +kernel
theorem d_law_490 : decode (mC M_law) 490 = .ok (.aload_n 0, 1) := by decide +kernel
theorem d_law_491 : decode (mC M_law) 491 = .ok (.iload_n 3, 1) := by decide +kernel
theorem d_law_492 : decode (mC M_law) 492 = .ok (.iconst 2, 1) := by decide +kernel
theorem d_law_493 : decode (mC M_law) 493 = .ok (.iadd, 1) := by decide +kernel
theorem d_law_494 : decode (mC M_law) 494 = .ok (.iaload, 1) := by decide +kernel
theorem d_law_495 : decode (mC M_law) 495 = .ok (.invokevirtual 68, 3) := by decide +kernel
theorem d_law_498 : decode (mC M_law) 498 = .ok (.if_icmp .eq 353, 3) := by decide +kernel
theorem d_law_501 : decode (mC M_law) 501 = .ok (.iconst 0, 1) := by decide +kernel
theorem d_law_502 : decode (mC M_law) 502 = .ok (.ireturn, 1) := by decide +kernel
theorem d_law_503 : decode (mC M_law) 503 = .ok (.aload_n 1, 1) := by decide +kernel
theorem d_law_504 : decode (mC M_law) 504 = .ok (.aload_n 0, 1) := by decide +kernel
theorem d_law_505 : decode (mC M_law) 505 = .ok (.iload_n 3, 1) := by decide +kernel
theorem d_law_506 : decode (mC M_law) 506 = .ok (.iconst 1, 1) := by decide +kernel
theorem d_law_507 : decode (mC M_law) 507 = .ok (.iadd, 1) := by decide +kernel
theorem d_law_508 : decode (mC M_law) 508 = .ok (.iaload, 1) := by decide +kernel
theorem d_law_509 : decode (mC M_law) 509 = .ok (.aload_n 0, 1) := by decide +kernel
theorem d_law_510 : decode (mC M_law) 510 = .ok (.iload_n 3, 1) := by decide +kernel
theorem d_law_511 : decode (mC M_law) 511 = .ok (.iconst 2, 1) := by decide +kernel
theorem d_law_512 : decode (mC M_law) 512 = .ok (.iadd, 1) := by decide +kernel
theorem d_law_513 : decode (mC M_law) 513 = .ok (.iaload, 1) := by decide +kernel
theorem d_law_514 : decode (mC M_law) 514 = .ok (.invokevirtual 69, 3) := by decide +kernel
theorem d_law_517 : decode (mC M_law) 517 = .ok (.aload_n 2, 1) := by decide +kernel
theorem d_law_518 : decode (mC M_law) 518 = .ok (.aload_n 0, 1) := by decide +kernel
theorem d_law_519 : decode (mC M_law) 519 = .ok (.iload_n 3, 1) := by decide +kernel
theorem d_law_520 : decode (mC M_law) 520 = .ok (.iconst 1, 1) := by decide +kernel
theorem d_law_521 : decode (mC M_law) 521 = .ok (.iadd, 1) := by decide +kernel
theorem d_law_522 : decode (mC M_law) 522 = .ok (.iaload, 1) := by decide +kernel
theorem d_law_523 : decode (mC M_law) 523 = .ok (.aload_n 0, 1) := by decide +kernel
theorem d_law_524 : decode (mC M_law) 524 = .ok (.iload_n 3, 1) := by decide +kernel
theorem d_law_525 : decode (mC M_law) 525 = .ok (.iconst 2, 1) := by decide +kernel
theorem d_law_526 : decode (mC M_law) 526 = .ok (.iadd, 1) := by decide +kernel
theorem d_law_527 : decode (mC M_law) 527 = .ok (.iaload, 1) := by decide +kernel
theorem d_law_528 : decode (mC M_law) 528 = .ok (.invokevirtual 72, 3) := by decide +kernel
theorem d_law_531 : decode (mC M_law) 531 = .ok (.if_icmp .eq 320, 3) := by decide +kernel
theorem d_law_534 : decode (mC M_law) 534 = .ok (.iconst 0, 1) := by decide +kernel
theorem d_law_535 : decode (mC M_law) 535 = .ok (.ireturn, 1) := by decide +kernel
theorem d_law_536 : decode (mC M_law) 536 = .ok (.aload_n 1, 1) := by decide +kernel
theorem d_law_537 : decode (mC M_law) 537 = .ok (.aload_n 0, 1) := by decide +kernel
theorem d_law_538 : decode (mC M_law) 538 = .ok (.iload_n 3, 1) := by decide +kernel
theorem d_law_539 : decode (mC M_law) 539 = .ok (.iconst 1, 1) := by decide +kernel
theorem d_law_540 : decode (mC M_law) 540 = .ok (.iadd, 1) := by decide +kernel
theorem d_law_541 : decode (mC M_law) 541 = .ok (.iaload, 1) := by decide +kernel
theorem d_law_542 : decode (mC M_law) 542 = .ok (.invokevirtual 73, 3) := by decide +kernel
theorem d_law_545 : decode (mC M_law) 545 = .ok (.aload_n 2, 1) := by decide +kernel
theorem d_law_546 : decode (mC M_law) 546 = .ok (.aload_n 0, 1) := by decide +kernel
theorem d_law_547 : decode (mC M_law) 547 = .ok (.iload_n 3, 1) := by decide +kernel
theorem d_law_548 : decode (mC M_law) 548 = .ok (.iconst 1, 1) := by decide +kernel
theorem d_law_549 : decode (mC M_law) 549 = .ok (.iadd, 1) := by decide +kernel
theorem d_law_550 : decode (mC M_law) 550 = .ok (.iaload, 1) := by decide +kernel
theorem d_law_551 : decode (mC M_law) 551 = .ok (.invokevirtual 76, 3) := by decide +kernel
theorem d_law_554 : decode (mC M_law) 554 = .ok (.if_icmp .eq 297, 3) := by decide +kernel
theorem d_law_557 : decode (mC M_law) 557 = .ok (.iconst 0, 1) := by decide +kernel
theorem d_law_558 : decode (mC M_law) 558 = .ok (.ireturn, 1) := by decide +kernel
theorem d_law_559 : decode (mC M_law) 559 = .ok (.aload_n 1, 1) := by decide +kernel
theorem d_law_560 : decode (mC M_law) 560 = .ok (.invokevirtual 77, 3) := by decide +kernel
theorem d_law_563 : decode (mC M_law) 563 = .ok (.aload_n 2, 1) := by decide +kernel
theorem d_law_564 : decode (mC M_law) 564 = .ok (.invokevirtual 80, 3) := by decide +kernel
theorem d_law_567 : decode (mC M_law) 567 = .ok (.if_icmp .eq 284, 3) := by decide +kernel
theorem d_law_570 : decode (mC M_law) 570 = .ok (.iconst 0, 1) := by decide +kernel
theorem d_law_571 : decode (mC M_law) 571 = .ok (.ireturn, 1) := by decide +kernel
theorem d_law_572 : decode (mC M_law) 572 = .ok (.aload_n 1, 1) := by decide +kernel
theorem d_law_573 : decode (mC M_law) 573 = .ok (.invokevirtual 81, 3) := by decide +kernel
theorem d_law_576 : decode (mC M_law) 576 = .ok (.aload_n 2, 1) := by decide +kernel
theorem d_law_577 : decode (mC M_law) 577 = .ok (.invokevirtual 84, 3) := by decide +kernel
theorem d_law_580 : decode (mC M_law) 580 = .ok (.if_icmp .eq 271, 3) := by decide +kernel
theorem d_law_583 : decode (mC M_law) 583 = .ok (.iconst 0, 1) := by decide +kernel
theorem d_law_584 : decode (mC M_law) 584 = .ok (.ireturn, 1) := by decide +kernel
theorem d_law_585 : decode (mC M_law) 585 = .ok (.aload_n 1, 1) := by decide +kernel
theorem d_law_586 : decode (mC M_law) 586 = .ok (.aload_n 0, 1) := by decide +kernel
theorem d_law_587 : decode (mC M_law) 587 = .ok (.iload_n 3, 1) := by decide +kernel
theorem d_law_588 : decode (mC M_law) 588 = .ok (.iconst 1, 1) := by decide +kernel
theorem d_law_589 : decode (mC M_law) 589 = .ok (.iadd, 1) := by decide +kernel
theorem d_law_590 : decode (mC M_law) 590 = .ok (.iaload, 1) := by decide +kernel
theorem d_law_591 : decode (mC M_law) 591 = .ok (.invokevirtual 85, 3) := by decide +kernel
theorem d_law_594 : decode (mC M_law) 594 = .ok (.aload_n 2, 1) := by decide +kernel
theorem d_law_595 : decode (mC M_law) 595 = .ok (.aload_n 0, 1) := by decide +kernel
theorem d_law_596 : decode (mC M_law) 596 = .ok (.iload_n 3, 1) := by decide +kernel
theorem d_law_597 : decode (mC M_law) 597 = .ok (.iconst 1, 1) := by decide +kernel
theorem d_law_598 : decode (mC M_law) 598 = .ok (.iadd, 1) := by decide +kernel
theorem d_law_599 : decode (mC M_law) 599 = .ok (.iaload, 1) := by decide +kernel
theorem d_law_600 : decode (mC M_law) 600 = .ok (.invokevirtual 88, 3) := by decide +kernel
theorem d_law_603 : decode (mC M_law) 603 = .ok (.if_icmp .eq 248, 3) := by decide +kernel
theorem d_law_606 : decode (mC M_law) 606 = .ok (.iconst 0, 1) := by decide +kernel
theorem d_law_607 : decode (mC M_law) 607 = .ok (.ireturn, 1) := by decide +kernel
theorem d_law_608 : decode (mC M_law) 608 = .ok (.aload_n 1, 1) := by decide +kernel
theorem d_law_609 : decode (mC M_law) 609 = .ok (.aload_n 0, 1) := by decide +kernel
theorem d_law_610 : decode (mC M_law) 610 = .ok (.iload_n 3, 1) := by decide +kernel
theorem d_law_611 : decode (mC M_law) 611 = .ok (.iconst 1, 1) := by decide +kernel
theorem d_law_612 : decode (mC M_law) 612 = .ok (.iadd, 1) := by decide +kernel
theorem d_law_613 : decode (mC M_law) 613 = .ok (.iaload, 1) := by decide +kernel
theorem d_law_614 : decode (mC M_law) 614 = .ok (.invokevirtual 89, 3) := by decide +kernel
theorem d_law_617 : decode (mC M_law) 617 = .ok (.aload_n 2, 1) := by decide +kernel
theorem d_law_618 : decode (mC M_law) 618 = .ok (.aload_n 0, 1) := by decide +kernel
theorem d_law_619 : decode (mC M_law) 619 = .ok (.iload_n 3, 1) := by decide +kernel
theorem d_law_620 : decode (mC M_law) 620 = .ok (.iconst 1, 1) := by decide +kernel
theorem d_law_621 : decode (mC M_law) 621 = .ok (.iadd, 1) := by decide +kernel
theorem d_law_622 : decode (mC M_law) 622 = .ok (.iaload, 1) := by decide +kernel
theorem d_law_623 : decode (mC M_law) 623 = .ok (.invokevirtual 92, 3) := by decide +kernel
theorem d_law_626 : decode (mC M_law) 626 = .ok (.if_icmp .eq 225, 3) := by decide +kernel
theorem d_law_629 : decode (mC M_law) 629 = .ok (.iconst 0, 1) := by decide +kernel
theorem d_law_630 : decode (mC M_law) 630 = .ok (.ireturn, 1) := by decide +kernel
theorem d_law_631 : decode (mC M_law) 631 = .ok (.aload_n 1, 1) := by decide +kernel
theorem d_law_632 : decode (mC M_law) 632 = .ok (.aload_n 0, 1) := by decide +kernel
theorem d_law_633 : decode (mC M_law) 633 = .ok (.iload_n 3, 1) := by decide +kernel
theorem d_law_634 : decode (mC M_law) 634 = .ok (.iconst 1, 1) := by decide +kernel
theorem d_law_635 : decode (mC M_law) 635 = .ok (.iadd, 1) := by decide +kernel
theorem d_law_636 : decode (mC M_law) 636 = .ok (.iaload, 1) := by decide +kernel
theorem d_law_637 : decode (mC M_law) 637 = .ok (.invokevirtual 93, 3) := by decide +kernel
theorem d_law_640 : decode (mC M_law) 640 = .ok (.aload_n 2, 1) := by decide +kernel
theorem d_law_641 : decode (mC M_law) 641 = .ok (.aload_n 0, 1) := by decide +kernel
theorem d_law_642 : decode (mC M_law) 642 = .ok (.iload_n 3, 1) := by decide +kernel
theorem d_law_643 : decode (mC M_law) 643 = .ok (.iconst 1, 1) := by decide +kernel
theorem d_law_644 : decode (mC M_law) 644 = .ok (.iadd, 1) := by decide +kernel
theorem d_law_645 : decode (mC M_law) 645 = .ok (.iaload, 1) := by decide +kernel
theorem d_law_646 : decode (mC M_law) 646 = .ok (.invokevirtual 96, 3) := by decide +kernel
theorem d_law_649 : decode (mC M_law) 649 = .ok (.if_icmp .eq 202, 3) := by decide +kernel
theorem d_law_652 : decode (mC M_law) 652 = .ok (.iconst 0, 1) := by decide +kernel
theorem d_law_653 : decode (mC M_law) 653 = .ok (.ireturn, 1) := by decide +kernel
theorem d_law_654 : decode (mC M_law) 654 = .ok (.aload_n 1, 1) := by decide +kernel
theorem d_law_655 : decode (mC M_law) 655 = .ok (.invokevirtual 97, 3) := by decide +kernel
theorem d_law_658 : decode (mC M_law) 658 = .ok (.aload_n 2, 1) := by decide +kernel
theorem d_law_659 : decode (mC M_law) 659 = .ok (.invokevirtual 100, 3) := by decide +kernel
theorem d_law_662 : decode (mC M_law) 662 = .ok (.if_icmp .eq 189, 3) := by decide +kernel
theorem d_law_665 : decode (mC M_law) 665 = .ok (.iconst 0, 1) := by decide +kernel
theorem d_law_666 : decode (mC M_law) 666 = .ok (.ireturn, 1) := by decide +kernel
theorem d_law_667 : decode (mC M_law) 667 = .ok (.aload_n 1, 1) := by decide +kernel
theorem d_law_668 : decode (mC M_law) 668 = .ok (.aload_n 0, 1) := by decide +kernel
theorem d_law_669 : decode (mC M_law) 669 = .ok (.iload_n 3, 1) := by decide +kernel
theorem d_law_670 : decode (mC M_law) 670 = .ok (.iconst 1, 1) := by decide +kernel
theorem d_law_671 : decode (mC M_law) 671 = .ok (.iadd, 1) := by decide +kernel
theorem d_law_672 : decode (mC M_law) 672 = .ok (.iaload, 1) := by decide +kernel
theorem d_law_673 : decode (mC M_law) 673 = .ok (.invokevirtual 101, 3) := by decide +kernel
theorem d_law_676 : decode (mC M_law) 676 = .ok (.aload_n 2, 1) := by decide +kernel
theorem d_law_677 : decode (mC M_law) 677 = .ok (.aload_n 0, 1) := by decide +kernel
theorem d_law_678 : decode (mC M_law) 678 = .ok (.iload_n 3, 1) := by decide +kernel
theorem d_law_679 : decode (mC M_law) 679 = .ok (.iconst 1, 1) := by decide +kernel
theorem d_law_680 : decode (mC M_law) 680 = .ok (.iadd, 1) := by decide +kernel
theorem d_law_681 : decode (mC M_law) 681 = .ok (.iaload, 1) := by decide +kernel
theorem d_law_682 : decode (mC M_law) 682 = .ok (.invokevirtual 104, 3) := by decide +kernel
theorem d_law_685 : decode (mC M_law) 685 = .ok (.if_icmp .eq 166, 3) := by decide +kernel
theorem d_law_688 : decode (mC M_law) 688 = .ok (.iconst 0, 1) := by decide +kernel
theorem d_law_689 : decode (mC M_law) 689 = .ok (.ireturn, 1) := by decide +kernel
theorem d_law_690 : decode (mC M_law) 690 = .ok (.aload_n 1, 1) := by decide +kernel
theorem d_law_691 : decode (mC M_law) 691 = .ok (.invokevirtual 105, 3) := by decide +kernel
theorem d_law_694 : decode (mC M_law) 694 = .ok (.aload_n 2, 1) := by decide +kernel
theorem d_law_695 : decode (mC M_law) 695 = .ok (.invokevirtual 108, 3) := by decide +kernel
theorem d_law_698 : decode (mC M_law) 698 = .ok (.if_icmp .eq 153, 3) := by decide +kernel
theorem d_law_701 : decode (mC M_law) 701 = .ok (.iconst 0, 1) := by decide +kernel
theorem d_law_702 : decode (mC M_law) 702 = .ok (.ireturn, 1) := by decide +kernel
theorem d_law_703 : decode (mC M_law) 703 = .ok (.aload_n 1, 1) := by decide +kernel
theorem d_law_704 : decode (mC M_law) 704 = .ok (.aload_n 0, 1) := by decide +kernel
theorem d_law_705 : decode (mC M_law) 705 = .ok (.iload_n 3, 1) := by decide +kernel
theorem d_law_706 : decode (mC M_law) 706 = .ok (.iconst 1, 1) := by decide +kernel
theorem d_law_707 : decode (mC M_law) 707 = .ok (.iadd, 1) := by decide +kernel
theorem d_law_708 : decode (mC M_law) 708 = .ok (.iaload, 1) := by decide +kernel
theorem d_law_709 : decode (mC M_law) 709 = .ok (.invokevirtual 109, 3) := by decide +kernel
theorem d_law_712 : decode (mC M_law) 712 = .ok (.aload_n 2, 1) := by decide +kernel
theorem d_law_713 : decode (mC M_law) 713 = .ok (.aload_n 0, 1) := by decide +kernel
theorem d_law_714 : decode (mC M_law) 714 = .ok (.iload_n 3, 1) := by decide +kernel
theorem d_law_715 : decode (mC M_law) 715 = .ok (.iconst 1, 1) := by decide +kernel
theorem d_law_716 : decode (mC M_law) 716 = .ok (.iadd, 1) := by decide +kernel
theorem d_law_717 : decode (mC M_law) 717 = .ok (.iaload, 1) := by decide +kernel
theorem d_law_718 : decode (mC M_law) 718 = .ok (.invokevirtual 112, 3) := by decide +kernel
theorem d_law_721 : decode (mC M_law) 721 = .ok (.if_icmp .eq 130, 3) := by decide +kernel
theorem d_law_724 : decode (mC M_law) 724 = .ok (.iconst 0, 1) := by decide +kernel
theorem d_law_725 : decode (mC M_law) 725 = .ok (.ireturn, 1) := by decide +kernel
theorem d_law_726 : decode (mC M_law) 726 = .ok (.aload_n 1, 1) := by decide +kernel
theorem d_law_727 : decode (mC M_law) 727 = .ok (.aload_n 0, 1) := by decide +kernel
theorem d_law_728 : decode (mC M_law) 728 = .ok (.iload_n 3, 1) := by decide +kernel
theorem d_law_729 : decode (mC M_law) 729 = .ok (.iconst 1, 1) := by decide +kernel
theorem d_law_730 : decode (mC M_law) 730 = .ok (.iadd, 1) := by decide +kernel
theorem d_law_731 : decode (mC M_law) 731 = .ok (.iaload, 1) := by decide +kernel
theorem d_law_732 : decode (mC M_law) 732 = .ok (.invokevirtual 113, 3) := by decide +kernel
theorem d_law_735 : decode (mC M_law) 735 = .ok (.aload_n 2, 1) := by decide +kernel
theorem d_law_736 : decode (mC M_law) 736 = .ok (.aload_n 0, 1) := by decide +kernel
theorem d_law_737 : decode (mC M_law) 737 = .ok (.iload_n 3, 1) := by decide +kernel
theorem d_law_738 : decode (mC M_law) 738 = .ok (.iconst 1, 1) := by decide +kernel
theorem d_law_739 : decode (mC M_law) 739 = .ok (.iadd, 1) := by decide +kernel
theorem d_law_740 : decode (mC M_law) 740 = .ok (.iaload, 1) := by decide +kernel
theorem d_law_741 : decode (mC M_law) 741 = .ok (.invokevirtual 116, 3) := by decide +kernel
theorem d_law_744 : decode (mC M_law) 744 = .ok (.if_icmp .eq 107, 3) := by decide +kernel
theorem d_law_747 : decode (mC M_law) 747 = .ok (.iconst 0, 1) := by decide +kernel
theorem d_law_748 : decode (mC M_law) 748 = .ok (.ireturn, 1) := by decide +kernel
theorem d_law_749 : decode (mC M_law) 749 = .ok (.aload_n 1, 1) := by decide +kernel
theorem d_law_750 : decode (mC M_law) 750 = .ok (.aload_n 0, 1) := by decide +kernel
theorem d_law_751 : decode (mC M_law) 751 = .ok (.iload_n 3, 1) := by decide +kernel
theorem d_law_752 : decode (mC M_law) 752 = .ok (.iconst 1, 1) := by decide +kernel
theorem d_law_753 : decode (mC M_law) 753 = .ok (.iadd, 1) := by decide +kernel
theorem d_law_754 : decode (mC M_law) 754 = .ok (.iaload, 1) := by decide +kernel
theorem d_law_755 : decode (mC M_law) 755 = .ok (.invokevirtual 117, 3) := by decide +kernel
theorem d_law_758 : decode (mC M_law) 758 = .ok (.aload_n 2, 1) := by decide +kernel
theorem d_law_759 : decode (mC M_law) 759 = .ok (.aload_n 0, 1) := by decide +kernel
theorem d_law_760 : decode (mC M_law) 760 = .ok (.iload_n 3, 1) := by decide +kernel
theorem d_law_761 : decode (mC M_law) 761 = .ok (.iconst 1, 1) := by decide +kernel
theorem d_law_762 : decode (mC M_law) 762 = .ok (.iadd, 1) := by decide +kernel
theorem d_law_763 : decode (mC M_law) 763 = .ok (.iaload, 1) := by decide +kernel
theorem d_law_764 : decode (mC M_law) 764 = .ok (.invokevirtual 120, 3) := by decide +kernel
theorem d_law_767 : decode (mC M_law) 767 = .ok (.if_icmp .eq 84, 3) := by decide +kernel
theorem d_law_770 : decode (mC M_law) 770 = .ok (.iconst 0, 1) := by decide +kernel
theorem d_law_771 : decode (mC M_law) 771 = .ok (.ireturn, 1) := by decide +kernel
theorem d_law_772 : decode (mC M_law) 772 = .ok (.aload_n 1, 1) := by decide +kernel
theorem d_law_773 : decode (mC M_law) 773 = .ok (.aload_n 0, 1) := by decide +kernel
theorem d_law_774 : decode (mC M_law) 774 = .ok (.iload_n 3, 1) := by decide +kernel
theorem d_law_775 : decode (mC M_law) 775 = .ok (.iconst 1, 1) := by decide +kernel
theorem d_law_776 : decode (mC M_law) 776 = .ok (.iadd, 1) := by decide +kernel
theorem d_law_777 : decode (mC M_law) 777 = .ok (.iaload, 1) := by decide +kernel
theorem d_law_778 : decode (mC M_law) 778 = .ok (.aload_n 0, 1) := by decide +kernel
theorem d_law_779 : decode (mC M_law) 779 = .ok (.iload_n 3, 1) := by decide +kernel
theorem d_law_780 : decode (mC M_law) 780 = .ok (.iconst 2, 1) := by decide +kernel
theorem d_law_781 : decode (mC M_law) 781 = .ok (.iadd, 1) := by decide +kernel
theorem d_law_782 : decode (mC M_law) 782 = .ok (.iaload, 1) := by decide +kernel
theorem d_law_783 : decode (mC M_law) 783 = .ok (.invokevirtual 121, 3) := by decide +kernel
theorem d_law_786 : decode (mC M_law) 786 = .ok (.aload_n 2, 1) := by decide +kernel
theorem d_law_787 : decode (mC M_law) 787 = .ok (.aload_n 0, 1) := by decide +kernel
theorem d_law_788 : decode (mC M_law) 788 = .ok (.iload_n 3, 1) := by decide +kernel
theorem d_law_789 : decode (mC M_law) 789 = .ok (.iconst 1, 1) := by decide +kernel
theorem d_law_790 : decode (mC M_law) 790 = .ok (.iadd, 1) := by decide +kernel
theorem d_law_791 : decode (mC M_law) 791 = .ok (.iaload, 1) := by decide +kernel
theorem d_law_792 : decode (mC M_law) 792 = .ok (.aload_n 0, 1) := by decide +kernel
theorem d_law_793 : decode (mC M_law) 793 = .ok (.iload_n 3, 1) := by decide +kernel
theorem d_law_794 : decode (mC M_law) 794 = .ok (.iconst 2, 1) := by decide +kernel
theorem d_law_795 : decode (mC M_law) 795 = .ok (.iadd, 1) := by decide +kernel
theorem d_law_796 : decode (mC M_law) 796 = .ok (.iaload, 1) := by decide +kernel
theorem d_law_797 : decode (mC M_law) 797 = .ok (.invokevirtual 124, 3) := by decide +kernel
theorem d_law_800 : decode (mC M_law) 800 = .ok (.if_icmp .eq 51, 3) := by decide +kernel
theorem d_law_803 : decode (mC M_law) 803 = .ok (.iconst 0, 1) := by decide +kernel
theorem d_law_804 : decode (mC M_law) 804 = .ok (.ireturn, 1) := by decide +kernel
theorem d_law_805 : decode (mC M_law) 805 = .ok (.aload_n 1, 1) := by decide +kernel
theorem d_law_806 : decode (mC M_law) 806 = .ok (.aload_n 0, 1) := by decide +kernel
theorem d_law_807 : decode (mC M_law) 807 = .ok (.iload_n 3, 1) := by decide +kernel
theorem d_law_808 : decode (mC M_law) 808 = .ok (.iconst 1, 1) := by decide +kernel
theorem d_law_809 : decode (mC M_law) 809 = .ok (.iadd, 1) := by decide +kernel
theorem d_law_810 : decode (mC M_law) 810 = .ok (.iaload, 1) := by decide +kernel
theorem d_law_811 : decode (mC M_law) 811 = .ok (.invokevirtual 125, 3) := by decide +kernel
theorem d_law_814 : decode (mC M_law) 814 = .ok (.aload_n 2, 1) := by decide +kernel
theorem d_law_815 : decode (mC M_law) 815 = .ok (.aload_n 0, 1) := by decide +kernel
theorem d_law_816 : decode (mC M_law) 816 = .ok (.iload_n 3, 1) := by decide +kernel
theorem d_law_817 : decode (mC M_law) 817 = .ok (.iconst 1, 1) := by decide +kernel
theorem d_law_818 : decode (mC M_law) 818 = .ok (.iadd, 1) := by decide +kernel
theorem d_law_819 : decode (mC M_law) 819 = .ok (.iaload, 1) := by decide +kernel
theorem d_law_820 : decode (mC M_law) 820 = .ok (.invokevirtual 128, 3) := by decide +kernel
theorem d_law_823 : decode (mC M_law) 823 = .ok (.if_icmp .eq 28, 3) := by decide +kernel
theorem d_law_826 : decode (mC M_law) 826 = .ok (.iconst 0, 1) := by decide +kernel
theorem d_law_827 : decode (mC M_law) 827 = .ok (.ireturn, 1) := by decide +kernel
theorem d_law_828 : decode (mC M_law) 828 = .ok (.aload_n 1, 1) := by decide +kernel
theorem d_law_829 : decode (mC M_law) 829 = .ok (.aload_n 0, 1) := by decide +kernel
theorem d_law_830 : decode (mC M_law) 830 = .ok (.iload_n 3, 1) := by decide +kernel
theorem d_law_831 : decode (mC M_law) 831 = .ok (.iconst 1, 1) := by decide +kernel
theorem d_law_832 : decode (mC M_law) 832 = .ok (.iadd, 1) := by decide +kernel
theorem d_law_833 : decode (mC M_law) 833 = .ok (.iaload, 1) := by decide +kernel
theorem d_law_834 : decode (mC M_law) 834 = .ok (.invokevirtual 129, 3) := by decide +kernel
theorem d_law_837 : decode (mC M_law) 837 = .ok (.aload_n 2, 1) := by decide +kernel
theorem d_law_838 : decode (mC M_law) 838 = .ok (.aload_n 0, 1) := by decide +kernel
theorem d_law_839 : decode (mC M_law) 839 = .ok (.iload_n 3, 1) := by decide +kernel
theorem d_law_840 : decode (mC M_law) 840 = .ok (.iconst 1, 1) := by decide +kernel
theorem d_law_841 : decode (mC M_law) 841 = .ok (.iadd, 1) := by decide +kernel
theorem d_law_842 : decode (mC M_law) 842 = .ok (.iaload, 1) := by decide +kernel
theorem d_law_843 : decode (mC M_law) 843 = .ok (.invokevirtual 132, 3) := by decide +kernel
theorem d_law_846 : decode (mC M_law) 846 = .ok (.if_icmp .eq 5, 3) := by decide +kernel
theorem d_law_849 : decode (mC M_law) 849 = .ok (.iconst 0, 1) := by decide +kernel
theorem d_law_850 : decode (mC M_law) 850 = .ok (.ireturn, 1) := by decide +kernel
theorem d_law_851 : decode (mC M_law) 851 = .ok (.iinc 3 4, 3) := by decide +kernel
theorem d_law_854 : decode (mC M_law) 854 = .ok (.goto (-836), 3) := by decide +kernel
theorem d_law_857 : decode (mC M_law) 857 = .ok (.iconst 1, 1) := by decide +kernel
theorem d_law_858 : decode (mC M_law) 858 = .ok (.ireturn, 1) := by decide +kernel
def vc_law_857 (q v : Nat) (f : Option Nat) (b0 L : Nat) (xs : Nat → Int32) (r : Option Value) (hf : hc_H) (J : Nat → hc_K) (lv : hc_L) (st : List Value) (h : hc_H) : Prop := (qi_push (nI 1) (qi_zret r hf)) lv st h
theorem sn_law_857 {q v : Nat} {f : Option Nat} {b0 L : Nat} {xs : Nat → Int32} {h0 hf : hc_H} {r : Option Value} : qk (phL q v f b0 L xs) M_law h0 hf r 857 (vc_law_857 q v f b0 L xs r hf (cx (phL q v f b0 L xs) M_law h0 hf r)) := (qs_iconst d_law_857 (by decide) (qs_zret d_law_858 rfl))
def vc_law_851 (q v : Nat) (f : Option Nat) (b0 L : Nat) (xs : Nat → Int32) (r : Option Value) (hf : hc_H) (J : Nat → hc_K) (lv : hc_L) (st : List Value) (h : hc_H) : Prop := (qi_iinc 3 (nI 4) (J 18)) lv st h
theorem sn_law_851 {q v : Nat} {f : Option Nat} {b0 L : Nat} {xs : Nat → Int32} {h0 hf : hc_H} {r : Option Value} : qk (phL q v f b0 L xs) M_law h0 hf r 851 (vc_law_851 q v f b0 L xs r hf (cx (phL q v f b0 L xs) M_law h0 hf r)) := (qs_iinc d_law_851 (by decide) (by decide) (qs_goto (tgt := 18) d_law_854 (by decide) (fun _ _ _ h9 => h9)))
def vc_law_828 (q v : Nat) (f : Option Nat) (b0 L : Nat) (xs : Nat → Int32) (r : Option Value) (hf : hc_H) (J : Nat → hc_K) (lv : hc_L) (st : List Value) (h : hc_H) : Prop := (qi_aload 1 (qi_aload 0 (qi_iload 3 (qi_push (nI 1) (qi_iadd (qi_ldL b0 L xs (qi_invV hc_tt M_B_count 1 5 (qi_aload 2 (qi_aload 0 (qi_iload 3 (qi_push (nI 1) (qi_iadd (qi_ldL b0 L xs (qi_invV hc_tt M_R_count 1 6 (qi_icmp_eq (vc_law_851 q v f b0 L xs r hf J) (qi_push (nI 0) (qi_zret r hf))))))))))))))))) lv st h
theorem sn_law_828 {q v : Nat} {f : Option Nat} {b0 L : Nat} {xs : Nat → Int32} {h0 hf : hc_H} {r : Option Value} : qk (phL q v f b0 L xs) M_law h0 hf r 828 (vc_law_828 q v f b0 L xs r hf (cx (phL q v f b0 L xs) M_law h0 hf r)) := (qs_aload_n d_law_828 rfl (qs_aload_n d_law_829 rfl (qs_iload_n d_law_830 rfl (qs_iconst d_law_831 (by decide) (qs_iadd d_law_832 (qs_ldL d_law_833 (qs_invV hc_Ph_tt (fun _ _ _ => trivial) d_law_834 zz_B_count wk_823 ⟨wk_824, wk_825⟩ ⟨_, rfl, rfl⟩ ⟨by decide, by decide⟩ (qs_aload_n d_law_837 rfl (qs_aload_n d_law_838 rfl (qs_iload_n d_law_839 rfl (qs_iconst d_law_840 (by decide) (qs_iadd d_law_841 (qs_ldL d_law_842 (qs_invV hc_Ph_tt (fun _ _ _ => trivial) d_law_843 zz_R_count wk_1143 ⟨wk_1144, wk_1145⟩ ⟨_, rfl, rfl⟩ ⟨by decide, by decide⟩ (qs_icmp_eq (tgt := 851) d_law_846 (by decide) sn_law_851 (qs_iconst d_law_849 (by decide) (qs_zret d_law_850 rfl)))))))))))))))))
def vc_law_805 (q v : Nat) (f : Option Nat) (b0 L : Nat) (xs : Nat → Int32) (r : Option Value) (hf : hc_H) (J : Nat → hc_K) (lv : hc_L) (st : List Value) (h : hc_H) : Prop := (qi_aload 1 (qi_aload 0 (qi_iload 3 (qi_push (nI 1) (qi_iadd (qi_ldL b0 L xs (qi_invV hc_tt M_B_binds 1 5 (qi_aload 2 (qi_aload 0 (qi_iload 3 (qi_push (nI 1) (qi_iadd (qi_ldL b0 L xs (qi_invV hc_tt M_R_binds 1 6 (qi_icmp_eq (vc_law_851 q v f b0 L xs r hf J) (qi_push (nI 0) (qi_zret r hf))))))))))))))))) lv st h
theorem sn_law_805 {q v : Nat} {f : Option Nat} {b0 L : Nat} {xs : Nat → Int32} {h0 hf : hc_H} {r : Option Value} : qk (phL q v f b0 L xs) M_law h0 hf r 805 (vc_law_805 q v f b0 L xs r hf (cx (phL q v f b0 L xs) M_law h0 hf r)) := (qs_aload_n d_law_805 rfl (qs_aload_n d_law_806 rfl (qs_iload_n d_law_807 rfl (qs_iconst d_law_808 (by decide) (qs_iadd d_law_809 (qs_ldL d_law_810 (qs_invV hc_Ph_tt (fun _ _ _ => trivial) d_law_811 zz_B_binds wk_800 ⟨wk_801, wk_802⟩ ⟨_, rfl, rfl⟩ ⟨by decide, by decide⟩ (qs_aload_n d_law_814 rfl (qs_aload_n d_law_815 rfl (qs_iload_n d_law_816 rfl (qs_iconst d_law_817 (by decide) (qs_iadd d_law_818 (qs_ldL d_law_819 (qs_invV hc_Ph_tt (fun _ _ _ => trivial) d_law_820 zz_R_binds wk_1139 ⟨wk_1140, wk_1141⟩ ⟨_, rfl, rfl⟩ ⟨by decide, by decide⟩ (qs_icmp_eq (tgt := 851) d_law_823 (by decide) sn_law_851 (qs_iconst d_law_826 (by decide) (qs_zret d_law_827 rfl)))))))))))))))))
def vc_law_772 (q v : Nat) (f : Option Nat) (b0 L : Nat) (xs : Nat → Int32) (r : Option Value) (hf : hc_H) (J : Nat → hc_K) (lv : hc_L) (st : List Value) (h : hc_H) : Prop := (qi_aload 1 (qi_aload 0 (qi_iload 3 (qi_push (nI 1) (qi_iadd (qi_ldL b0 L xs (qi_aload 0 (qi_iload 3 (qi_push (nI 2) (qi_iadd (qi_ldL b0 L xs (qi_invV hc_tt M_B_were 2 5 (qi_aload 2 (qi_aload 0 (qi_iload 3 (qi_push (nI 1) (qi_iadd (qi_ldL b0 L xs (qi_aload 0 (qi_iload 3 (qi_push (nI 2) (qi_iadd (qi_ldL b0 L xs (qi_invV hc_tt M_R_were 2 6 (qi_icmp_eq (vc_law_851 q v f b0 L xs r hf J) (qi_push (nI 0) (qi_zret r hf))))))))))))))))))))))))))) lv st h
theorem sn_law_772 {q v : Nat} {f : Option Nat} {b0 L : Nat} {xs : Nat → Int32} {h0 hf : hc_H} {r : Option Value} : qk (phL q v f b0 L xs) M_law h0 hf r 772 (vc_law_772 q v f b0 L xs r hf (cx (phL q v f b0 L xs) M_law h0 hf r)) := (qs_aload_n d_law_772 rfl (qs_aload_n d_law_773 rfl (qs_iload_n d_law_774 rfl (qs_iconst d_law_775 (by decide) (qs_iadd d_law_776 (qs_ldL d_law_777 (qs_aload_n d_law_778 rfl (qs_iload_n d_law_779 rfl (qs_iconst d_law_780 (by decide) (qs_iadd d_law_781 (qs_ldL d_law_782 (qs_invV hc_Ph_tt (fun _ _ _ => trivial) d_law_783 zz_B_were wk_792 ⟨wk_793, wk_794⟩ ⟨_, rfl, rfl⟩ ⟨by decide, by decide⟩ (qs_aload_n d_law_786 rfl (qs_aload_n d_law_787 rfl (qs_iload_n d_law_788 rfl (qs_iconst d_law_789 (by decide) (qs_iadd d_law_790 (qs_ldL d_law_791 (qs_aload_n d_law_792 rfl (qs_iload_n d_law_793 rfl (qs_iconst d_law_794 (by decide) (qs_iadd d_law_795 (qs_ldL d_law_796 (qs_invV hc_Ph_tt (fun _ _ _ => trivial) d_law_797 zz_R_were wk_1074 ⟨wk_1075, wk_1076⟩ ⟨_, rfl, rfl⟩ ⟨by decide, by decide⟩ (qs_icmp_eq (tgt := 851) d_law_800 (by decide) sn_law_851 (qs_iconst d_law_803 (by decide) (qs_zret d_law_804 rfl)))))))))))))))))))))))))))
def vc_law_749 (q v : Nat) (f : Option Nat) (b0 L : Nat) (xs : Nat → Int32) (r : Option Value) (hf : hc_H) (J : Nat → hc_K) (lv : hc_L) (st : List Value) (h : hc_H) : Prop := (qi_aload 1 (qi_aload 0 (qi_iload 3 (qi_push (nI 1) (qi_iadd (qi_ldL b0 L xs (qi_invV hc_tt M_B_by 1 5 (qi_aload 2 (qi_aload 0 (qi_iload 3 (qi_push (nI 1) (qi_iadd (qi_ldL b0 L xs (qi_invV hc_tt M_R_by 1 6 (qi_icmp_eq (vc_law_851 q v f b0 L xs r hf J) (qi_push (nI 0) (qi_zret r hf))))))))))))))))) lv st h
theorem sn_law_749 {q v : Nat} {f : Option Nat} {b0 L : Nat} {xs : Nat → Int32} {h0 hf : hc_H} {r : Option Value} : qk (phL q v f b0 L xs) M_law h0 hf r 749 (vc_law_749 q v f b0 L xs r hf (cx (phL q v f b0 L xs) M_law h0 hf r)) := (qs_aload_n d_law_749 rfl (qs_aload_n d_law_750 rfl (qs_iload_n d_law_751 rfl (qs_iconst d_law_752 (by decide) (qs_iadd d_law_753 (qs_ldL d_law_754 (qs_invV hc_Ph_tt (fun _ _ _ => trivial) d_law_755 zz_B_by wk_780 ⟨wk_781, wk_782⟩ ⟨_, rfl, rfl⟩ ⟨by decide, by decide⟩ (qs_aload_n d_law_758 rfl (qs_aload_n d_law_759 rfl (qs_iload_n d_law_760 rfl (qs_iconst d_law_761 (by decide) (qs_iadd d_law_762 (qs_ldL d_law_763 (qs_invV hc_Ph_tt (fun _ _ _ => trivial) d_law_764 zz_R_by wk_1070 ⟨wk_1071, wk_1072⟩ ⟨_, rfl, rfl⟩ ⟨by decide, by decide⟩ (qs_icmp_eq (tgt := 851) d_law_767 (by decide) sn_law_851 (qs_iconst d_law_770 (by decide) (qs_zret d_law_771 rfl)))))))))))))))))
def vc_law_726 (q v : Nat) (f : Option Nat) (b0 L : Nat) (xs : Nat → Int32) (r : Option Value) (hf : hc_H) (J : Nat → hc_K) (lv : hc_L) (st : List Value) (h : hc_H) : Prop := (qi_aload 1 (qi_aload 0 (qi_iload 3 (qi_push (nI 1) (qi_iadd (qi_ldL b0 L xs (qi_invV hc_tt M_B_shortest 1 5 (qi_aload 2 (qi_aload 0 (qi_iload 3 (qi_push (nI 1) (qi_iadd (qi_ldL b0 L xs (qi_invV hc_tt M_R_shortest 1 6 (qi_icmp_eq (vc_law_851 q v f b0 L xs r hf J) (qi_push (nI 0) (qi_zret r hf))))))))))))))))) lv st h
theorem sn_law_726 {q v : Nat} {f : Option Nat} {b0 L : Nat} {xs : Nat → Int32} {h0 hf : hc_H} {r : Option Value} : qk (phL q v f b0 L xs) M_law h0 hf r 726 (vc_law_726 q v f b0 L xs r hf (cx (phL q v f b0 L xs) M_law h0 hf r)) := (qs_aload_n d_law_726 rfl (qs_aload_n d_law_727 rfl (qs_iload_n d_law_728 rfl (qs_iconst d_law_729 (by decide) (qs_iadd d_law_730 (qs_ldL d_law_731 (qs_invV hc_Ph_tt (fun _ _ _ => trivial) d_law_732 zz_B_shortest wk_755 ⟨wk_756, wk_757⟩ ⟨_, rfl, rfl⟩ ⟨by decide, by decide⟩ (qs_aload_n d_law_735 rfl (qs_aload_n d_law_736 rfl (qs_iload_n d_law_737 rfl (qs_iconst d_law_738 (by decide) (qs_iadd d_law_739 (qs_ldL d_law_740 (qs_invV hc_Ph_tt (fun _ _ _ => trivial) d_law_741 zz_R_shortest wk_1079 ⟨wk_1080, wk_1081⟩ ⟨_, rfl, rfl⟩ ⟨by decide, by decide⟩ (qs_icmp_eq (tgt := 851) d_law_744 (by decide) sn_law_851 (qs_iconst d_law_747 (by decide) (qs_zret d_law_748 rfl)))))))))))))))))
def vc_law_703 (q v : Nat) (f : Option Nat) (b0 L : Nat) (xs : Nat → Int32) (r : Option Value) (hf : hc_H) (J : Nat → hc_K) (lv : hc_L) (st : List Value) (h : hc_H) : Prop := (qi_aload 1 (qi_aload 0 (qi_iload 3 (qi_push (nI 1) (qi_iadd (qi_ldL b0 L xs (qi_invV hc_tt M_B_may 1 5 (qi_aload 2 (qi_aload 0 (qi_iload 3 (qi_push (nI 1) (qi_iadd (qi_ldL b0 L xs (qi_invV hc_tt M_R_may 1 6 (qi_icmp_eq (vc_law_851 q v f b0 L xs r hf J) (qi_push (nI 0) (qi_zret r hf))))))))))))))))) lv st h
theorem sn_law_703 {q v : Nat} {f : Option Nat} {b0 L : Nat} {xs : Nat → Int32} {h0 hf : hc_H} {r : Option Value} : qk (phL q v f b0 L xs) M_law h0 hf r 703 (vc_law_703 q v f b0 L xs r hf (cx (phL q v f b0 L xs) M_law h0 hf r)) := (qs_aload_n d_law_703 rfl (qs_aload_n d_law_704 rfl (qs_iload_n d_law_705 rfl (qs_iconst d_law_706 (by decide) (qs_iadd d_law_707 (qs_ldL d_law_708 (qs_invV hc_Ph_tt (fun _ _ _ => trivial) d_law_709 zz_B_may wk_747 ⟨wk_748, wk_749⟩ ⟨_, rfl, rfl⟩ ⟨by decide, by decide⟩ (qs_aload_n d_law_712 rfl (qs_aload_n d_law_713 rfl (qs_iload_n d_law_714 rfl (qs_iconst d_law_715 (by decide) (qs_iadd d_law_716 (qs_ldL d_law_717 (qs_invV hc_Ph_tt (fun _ _ _ => trivial) d_law_718 zz_R_may wk_1104 ⟨wk_1105, wk_1106⟩ ⟨_, rfl, rfl⟩ ⟨by decide, by decide⟩ (qs_icmp_eq (tgt := 851) d_law_721 (by decide) sn_law_851 (qs_iconst d_law_724 (by decide) (qs_zret d_law_725 rfl)))))))))))))))))
def vc_law_690 (q v : Nat) (f : Option Nat) (b0 L : Nat) (xs : Nat → Int32) (r : Option Value) (hf : hc_H) (J : Nat → hc_K) (lv : hc_L) (st : List Value) (h : hc_H) : Prop := (qi_aload 1 (qi_invV hc_tt M_B_many 0 5 (qi_aload 2 (qi_invV hc_tt M_R_many 0 6 (qi_icmp_eq (vc_law_851 q v f b0 L xs r hf J) (qi_push (nI 0) (qi_zret r hf))))))) lv st h
theorem sn_law_690 {q v : Nat} {f : Option Nat} {b0 L : Nat} {xs : Nat → Int32} {h0 hf : hc_H} {r : Option Value} : qk (phL q v f b0 L xs) M_law h0 hf r 690 (vc_law_690 q v f b0 L xs r hf (cx (phL q v f b0 L xs) M_law h0 hf r)) := (qs_aload_n d_law_690 rfl (qs_invV hc_Ph_tt (fun _ _ _ => trivial) d_law_691 zz_B_many wk_743 ⟨wk_744, wk_745⟩ ⟨_, rfl, rfl⟩ ⟨by decide, by decide⟩ (qs_aload_n d_law_694 rfl (qs_invV hc_Ph_tt (fun _ _ _ => trivial) d_law_695 zz_R_many wk_1083 ⟨wk_1084, wk_1085⟩ ⟨_, rfl, rfl⟩ ⟨by decide, by decide⟩ (qs_icmp_eq (tgt := 851) d_law_698 (by decide) sn_law_851 (qs_iconst d_law_701 (by decide) (qs_zret d_law_702 rfl)))))))
def vc_law_667 (q v : Nat) (f : Option Nat) (b0 L : Nat) (xs : Nat → Int32) (r : Option Value) (hf : hc_H) (J : Nat → hc_K) (lv : hc_L) (st : List Value) (h : hc_H) : Prop := (qi_aload 1 (qi_aload 0 (qi_iload 3 (qi_push (nI 1) (qi_iadd (qi_ldL b0 L xs (qi_invV hc_tt M_B_best 1 5 (qi_aload 2 (qi_aload 0 (qi_iload 3 (qi_push (nI 1) (qi_iadd (qi_ldL b0 L xs (qi_invV hc_tt M_R_best 1 6 (qi_icmp_eq (vc_law_851 q v f b0 L xs r hf J) (qi_push (nI 0) (qi_zret r hf))))))))))))))))) lv st h
theorem sn_law_667 {q v : Nat} {f : Option Nat} {b0 L : Nat} {xs : Nat → Int32} {h0 hf : hc_H} {r : Option Value} : qk (phL q v f b0 L xs) M_law h0 hf r 667 (vc_law_667 q v f b0 L xs r hf (cx (phL q v f b0 L xs) M_law h0 hf r)) := (qs_aload_n d_law_667 rfl (qs_aload_n d_law_668 rfl (qs_iload_n d_law_669 rfl (qs_iconst d_law_670 (by decide) (qs_iadd d_law_671 (qs_ldL d_law_672 (qs_invV hc_Ph_tt (fun _ _ _ => trivial) d_law_673 zz_B_best wk_739 ⟨wk_740, wk_741⟩ ⟨_, rfl, rfl⟩ ⟨by decide, by decide⟩ (qs_aload_n d_law_676 rfl (qs_aload_n d_law_677 rfl (qs_iload_n d_law_678 rfl (qs_iconst d_law_679 (by decide) (qs_iadd d_law_680 (qs_ldL d_law_681 (qs_invV hc_Ph_tt (fun _ _ _ => trivial) d_law_682 zz_R_best wk_1088 ⟨wk_1089, wk_1090⟩ ⟨_, rfl, rfl⟩ ⟨by decide, by decide⟩ (qs_icmp_eq (tgt := 851) d_law_685 (by decide) sn_law_851 (qs_iconst d_law_688 (by decide) (qs_zret d_law_689 rfl)))))))))))))))))
def vc_law_654 (q v : Nat) (f : Option Nat) (b0 L : Nat) (xs : Nat → Int32) (r : Option Value) (hf : hc_H) (J : Nat → hc_K) (lv : hc_L) (st : List Value) (h : hc_H) : Prop := (qi_aload 1 (qi_invV hc_tt M_B_fewest 0 5 (qi_aload 2 (qi_invV hc_tt M_R_fewest 0 6 (qi_icmp_eq (vc_law_851 q v f b0 L xs r hf J) (qi_push (nI 0) (qi_zret r hf))))))) lv st h
theorem sn_law_654 {q v : Nat} {f : Option Nat} {b0 L : Nat} {xs : Nat → Int32} {h0 hf : hc_H} {r : Option Value} : qk (phL q v f b0 L xs) M_law h0 hf r 654 (vc_law_654 q v f b0 L xs r hf (cx (phL q v f b0 L xs) M_law h0 hf r)) := (qs_aload_n d_law_654 rfl (qs_invV hc_Ph_tt (fun _ _ _ => trivial) d_law_655 zz_B_fewest wk_735 ⟨wk_736, wk_737⟩ ⟨_, rfl, rfl⟩ ⟨by decide, by decide⟩ (qs_aload_n d_law_658 rfl (qs_invV hc_Ph_tt (fun _ _ _ => trivial) d_law_659 zz_R_fewest wk_1042 ⟨wk_1043, wk_1044⟩ ⟨_, rfl, rfl⟩ ⟨by decide, by decide⟩ (qs_icmp_eq (tgt := 851) d_law_662 (by decide) sn_law_851 (qs_iconst d_law_665 (by decide) (qs_zret d_law_666 rfl)))))))
def vc_law_631 (q v : Nat) (f : Option Nat) (b0 L : Nat) (xs : Nat → Int32) (r : Option Value) (hf : hc_H) (J : Nat → hc_K) (lv : hc_L) (st : List Value) (h : hc_H) : Prop := (qi_aload 1 (qi_aload 0 (qi_iload 3 (qi_push (nI 1) (qi_iadd (qi_ldL b0 L xs (qi_invV hc_tt M_B_full 1 5 (qi_aload 2 (qi_aload 0 (qi_iload 3 (qi_push (nI 1) (qi_iadd (qi_ldL b0 L xs (qi_invV hc_tt M_R_full 1 6 (qi_icmp_eq (vc_law_851 q v f b0 L xs r hf J) (qi_push (nI 0) (qi_zret r hf))))))))))))))))) lv st h
theorem sn_law_631 {q v : Nat} {f : Option Nat} {b0 L : Nat} {xs : Nat → Int32} {h0 hf : hc_H} {r : Option Value} : qk (phL q v f b0 L xs) M_law h0 hf r 631 (vc_law_631 q v f b0 L xs r hf (cx (phL q v f b0 L xs) M_law h0 hf r)) := (qs_aload_n d_law_631 rfl (qs_aload_n d_law_632 rfl (qs_iload_n d_law_633 rfl (qs_iconst d_law_634 (by decide) (qs_iadd d_law_635 (qs_ldL d_law_636 (qs_invV hc_Ph_tt (fun _ _ _ => trivial) d_law_637 zz_B_full wk_731 ⟨wk_732, wk_733⟩ ⟨_, rfl, rfl⟩ ⟨by decide, by decide⟩ (qs_aload_n d_law_640 rfl (qs_aload_n d_law_641 rfl (qs_iload_n d_law_642 rfl (qs_iconst d_law_643 (by decide) (qs_iadd d_law_644 (qs_ldL d_law_645 (qs_invV hc_Ph_tt (fun _ _ _ => trivial) d_law_646 zz_R_full wk_1135 ⟨wk_1136, wk_1137⟩ ⟨_, rfl, rfl⟩ ⟨by decide, by decide⟩ (qs_icmp_eq (tgt := 851) d_law_649 (by decide) sn_law_851 (qs_iconst d_law_652 (by decide) (qs_zret d_law_653 rfl)))))))))))))))))
def vc_law_608 (q v : Nat) (f : Option Nat) (b0 L : Nat) (xs : Nat → Int32) (r : Option Value) (hf : hc_H) (J : Nat → hc_K) (lv : hc_L) (st : List Value) (h : hc_H) : Prop := (qi_aload 1 (qi_aload 0 (qi_iload 3 (qi_push (nI 1) (qi_iadd (qi_ldL b0 L xs (qi_invV hc_tt M_B_load 1 5 (qi_aload 2 (qi_aload 0 (qi_iload 3 (qi_push (nI 1) (qi_iadd (qi_ldL b0 L xs (qi_invV hc_tt M_R_load 1 6 (qi_icmp_eq (vc_law_851 q v f b0 L xs r hf J) (qi_push (nI 0) (qi_zret r hf))))))))))))))))) lv st h
theorem sn_law_608 {q v : Nat} {f : Option Nat} {b0 L : Nat} {xs : Nat → Int32} {h0 hf : hc_H} {r : Option Value} : qk (phL q v f b0 L xs) M_law h0 hf r 608 (vc_law_608 q v f b0 L xs r hf (cx (phL q v f b0 L xs) M_law h0 hf r)) := (qs_aload_n d_law_608 rfl (qs_aload_n d_law_609 rfl (qs_iload_n d_law_610 rfl (qs_iconst d_law_611 (by decide) (qs_iadd d_law_612 (qs_ldL d_law_613 (qs_invV hc_Ph_tt (fun _ _ _ => trivial) d_law_614 zz_B_load wk_715 ⟨wk_716, wk_717⟩ ⟨_, rfl, rfl⟩ ⟨by decide, by decide⟩ (qs_aload_n d_law_617 rfl (qs_aload_n d_law_618 rfl (qs_iload_n d_law_619 rfl (qs_iconst d_law_620 (by decide) (qs_iadd d_law_621 (qs_ldL d_law_622 (qs_invV hc_Ph_tt (fun _ _ _ => trivial) d_law_623 zz_R_load wk_1123 ⟨wk_1124, wk_1125⟩ ⟨_, rfl, rfl⟩ ⟨by decide, by decide⟩ (qs_icmp_eq (tgt := 851) d_law_626 (by decide) sn_law_851 (qs_iconst d_law_629 (by decide) (qs_zret d_law_630 rfl)))))))))))))))))
def vc_law_585 (q v : Nat) (f : Option Nat) (b0 L : Nat) (xs : Nat → Int32) (r : Option Value) (hf : hc_H) (J : Nat → hc_K) (lv : hc_L) (st : List Value) (h : hc_H) : Prop := (qi_aload 1 (qi_aload 0 (qi_iload 3 (qi_push (nI 1) (qi_iadd (qi_ldL b0 L xs (qi_invV hc_tt M_B_floor 1 5 (qi_aload 2 (qi_aload 0 (qi_iload 3 (qi_push (nI 1) (qi_iadd (qi_ldL b0 L xs (qi_invV hc_tt M_R_floor 1 6 (qi_icmp_eq (vc_law_851 q v f b0 L xs r hf J) (qi_push (nI 0) (qi_zret r hf))))))))))))))))) lv st h
theorem sn_law_585 {q v : Nat} {f : Option Nat} {b0 L : Nat} {xs : Nat → Int32} {h0 hf : hc_H} {r : Option Value} : qk (phL q v f b0 L xs) M_law h0 hf r 585 (vc_law_585 q v f b0 L xs r hf (cx (phL q v f b0 L xs) M_law h0 hf r)) := (qs_aload_n d_law_585 rfl (qs_aload_n d_law_586 rfl (qs_iload_n d_law_587 rfl (qs_iconst d_law_588 (by decide) (qs_iadd d_law_589 (qs_ldL d_law_590 (qs_invV hc_Ph_tt (fun _ _ _ => trivial) d_law_591 zz_B_floor wk_708 ⟨wk_709, wk_710⟩ ⟨_, rfl, rfl⟩ ⟨by decide, by decide⟩ (qs_aload_n d_law_594 rfl (qs_aload_n d_law_595 rfl (qs_iload_n d_law_596 rfl (qs_iconst d_law_597 (by decide) (qs_iadd d_law_598 (qs_ldL d_law_599 (qs_invV hc_Ph_tt (fun _ _ _ => trivial) d_law_600 zz_R_floor wk_1116 ⟨wk_1117, wk_1118⟩ ⟨_, rfl, rfl⟩ ⟨by decide, by decide⟩ (qs_icmp_eq (tgt := 851) d_law_603 (by decide) sn_law_851 (qs_iconst d_law_606 (by decide) (qs_zret d_law_607 rfl)))))))))))))))))
def vc_law_572 (q v : Nat) (f : Option Nat) (b0 L : Nat) (xs : Nat → Int32) (r : Option Value) (hf : hc_H) (J : Nat → hc_K) (lv : hc_L) (st : List Value) (h : hc_H) : Prop := (qi_aload 1 (qi_invV hc_tt M_B_adopt 0 5 (qi_aload 2 (qi_invV hc_tt M_R_adopt 0 6 (qi_icmp_eq (vc_law_851 q v f b0 L xs r hf J) (qi_push (nI 0) (qi_zret r hf))))))) lv st h
theorem sn_law_572 {q v : Nat} {f : Option Nat} {b0 L : Nat} {xs : Nat → Int32} {h0 hf : hc_H} {r : Option Value} : qk (phL q v f b0 L xs) M_law h0 hf r 572 (vc_law_572 q v f b0 L xs r hf (cx (phL q v f b0 L xs) M_law h0 hf r)) := (qs_aload_n d_law_572 rfl (qs_invV hc_Ph_tt (fun _ _ _ => trivial) d_law_573 zz_B_adopt wk_664 ⟨wk_665, wk_666⟩ ⟨_, rfl, rfl⟩ ⟨by decide, by decide⟩ (qs_aload_n d_law_576 rfl (qs_invV hc_Ph_tt (fun _ _ _ => trivial) d_law_577 zz_R_adopt wk_1108 ⟨wk_1109, wk_1110⟩ ⟨_, rfl, rfl⟩ ⟨by decide, by decide⟩ (qs_icmp_eq (tgt := 851) d_law_580 (by decide) sn_law_851 (qs_iconst d_law_583 (by decide) (qs_zret d_law_584 rfl)))))))
def vc_law_559 (q v : Nat) (f : Option Nat) (b0 L : Nat) (xs : Nat → Int32) (r : Option Value) (hf : hc_H) (J : Nat → hc_K) (lv : hc_L) (st : List Value) (h : hc_H) : Prop := (qi_aload 1 (qi_invV hc_tt M_B_left 0 5 (qi_aload 2 (qi_invV hc_tt M_R_left 0 6 (qi_icmp_eq (vc_law_851 q v f b0 L xs r hf J) (qi_push (nI 0) (qi_zret r hf))))))) lv st h
theorem sn_law_559 {q v : Nat} {f : Option Nat} {b0 L : Nat} {xs : Nat → Int32} {h0 hf : hc_H} {r : Option Value} : qk (phL q v f b0 L xs) M_law h0 hf r 559 (vc_law_559 q v f b0 L xs r hf (cx (phL q v f b0 L xs) M_law h0 hf r)) := (qs_aload_n d_law_559 rfl (qs_invV hc_Ph_tt (fun _ _ _ => trivial) d_law_560 zz_B_left wk_563 ⟨wk_564, wk_565⟩ ⟨_, rfl, rfl⟩ ⟨by decide, by decide⟩ (qs_aload_n d_law_563 rfl (qs_invV hc_Ph_tt (fun _ _ _ => trivial) d_law_564 zz_R_left wk_1112 ⟨wk_1113, wk_1114⟩ ⟨_, rfl, rfl⟩ ⟨by decide, by decide⟩ (qs_icmp_eq (tgt := 851) d_law_567 (by decide) sn_law_851 (qs_iconst d_law_570 (by decide) (qs_zret d_law_571 rfl)))))))
def vc_law_536 (q v : Nat) (f : Option Nat) (b0 L : Nat) (xs : Nat → Int32) (r : Option Value) (hf : hc_H) (J : Nat → hc_K) (lv : hc_L) (st : List Value) (h : hc_H) : Prop := (qi_aload 1 (qi_aload 0 (qi_iload 3 (qi_push (nI 1) (qi_iadd (qi_ldL b0 L xs (qi_invV hc_tt M_B_where 1 5 (qi_aload 2 (qi_aload 0 (qi_iload 3 (qi_push (nI 1) (qi_iadd (qi_ldL b0 L xs (qi_invV hc_tt M_R_where 1 6 (qi_icmp_eq (vc_law_851 q v f b0 L xs r hf J) (qi_push (nI 0) (qi_zret r hf))))))))))))))))) lv st h
theorem sn_law_536 {q v : Nat} {f : Option Nat} {b0 L : Nat} {xs : Nat → Int32} {h0 hf : hc_H} {r : Option Value} : qk (phL q v f b0 L xs) M_law h0 hf r 536 (vc_law_536 q v f b0 L xs r hf (cx (phL q v f b0 L xs) M_law h0 hf r)) := (qs_aload_n d_law_536 rfl (qs_aload_n d_law_537 rfl (qs_iload_n d_law_538 rfl (qs_iconst d_law_539 (by decide) (qs_iadd d_law_540 (qs_ldL d_law_541 (qs_invV hc_Ph_tt (fun _ _ _ => trivial) d_law_542 zz_B_where wk_559 ⟨wk_560, wk_561⟩ ⟨_, rfl, rfl⟩ ⟨by decide, by decide⟩ (qs_aload_n d_law_545 rfl (qs_aload_n d_law_546 rfl (qs_iload_n d_law_547 rfl (qs_iconst d_law_548 (by decide) (qs_iadd d_law_549 (qs_ldL d_law_550 (qs_invV hc_Ph_tt (fun _ _ _ => trivial) d_law_551 zz_R_where wk_1038 ⟨wk_1039, wk_1040⟩ ⟨_, rfl, rfl⟩ ⟨by decide, by decide⟩ (qs_icmp_eq (tgt := 851) d_law_554 (by decide) sn_law_851 (qs_iconst d_law_557 (by decide) (qs_zret d_law_558 rfl)))))))))))))))))
def vc_law_503 (q v : Nat) (f : Option Nat) (b0 L : Nat) (xs : Nat → Int32) (r : Option Value) (hf : hc_H) (J : Nat → hc_K) (lv : hc_L) (st : List Value) (h : hc_H) : Prop := (qi_aload 1 (qi_aload 0 (qi_iload 3 (qi_push (nI 1) (qi_iadd (qi_ldL b0 L xs (qi_aload 0 (qi_iload 3 (qi_push (nI 2) (qi_iadd (qi_ldL b0 L xs (qi_invV hc_tt M_B_station 2 5 (qi_aload 2 (qi_aload 0 (qi_iload 3 (qi_push (nI 1) (qi_iadd (qi_ldL b0 L xs (qi_aload 0 (qi_iload 3 (qi_push (nI 2) (qi_iadd (qi_ldL b0 L xs (qi_invV hc_tt M_R_station 2 6 (qi_icmp_eq (vc_law_851 q v f b0 L xs r hf J) (qi_push (nI 0) (qi_zret r hf))))))))))))))))))))))))))) lv st h
theorem sn_law_503 {q v : Nat} {f : Option Nat} {b0 L : Nat} {xs : Nat → Int32} {h0 hf : hc_H} {r : Option Value} : qk (phL q v f b0 L xs) M_law h0 hf r 503 (vc_law_503 q v f b0 L xs r hf (cx (phL q v f b0 L xs) M_law h0 hf r)) := (qs_aload_n d_law_503 rfl (qs_aload_n d_law_504 rfl (qs_iload_n d_law_505 rfl (qs_iconst d_law_506 (by decide) (qs_iadd d_law_507 (qs_ldL d_law_508 (qs_aload_n d_law_509 rfl (qs_iload_n d_law_510 rfl (qs_iconst d_law_511 (by decide) (qs_iadd d_law_512 (qs_ldL d_law_513 (qs_invV hc_Ph_tt (fun _ _ _ => trivial) d_law_514 zz_B_station wk_555 ⟨wk_556, wk_557⟩ ⟨_, rfl, rfl⟩ ⟨by decide, by decide⟩ (qs_aload_n d_law_517 rfl (qs_aload_n d_law_518 rfl (qs_iload_n d_law_519 rfl (qs_iconst d_law_520 (by decide) (qs_iadd d_law_521 (qs_ldL d_law_522 (qs_aload_n d_law_523 rfl (qs_iload_n d_law_524 rfl (qs_iconst d_law_525 (by decide) (qs_iadd d_law_526 (qs_ldL d_law_527 (qs_invV hc_Ph_tt (fun _ _ _ => trivial) d_law_528 zz_R_station wk_1034 ⟨wk_1035, wk_1036⟩ ⟨_, rfl, rfl⟩ ⟨by decide, by decide⟩ (qs_icmp_eq (tgt := 851) d_law_531 (by decide) sn_law_851 (qs_iconst d_law_534 (by decide) (qs_zret d_law_535 rfl)))))))))))))))))))))))))))
def vc_law_470 (q v : Nat) (f : Option Nat) (b0 L : Nat) (xs : Nat → Int32) (r : Option Value) (hf : hc_H) (J : Nat → hc_K) (lv : hc_L) (st : List Value) (h : hc_H) : Prop := (qi_aload 1 (qi_aload 0 (qi_iload 3 (qi_push (nI 1) (qi_iadd (qi_ldL b0 L xs (qi_aload 0 (qi_iload 3 (qi_push (nI 2) (qi_iadd (qi_ldL b0 L xs (qi_invV hc_tt M_B_why 2 5 (qi_aload 2 (qi_aload 0 (qi_iload 3 (qi_push (nI 1) (qi_iadd (qi_ldL b0 L xs (qi_aload 0 (qi_iload 3 (qi_push (nI 2) (qi_iadd (qi_ldL b0 L xs (qi_invV hc_tt M_R_why 2 6 (qi_icmp_eq (vc_law_851 q v f b0 L xs r hf J) (qi_push (nI 0) (qi_zret r hf))))))))))))))))))))))))))) lv st h
theorem sn_law_470 {q v : Nat} {f : Option Nat} {b0 L : Nat} {xs : Nat → Int32} {h0 hf : hc_H} {r : Option Value} : qk (phL q v f b0 L xs) M_law h0 hf r 470 (vc_law_470 q v f b0 L xs r hf (cx (phL q v f b0 L xs) M_law h0 hf r)) := (qs_aload_n d_law_470 rfl (qs_aload_n d_law_471 rfl (qs_iload_n d_law_472 rfl (qs_iconst d_law_473 (by decide) (qs_iadd d_law_474 (qs_ldL d_law_475 (qs_aload_n d_law_476 rfl (qs_iload_n d_law_477 rfl (qs_iconst d_law_478 (by decide) (qs_iadd d_law_479 (qs_ldL d_law_480 (qs_invV hc_Ph_tt (fun _ _ _ => trivial) d_law_481 zz_B_why wk_551 ⟨wk_552, wk_553⟩ ⟨_, rfl, rfl⟩ ⟨by decide, by decide⟩ (qs_aload_n d_law_484 rfl (qs_aload_n d_law_485 rfl (qs_iload_n d_law_486 rfl (qs_iconst d_law_487 (by decide) (qs_iadd d_law_488 (qs_ldL d_law_489 (qs_aload_n d_law_490 rfl (qs_iload_n d_law_491 rfl (qs_iconst d_law_492 (by decide) (qs_iadd d_law_493 (qs_ldL d_law_494 (qs_invV hc_Ph_tt (fun _ _ _ => trivial) d_law_495 zz_R_why wk_1030 ⟨wk_1031, wk_1032⟩ ⟨_, rfl, rfl⟩ ⟨by decide, by decide⟩ (qs_icmp_eq (tgt := 851) d_law_498 (by decide) sn_law_851 (qs_iconst d_law_501 (by decide) (qs_zret d_law_502 rfl)))))))))))))))))))))))))))
def vc_law_447 (q v : Nat) (f : Option Nat) (b0 L : Nat) (xs : Nat → Int32) (r : Option Value) (hf : hc_H) (J : Nat → hc_K) (lv : hc_L) (st : List Value) (h : hc_H) : Prop := (qi_aload 1 (qi_aload 0 (qi_iload 3 (qi_push (nI 1) (qi_iadd (qi_ldL b0 L xs (qi_invV hc_tt M_B_off 1 5 (qi_aload 2 (qi_aload 0 (qi_iload 3 (qi_push (nI 1) (qi_iadd (qi_ldL b0 L xs (qi_invV hc_tt M_R_off 1 6 (qi_icmp_eq (vc_law_851 q v f b0 L xs r hf J) (qi_push (nI 0) (qi_zret r hf))))))))))))))))) lv st h
theorem sn_law_447 {q v : Nat} {f : Option Nat} {b0 L : Nat} {xs : Nat → Int32} {h0 hf : hc_H} {r : Option Value} : qk (phL q v f b0 L xs) M_law h0 hf r 447 (vc_law_447 q v f b0 L xs r hf (cx (phL q v f b0 L xs) M_law h0 hf r)) := (qs_aload_n d_law_447 rfl (qs_aload_n d_law_448 rfl (qs_iload_n d_law_449 rfl (qs_iconst d_law_450 (by decide) (qs_iadd d_law_451 (qs_ldL d_law_452 (qs_invV hc_Ph_tt (fun _ _ _ => trivial) d_law_453 zz_B_off wk_547 ⟨wk_548, wk_549⟩ ⟨_, rfl, rfl⟩ ⟨by decide, by decide⟩ (qs_aload_n d_law_456 rfl (qs_aload_n d_law_457 rfl (qs_iload_n d_law_458 rfl (qs_iconst d_law_459 (by decide) (qs_iadd d_law_460 (qs_ldL d_law_461 (qs_invV hc_Ph_tt (fun _ _ _ => trivial) d_law_462 zz_R_off wk_1026 ⟨wk_1027, wk_1028⟩ ⟨_, rfl, rfl⟩ ⟨by decide, by decide⟩ (qs_icmp_eq (tgt := 851) d_law_465 (by decide) sn_law_851 (qs_iconst d_law_468 (by decide) (qs_zret d_law_469 rfl)))))))))))))))))
def vc_law_414 (q v : Nat) (f : Option Nat) (b0 L : Nat) (xs : Nat → Int32) (r : Option Value) (hf : hc_H) (J : Nat → hc_K) (lv : hc_L) (st : List Value) (h : hc_H) : Prop := (qi_aload 1 (qi_aload 0 (qi_iload 3 (qi_push (nI 1) (qi_iadd (qi_ldL b0 L xs (qi_aload 0 (qi_iload 3 (qi_push (nI 2) (qi_iadd (qi_ldL b0 L xs (qi_invV hc_tt M_B_put 2 5 (qi_aload 2 (qi_aload 0 (qi_iload 3 (qi_push (nI 1) (qi_iadd (qi_ldL b0 L xs (qi_aload 0 (qi_iload 3 (qi_push (nI 2) (qi_iadd (qi_ldL b0 L xs (qi_invV hc_tt M_R_put 2 6 (qi_icmp_eq (vc_law_851 q v f b0 L xs r hf J) (qi_push (nI 0) (qi_zret r hf))))))))))))))))))))))))))) lv st h
theorem sn_law_414 {q v : Nat} {f : Option Nat} {b0 L : Nat} {xs : Nat → Int32} {h0 hf : hc_H} {r : Option Value} : qk (phL q v f b0 L xs) M_law h0 hf r 414 (vc_law_414 q v f b0 L xs r hf (cx (phL q v f b0 L xs) M_law h0 hf r)) := (qs_aload_n d_law_414 rfl (qs_aload_n d_law_415 rfl (qs_iload_n d_law_416 rfl (qs_iconst d_law_417 (by decide) (qs_iadd d_law_418 (qs_ldL d_law_419 (qs_aload_n d_law_420 rfl (qs_iload_n d_law_421 rfl (qs_iconst d_law_422 (by decide) (qs_iadd d_law_423 (qs_ldL d_law_424 (qs_invV hc_Ph_tt (fun _ _ _ => trivial) d_law_425 zz_B_put wk_531 ⟨wk_532, wk_533⟩ ⟨_, rfl, rfl⟩ ⟨by decide, by decide⟩ (qs_aload_n d_law_428 rfl (qs_aload_n d_law_429 rfl (qs_iload_n d_law_430 rfl (qs_iconst d_law_431 (by decide) (qs_iadd d_law_432 (qs_ldL d_law_433 (qs_aload_n d_law_434 rfl (qs_iload_n d_law_435 rfl (qs_iconst d_law_436 (by decide) (qs_iadd d_law_437 (qs_ldL d_law_438 (qs_invV hc_Ph_tt (fun _ _ _ => trivial) d_law_439 zz_R_put wk_1021 ⟨wk_1022, wk_1023⟩ ⟨_, rfl, rfl⟩ ⟨by decide, by decide⟩ (qs_icmp_eq (tgt := 851) d_law_442 (by decide) sn_law_851 (qs_iconst d_law_445 (by decide) (qs_zret d_law_446 rfl)))))))))))))))))))))))))))
def vc_law_381 (q v : Nat) (f : Option Nat) (b0 L : Nat) (xs : Nat → Int32) (r : Option Value) (hf : hc_H) (J : Nat → hc_K) (lv : hc_L) (st : List Value) (h : hc_H) : Prop := (qi_aload 1 (qi_aload 0 (qi_iload 3 (qi_push (nI 1) (qi_iadd (qi_ldL b0 L xs (qi_aload 0 (qi_iload 3 (qi_push (nI 2) (qi_iadd (qi_ldL b0 L xs (qi_invV hc_tt M_B_task 2 5 (qi_aload 2 (qi_aload 0 (qi_iload 3 (qi_push (nI 1) (qi_iadd (qi_ldL b0 L xs (qi_aload 0 (qi_iload 3 (qi_push (nI 2) (qi_iadd (qi_ldL b0 L xs (qi_invV hc_tt M_R_task 2 6 (qi_icmp_eq (vc_law_851 q v f b0 L xs r hf J) (qi_push (nI 0) (qi_zret r hf))))))))))))))))))))))))))) lv st h
theorem sn_law_381 {q v : Nat} {f : Option Nat} {b0 L : Nat} {xs : Nat → Int32} {h0 hf : hc_H} {r : Option Value} : qk (phL q v f b0 L xs) M_law h0 hf r 381 (vc_law_381 q v f b0 L xs r hf (cx (phL q v f b0 L xs) M_law h0 hf r)) := (qs_aload_n d_law_381 rfl (qs_aload_n d_law_382 rfl (qs_iload_n d_law_383 rfl (qs_iconst d_law_384 (by decide) (qs_iadd d_law_385 (qs_ldL d_law_386 (qs_aload_n d_law_387 rfl (qs_iload_n d_law_388 rfl (qs_iconst d_law_389 (by decide) (qs_iadd d_law_390 (qs_ldL d_law_391 (qs_invV hc_Ph_tt (fun _ _ _ => trivial) d_law_392 zz_B_task wk_522 ⟨wk_523, wk_524⟩ ⟨_, rfl, rfl⟩ ⟨by decide, by decide⟩ (qs_aload_n d_law_395 rfl (qs_aload_n d_law_396 rfl (qs_iload_n d_law_397 rfl (qs_iconst d_law_398 (by decide) (qs_iadd d_law_399 (qs_ldL d_law_400 (qs_aload_n d_law_401 rfl (qs_iload_n d_law_402 rfl (qs_iconst d_law_403 (by decide) (qs_iadd d_law_404 (qs_ldL d_law_405 (qs_invV hc_Ph_tt (fun _ _ _ => trivial) d_law_406 zz_R_task wk_1013 ⟨wk_1014, wk_1015⟩ ⟨_, rfl, rfl⟩ ⟨by decide, by decide⟩ (qs_icmp_eq (tgt := 851) d_law_409 (by decide) sn_law_851 (qs_iconst d_law_412 (by decide) (qs_zret d_law_413 rfl)))))))))))))))))))))))))))
def vc_law_368 (q v : Nat) (f : Option Nat) (b0 L : Nat) (xs : Nat → Int32) (r : Option Value) (hf : hc_H) (J : Nat → hc_K) (lv : hc_L) (st : List Value) (h : hc_H) : Prop := (qi_aload 1 (qi_invV hc_tt M_B_undo 0 5 (qi_aload 2 (qi_invV hc_tt M_R_undo 0 6 (qi_icmp_eq (vc_law_851 q v f b0 L xs r hf J) (qi_push (nI 0) (qi_zret r hf))))))) lv st h
theorem sn_law_368 {q v : Nat} {f : Option Nat} {b0 L : Nat} {xs : Nat → Int32} {h0 hf : hc_H} {r : Option Value} : qk (phL q v f b0 L xs) M_law h0 hf r 368 (vc_law_368 q v f b0 L xs r hf (cx (phL q v f b0 L xs) M_law h0 hf r)) := (qs_aload_n d_law_368 rfl (qs_invV hc_Ph_tt (fun _ _ _ => trivial) d_law_369 zz_B_undo wk_514 ⟨wk_515, wk_516⟩ ⟨_, rfl, rfl⟩ ⟨by decide, by decide⟩ (qs_aload_n d_law_372 rfl (qs_invV hc_Ph_tt (fun _ _ _ => trivial) d_law_373 zz_R_undo wk_943 ⟨wk_944, wk_945⟩ ⟨_, rfl, rfl⟩ ⟨by decide, by decide⟩ (qs_icmp_eq (tgt := 851) d_law_376 (by decide) sn_law_851 (qs_iconst d_law_379 (by decide) (qs_zret d_law_380 rfl)))))))
def vc_law_325 (q v : Nat) (f : Option Nat) (b0 L : Nat) (xs : Nat → Int32) (r : Option Value) (hf : hc_H) (J : Nat → hc_K) (lv : hc_L) (st : List Value) (h : hc_H) : Prop := (qi_aload 1 (qi_aload 0 (qi_iload 3 (qi_push (nI 1) (qi_iadd (qi_ldL b0 L xs (qi_aload 0 (qi_iload 3 (qi_push (nI 2) (qi_iadd (qi_ldL b0 L xs (qi_aload 0 (qi_iload 3 (qi_push (nI 3) (qi_iadd (qi_ldL b0 L xs (qi_invV hc_tt M_B_zone 3 5 (qi_aload 2 (qi_aload 0 (qi_iload 3 (qi_push (nI 1) (qi_iadd (qi_ldL b0 L xs (qi_aload 0 (qi_iload 3 (qi_push (nI 2) (qi_iadd (qi_ldL b0 L xs (qi_aload 0 (qi_iload 3 (qi_push (nI 3) (qi_iadd (qi_ldL b0 L xs (qi_invV hc_tt M_R_zone 3 6 (qi_icmp_eq (vc_law_851 q v f b0 L xs r hf J) (qi_push (nI 0) (qi_zret r hf))))))))))))))))))))))))))))))))))))) lv st h
theorem sn_law_325 {q v : Nat} {f : Option Nat} {b0 L : Nat} {xs : Nat → Int32} {h0 hf : hc_H} {r : Option Value} : qk (phL q v f b0 L xs) M_law h0 hf r 325 (vc_law_325 q v f b0 L xs r hf (cx (phL q v f b0 L xs) M_law h0 hf r)) := (qs_aload_n d_law_325 rfl (qs_aload_n d_law_326 rfl (qs_iload_n d_law_327 rfl (qs_iconst d_law_328 (by decide) (qs_iadd d_law_329 (qs_ldL d_law_330 (qs_aload_n d_law_331 rfl (qs_iload_n d_law_332 rfl (qs_iconst d_law_333 (by decide) (qs_iadd d_law_334 (qs_ldL d_law_335 (qs_aload_n d_law_336 rfl (qs_iload_n d_law_337 rfl (qs_iconst d_law_338 (by decide) (qs_iadd d_law_339 (qs_ldL d_law_340 (qs_invV hc_Ph_tt (fun _ _ _ => trivial) d_law_341 zz_B_zone wk_508 ⟨wk_509, wk_510⟩ ⟨_, rfl, rfl⟩ ⟨by decide, by decide⟩ (qs_aload_n d_law_344 rfl (qs_aload_n d_law_345 rfl (qs_iload_n d_law_346 rfl (qs_iconst d_law_347 (by decide) (qs_iadd d_law_348 (qs_ldL d_law_349 (qs_aload_n d_law_350 rfl (qs_iload_n d_law_351 rfl (qs_iconst d_law_352 (by decide) (qs_iadd d_law_353 (qs_ldL d_law_354 (qs_aload_n d_law_355 rfl (qs_iload_n d_law_356 rfl (qs_iconst d_law_357 (by decide) (qs_iadd d_law_358 (qs_ldL d_law_359 (qs_invV hc_Ph_tt (fun _ _ _ => trivial) d_law_360 zz_R_zone wk_1008 ⟨wk_1009, wk_1010⟩ ⟨_, rfl, rfl⟩ ⟨by decide, by decide⟩ (qs_icmp_eq (tgt := 851) d_law_363 (by decide) sn_law_851 (qs_iconst d_law_366 (by decide) (qs_zret d_law_367 rfl)))))))))))))))))))))))))))))))))))))
def vc_law_282 (q v : Nat) (f : Option Nat) (b0 L : Nat) (xs : Nat → Int32) (r : Option Value) (hf : hc_H) (J : Nat → hc_K) (lv : hc_L) (st : List Value) (h : hc_H) : Prop := (qi_aload 1 (qi_aload 0 (qi_iload 3 (qi_push (nI 1) (qi_iadd (qi_ldL b0 L xs (qi_aload 0 (qi_iload 3 (qi_push (nI 2) (qi_iadd (qi_ldL b0 L xs (qi_aload 0 (qi_iload 3 (qi_push (nI 3) (qi_iadd (qi_ldL b0 L xs (qi_invV hc_tt M_B_order 3 5 (qi_aload 2 (qi_aload 0 (qi_iload 3 (qi_push (nI 1) (qi_iadd (qi_ldL b0 L xs (qi_aload 0 (qi_iload 3 (qi_push (nI 2) (qi_iadd (qi_ldL b0 L xs (qi_aload 0 (qi_iload 3 (qi_push (nI 3) (qi_iadd (qi_ldL b0 L xs (qi_invV hc_tt M_R_order 3 6 (qi_icmp_eq (vc_law_851 q v f b0 L xs r hf J) (qi_push (nI 0) (qi_zret r hf))))))))))))))))))))))))))))))))))))) lv st h
theorem sn_law_282 {q v : Nat} {f : Option Nat} {b0 L : Nat} {xs : Nat → Int32} {h0 hf : hc_H} {r : Option Value} : qk (phL q v f b0 L xs) M_law h0 hf r 282 (vc_law_282 q v f b0 L xs r hf (cx (phL q v f b0 L xs) M_law h0 hf r)) := (qs_aload_n d_law_282 rfl (qs_aload_n d_law_283 rfl (qs_iload_n d_law_284 rfl (qs_iconst d_law_285 (by decide) (qs_iadd d_law_286 (qs_ldL d_law_287 (qs_aload_n d_law_288 rfl (qs_iload_n d_law_289 rfl (qs_iconst d_law_290 (by decide) (qs_iadd d_law_291 (qs_ldL d_law_292 (qs_aload_n d_law_293 rfl (qs_iload_n d_law_294 rfl (qs_iconst d_law_295 (by decide) (qs_iadd d_law_296 (qs_ldL d_law_297 (qs_invV hc_Ph_tt (fun _ _ _ => trivial) d_law_298 zz_B_order wk_490 ⟨wk_491, wk_492⟩ ⟨_, rfl, rfl⟩ ⟨by decide, by decide⟩ (qs_aload_n d_law_301 rfl (qs_aload_n d_law_302 rfl (qs_iload_n d_law_303 rfl (qs_iconst d_law_304 (by decide) (qs_iadd d_law_305 (qs_ldL d_law_306 (qs_aload_n d_law_307 rfl (qs_iload_n d_law_308 rfl (qs_iconst d_law_309 (by decide) (qs_iadd d_law_310 (qs_ldL d_law_311 (qs_aload_n d_law_312 rfl (qs_iload_n d_law_313 rfl (qs_iconst d_law_314 (by decide) (qs_iadd d_law_315 (qs_ldL d_law_316 (qs_invV hc_Ph_tt (fun _ _ _ => trivial) d_law_317 zz_R_order wk_993 ⟨wk_994, wk_995⟩ ⟨_, rfl, rfl⟩ ⟨by decide, by decide⟩ (qs_icmp_eq (tgt := 851) d_law_320 (by decide) sn_law_851 (qs_iconst d_law_323 (by decide) (qs_zret d_law_324 rfl)))))))))))))))))))))))))))))))))))))
def vc_law_249 (q v : Nat) (f : Option Nat) (b0 L : Nat) (xs : Nat → Int32) (r : Option Value) (hf : hc_H) (J : Nat → hc_K) (lv : hc_L) (st : List Value) (h : hc_H) : Prop := (qi_aload 1 (qi_aload 0 (qi_iload 3 (qi_push (nI 1) (qi_iadd (qi_ldL b0 L xs (qi_aload 0 (qi_iload 3 (qi_push (nI 2) (qi_iadd (qi_ldL b0 L xs (qi_invV hc_tt M_B_time 2 5 (qi_aload 2 (qi_aload 0 (qi_iload 3 (qi_push (nI 1) (qi_iadd (qi_ldL b0 L xs (qi_aload 0 (qi_iload 3 (qi_push (nI 2) (qi_iadd (qi_ldL b0 L xs (qi_invV hc_tt M_R_time 2 6 (qi_icmp_eq (vc_law_851 q v f b0 L xs r hf J) (qi_push (nI 0) (qi_zret r hf))))))))))))))))))))))))))) lv st h
theorem sn_law_249 {q v : Nat} {f : Option Nat} {b0 L : Nat} {xs : Nat → Int32} {h0 hf : hc_H} {r : Option Value} : qk (phL q v f b0 L xs) M_law h0 hf r 249 (vc_law_249 q v f b0 L xs r hf (cx (phL q v f b0 L xs) M_law h0 hf r)) := (qs_aload_n d_law_249 rfl (qs_aload_n d_law_250 rfl (qs_iload_n d_law_251 rfl (qs_iconst d_law_252 (by decide) (qs_iadd d_law_253 (qs_ldL d_law_254 (qs_aload_n d_law_255 rfl (qs_iload_n d_law_256 rfl (qs_iconst d_law_257 (by decide) (qs_iadd d_law_258 (qs_ldL d_law_259 (qs_invV hc_Ph_tt (fun _ _ _ => trivial) d_law_260 zz_B_time wk_485 ⟨wk_486, wk_487⟩ ⟨_, rfl, rfl⟩ ⟨by decide, by decide⟩ (qs_aload_n d_law_263 rfl (qs_aload_n d_law_264 rfl (qs_iload_n d_law_265 rfl (qs_iconst d_law_266 (by decide) (qs_iadd d_law_267 (qs_ldL d_law_268 (qs_aload_n d_law_269 rfl (qs_iload_n d_law_270 rfl (qs_iconst d_law_271 (by decide) (qs_iadd d_law_272 (qs_ldL d_law_273 (qs_invV hc_Ph_tt (fun _ _ _ => trivial) d_law_274 zz_R_time wk_984 ⟨wk_985, wk_986⟩ ⟨_, rfl, rfl⟩ ⟨by decide, by decide⟩ (qs_icmp_eq (tgt := 851) d_law_277 (by decide) sn_law_851 (qs_iconst d_law_280 (by decide) (qs_zret d_law_281 rfl)))))))))))))))))))))))))))
def vc_law_226 (q v : Nat) (f : Option Nat) (b0 L : Nat) (xs : Nat → Int32) (r : Option Value) (hf : hc_H) (J : Nat → hc_K) (lv : hc_L) (st : List Value) (h : hc_H) : Prop := (qi_aload 1 (qi_aload 0 (qi_iload 3 (qi_push (nI 1) (qi_iadd (qi_ldL b0 L xs (qi_invV hc_tt M_B_cycle 1 5 (qi_aload 2 (qi_aload 0 (qi_iload 3 (qi_push (nI 1) (qi_iadd (qi_ldL b0 L xs (qi_invV hc_tt M_R_cycle 1 6 (qi_icmp_eq (vc_law_851 q v f b0 L xs r hf J) (qi_push (nI 0) (qi_zret r hf))))))))))))))))) lv st h
theorem sn_law_226 {q v : Nat} {f : Option Nat} {b0 L : Nat} {xs : Nat → Int32} {h0 hf : hc_H} {r : Option Value} : qk (phL q v f b0 L xs) M_law h0 hf r 226 (vc_law_226 q v f b0 L xs r hf (cx (phL q v f b0 L xs) M_law h0 hf r)) := (qs_aload_n d_law_226 rfl (qs_aload_n d_law_227 rfl (qs_iload_n d_law_228 rfl (qs_iconst d_law_229 (by decide) (qs_iadd d_law_230 (qs_ldL d_law_231 (qs_invV hc_Ph_tt (fun _ _ _ => trivial) d_law_232 zz_B_cycle wk_450 ⟨wk_451, wk_452⟩ ⟨_, rfl, rfl⟩ ⟨by decide, by decide⟩ (qs_aload_n d_law_235 rfl (qs_aload_n d_law_236 rfl (qs_iload_n d_law_237 rfl (qs_iconst d_law_238 (by decide) (qs_iadd d_law_239 (qs_ldL d_law_240 (qs_invV hc_Ph_tt (fun _ _ _ => trivial) d_law_241 zz_R_cycle wk_947 ⟨wk_948, wk_949⟩ ⟨_, rfl, rfl⟩ ⟨by decide, by decide⟩ (qs_icmp_eq (tgt := 851) d_law_244 (by decide) sn_law_851 (qs_iconst d_law_247 (by decide) (qs_zret d_law_248 rfl)))))))))))))))))
def vc_law_213 (q v : Nat) (f : Option Nat) (b0 L : Nat) (xs : Nat → Int32) (r : Option Value) (hf : hc_H) (J : Nat → hc_K) (lv : hc_L) (st : List Value) (h : hc_H) : Prop := (qi_aload 1 (qi_invV hc_tt M_B_lay 0 5 (qi_aload 2 (qi_invV hc_tt M_R_lay 0 6 (qi_icmp_eq (vc_law_851 q v f b0 L xs r hf J) (qi_push (nI 0) (qi_zret r hf))))))) lv st h
theorem sn_law_213 {q v : Nat} {f : Option Nat} {b0 L : Nat} {xs : Nat → Int32} {h0 hf : hc_H} {r : Option Value} : qk (phL q v f b0 L xs) M_law h0 hf r 213 (vc_law_213 q v f b0 L xs r hf (cx (phL q v f b0 L xs) M_law h0 hf r)) := (qs_aload_n d_law_213 rfl (qs_invV hc_Ph_tt (fun _ _ _ => trivial) d_law_214 zz_B_lay wk_431 ⟨wk_432, wk_433⟩ ⟨_, rfl, rfl⟩ ⟨by decide, by decide⟩ (qs_aload_n d_law_217 rfl (qs_invV hc_Ph_tt (fun _ _ _ => trivial) d_law_218 zz_R_lay wk_938 ⟨wk_939, wk_940⟩ ⟨_, rfl, rfl⟩ ⟨by decide, by decide⟩ (qs_icmp_eq (tgt := 851) d_law_221 (by decide) sn_law_851 (qs_iconst d_law_224 (by decide) (qs_zret d_law_225 rfl)))))))
def vc_law_200 (q v : Nat) (f : Option Nat) (b0 L : Nat) (xs : Nat → Int32) (r : Option Value) (hf : hc_H) (J : Nat → hc_K) (lv : hc_L) (st : List Value) (h : hc_H) : Prop := (qi_aload 1 (qi_invV hc_tt M_B_fault 0 5 (qi_aload 2 (qi_invV hc_tt M_R_fault 0 6 (qi_icmp_eq (vc_law_851 q v f b0 L xs r hf J) (qi_push (nI 0) (qi_zret r hf))))))) lv st h
theorem sn_law_200 {q v : Nat} {f : Option Nat} {b0 L : Nat} {xs : Nat → Int32} {h0 hf : hc_H} {r : Option Value} : qk (phL q v f b0 L xs) M_law h0 hf r 200 (vc_law_200 q v f b0 L xs r hf (cx (phL q v f b0 L xs) M_law h0 hf r)) := (qs_aload_n d_law_200 rfl (qs_invV hc_Ph_tt (fun _ _ _ => trivial) d_law_201 zz_B_fault wk_427 ⟨wk_428, wk_429⟩ ⟨_, rfl, rfl⟩ ⟨by decide, by decide⟩ (qs_aload_n d_law_204 rfl (qs_invV hc_Ph_tt (fun _ _ _ => trivial) d_law_205 zz_R_fault wk_910 ⟨wk_911, wk_912⟩ ⟨_, rfl, rfl⟩ ⟨by decide, by decide⟩ (qs_icmp_eq (tgt := 851) d_law_208 (by decide) sn_law_851 (qs_iconst d_law_211 (by decide) (qs_zret d_law_212 rfl)))))))
def vc_law_187 (q v : Nat) (f : Option Nat) (b0 L : Nat) (xs : Nat → Int32) (r : Option Value) (hf : hc_H) (J : Nat → hc_K) (lv : hc_L) (st : List Value) (h : hc_H) : Prop := (qi_aload 1 (qi_invV hc_tt M_B_wipe 0 5 (qi_aload 2 (qi_invV hc_tt M_R_wipe 0 6 (qi_icmp_eq (vc_law_851 q v f b0 L xs r hf J) (qi_push (nI 0) (qi_zret r hf))))))) lv st h
theorem sn_law_187 {q v : Nat} {f : Option Nat} {b0 L : Nat} {xs : Nat → Int32} {h0 hf : hc_H} {r : Option Value} : qk (phL q v f b0 L xs) M_law h0 hf r 187 (vc_law_187 q v f b0 L xs r hf (cx (phL q v f b0 L xs) M_law h0 hf r)) := (qs_aload_n d_law_187 rfl (qs_invV hc_Ph_tt (fun _ _ _ => trivial) d_law_188 zz_B_wipe wk_423 ⟨wk_424, wk_425⟩ ⟨_, rfl, rfl⟩ ⟨by decide, by decide⟩ (qs_aload_n d_law_191 rfl (qs_invV hc_Ph_tt (fun _ _ _ => trivial) d_law_192 zz_R_wipe wk_906 ⟨wk_907, wk_908⟩ ⟨_, rfl, rfl⟩ ⟨by decide, by decide⟩ (qs_icmp_eq (tgt := 851) d_law_195 (by decide) sn_law_851 (qs_iconst d_law_198 (by decide) (qs_zret d_law_199 rfl)))))))
def vc_law_164 (q v : Nat) (f : Option Nat) (b0 L : Nat) (xs : Nat → Int32) (r : Option Value) (hf : hc_H) (J : Nat → hc_K) (lv : hc_L) (st : List Value) (h : hc_H) : Prop := (qi_aload 1 (qi_aload 0 (qi_iload 3 (qi_push (nI 1) (qi_iadd (qi_ldL b0 L xs (qi_invV hc_tt M_B_write 1 5 (qi_aload 2 (qi_aload 0 (qi_iload 3 (qi_push (nI 1) (qi_iadd (qi_ldL b0 L xs (qi_invV hc_tt M_R_write 1 6 (qi_icmp_eq (vc_law_851 q v f b0 L xs r hf J) (qi_push (nI 0) (qi_zret r hf))))))))))))))))) lv st h
theorem sn_law_164 {q v : Nat} {f : Option Nat} {b0 L : Nat} {xs : Nat → Int32} {h0 hf : hc_H} {r : Option Value} : qk (phL q v f b0 L xs) M_law h0 hf r 164 (vc_law_164 q v f b0 L xs r hf (cx (phL q v f b0 L xs) M_law h0 hf r)) := (qs_aload_n d_law_164 rfl (qs_aload_n d_law_165 rfl (qs_iload_n d_law_166 rfl (qs_iconst d_law_167 (by decide) (qs_iadd d_law_168 (qs_ldL d_law_169 (qs_invV hc_Ph_tt (fun _ _ _ => trivial) d_law_170 zz_B_write wk_418 ⟨wk_419, wk_420⟩ ⟨_, rfl, rfl⟩ ⟨by decide, by decide⟩ (qs_aload_n d_law_173 rfl (qs_aload_n d_law_174 rfl (qs_iload_n d_law_175 rfl (qs_iconst d_law_176 (by decide) (qs_iadd d_law_177 (qs_ldL d_law_178 (qs_invV hc_Ph_tt (fun _ _ _ => trivial) d_law_179 zz_R_write wk_897 ⟨wk_898, wk_899⟩ ⟨_, rfl, rfl⟩ ⟨by decide, by decide⟩ (qs_icmp_eq (tgt := 851) d_law_182 (by decide) sn_law_851 (qs_iconst d_law_185 (by decide) (qs_zret d_law_186 rfl)))))))))))))))))
def vc_law_18 (q v : Nat) (f : Option Nat) (b0 L : Nat) (xs : Nat → Int32) (r : Option Value) (hf : hc_H) (J : Nat → hc_K) (lv : hc_L) (st : List Value) (h : hc_H) : Prop := (qi_iload 3 (qi_aload 0 (qi_alL b0 L (qi_push (nI 4) (qi_isub (qi_icmp_gt (vc_law_857 q v f b0 L xs r hf J) (qi_aload 0 (qi_iload 3 (qi_ldL b0 L xs (qi_push (nI 31) (qi_iand (qi_sw (vc_law_851 q v f b0 L xs r hf J) [((nI 0), (vc_law_164 q v f b0 L xs r hf J)), ((nI 1), (vc_law_187 q v f b0 L xs r hf J)), ((nI 2), (vc_law_200 q v f b0 L xs r hf J)), ((nI 3), (vc_law_213 q v f b0 L xs r hf J)), ((nI 4), (vc_law_226 q v f b0 L xs r hf J)), ((nI 5), (vc_law_249 q v f b0 L xs r hf J)), ((nI 6), (vc_law_282 q v f b0 L xs r hf J)), ((nI 7), (vc_law_325 q v f b0 L xs r hf J)), ((nI 8), (vc_law_368 q v f b0 L xs r hf J)), ((nI 9), (vc_law_381 q v f b0 L xs r hf J)), ((nI 10), (vc_law_414 q v f b0 L xs r hf J)), ((nI 11), (vc_law_447 q v f b0 L xs r hf J)), ((nI 12), (vc_law_470 q v f b0 L xs r hf J)), ((nI 13), (vc_law_503 q v f b0 L xs r hf J)), ((nI 14), (vc_law_536 q v f b0 L xs r hf J)), ((nI 15), (vc_law_559 q v f b0 L xs r hf J)), ((nI 16), (vc_law_572 q v f b0 L xs r hf J)), ((nI 17), (vc_law_585 q v f b0 L xs r hf J)), ((nI 18), (vc_law_608 q v f b0 L xs r hf J)), ((nI 19), (vc_law_631 q v f b0 L xs r hf J)), ((nI 20), (vc_law_654 q v f b0 L xs r hf J)), ((nI 21), (vc_law_667 q v f b0 L xs r hf J)), ((nI 22), (vc_law_690 q v f b0 L xs r hf J)), ((nI 23), (vc_law_703 q v f b0 L xs r hf J)), ((nI 24), (vc_law_726 q v f b0 L xs r hf J)), ((nI 25), (vc_law_749 q v f b0 L xs r hf J)), ((nI 26), (vc_law_772 q v f b0 L xs r hf J)), ((nI 27), (vc_law_805 q v f b0 L xs r hf J)), ((nI 28), (vc_law_828 q v f b0 L xs r hf J))])))))))))))) lv st h
theorem sn_law_18 {q v : Nat} {f : Option Nat} {b0 L : Nat} {xs : Nat → Int32} {h0 hf : hc_H} {r : Option Value} : qk (phL q v f b0 L xs) M_law h0 hf r 18 (vc_law_18 q v f b0 L xs r hf (cx (phL q v f b0 L xs) M_law h0 hf r)) := (qs_iload_n d_law_18 rfl (qs_aload_n d_law_19 rfl (qs_alL d_law_20 (qs_iconst d_law_21 (by decide) (qs_isub d_law_22 (qs_icmp_gt (tgt := 857) d_law_23 (by decide) sn_law_857 (qs_aload_n d_law_26 rfl (qs_iload_n d_law_27 rfl (qs_ldL d_law_28 (qs_bipush d_law_29 (by decide) (qs_iand d_law_31 (qs_table (tgt := 851) d_law_32 rfl (by decide) ⟨by decide, ⟨164, by decide, sn_law_164⟩, ⟨by decide, ⟨187, by decide, sn_law_187⟩, ⟨by decide, ⟨200, by decide, sn_law_200⟩, ⟨by decide, ⟨213, by decide, sn_law_213⟩, ⟨by decide, ⟨226, by decide, sn_law_226⟩, ⟨by decide, ⟨249, by decide, sn_law_249⟩, ⟨by decide, ⟨282, by decide, sn_law_282⟩, ⟨by decide, ⟨325, by decide, sn_law_325⟩, ⟨by decide, ⟨368, by decide, sn_law_368⟩, ⟨by decide, ⟨381, by decide, sn_law_381⟩, ⟨by decide, ⟨414, by decide, sn_law_414⟩, ⟨by decide, ⟨447, by decide, sn_law_447⟩, ⟨by decide, ⟨470, by decide, sn_law_470⟩, ⟨by decide, ⟨503, by decide, sn_law_503⟩, ⟨by decide, ⟨536, by decide, sn_law_536⟩, ⟨by decide, ⟨559, by decide, sn_law_559⟩, ⟨by decide, ⟨572, by decide, sn_law_572⟩, ⟨by decide, ⟨585, by decide, sn_law_585⟩, ⟨by decide, ⟨608, by decide, sn_law_608⟩, ⟨by decide, ⟨631, by decide, sn_law_631⟩, ⟨by decide, ⟨654, by decide, sn_law_654⟩, ⟨by decide, ⟨667, by decide, sn_law_667⟩, ⟨by decide, ⟨690, by decide, sn_law_690⟩, ⟨by decide, ⟨703, by decide, sn_law_703⟩, ⟨by decide, ⟨726, by decide, sn_law_726⟩, ⟨by decide, ⟨749, by decide, sn_law_749⟩, ⟨by decide, ⟨772, by decide, sn_law_772⟩, ⟨by decide, ⟨805, by decide, sn_law_805⟩, ⟨by decide, ⟨828, by decide, sn_law_828⟩, trivial⟩⟩⟩⟩⟩⟩⟩⟩⟩⟩⟩⟩⟩⟩⟩⟩⟩⟩⟩⟩⟩⟩⟩⟩⟩⟩⟩⟩⟩ (by decide) sn_law_851))))))))))))
def vc_law_0 (q v : Nat) (f : Option Nat) (b0 L : Nat) (xs : Nat → Int32) (r : Option Value) (hf : hc_H) (J : Nat → hc_K) (lv : hc_L) (st : List Value) (h : hc_H) : Prop := (qi_new 5 5 [.null, .null, .null, .null, .null] (qi_dup (qi_invI (phS q v f) M_B_init 0 (qi_astore 1 (qi_new 6 15 [.int 0, .null, .null, .null, .int 0, .null, .int 0, .null, .null, .null, .null, .null, .null, .null, .int 0] (qi_dup (qi_invI hc_tt M_R_init 0 (qi_astore 2 (qi_push (nI 0) (qi_istore 3 (J 18))))))))))) lv st h
theorem sn_law_0 {q v : Nat} {f : Option Nat} {b0 L : Nat} {xs : Nat → Int32} {h0 hf : hc_H} {r : Option Value} : qk (phL q v f b0 L xs) M_law h0 hf r 0 (vc_law_0 q v f b0 L xs r hf (cx (phL q v f b0 L xs) M_law h0 hf r)) := (qs_new tyX5 d_law_0 rfl inG_5 tyX5_ok wk_69 wk_70 wk_54 hcd_5 (qs_dup d_law_3 (qs_invI phS_ok (fun _ _ h9 => h9.1) d_law_4 zz_B_init wk_71 wk_72 rfl rfl ⟨by decide, by decide⟩ (qs_astore_n d_law_7 rfl (by decide) (qs_new tyX6 d_law_8 rfl inG_6 tyX6_ok wk_842 wk_843 wk_66 hcd_6 (qs_dup d_law_11 (qs_invI hc_Ph_tt (fun _ _ _ => trivial) d_law_12 zz_R_init wk_844 wk_845 rfl rfl ⟨by decide, by decide⟩ (qs_astore_n d_law_15 rfl (by decide) (qs_iconst d_law_16 (by decide) (qs_istore_n d_law_17 rfl (by decide) (fun _ _ _ h9 => h9)))))))))))
