theorem w_485 : (.methodLink "MarchTestsLaw" 7 y_MT_fault : Cond) ∈ TB := tb_of (List.mem_of_getElem? (i := 388) (by decide +kernel)) rfl
theorem w_486 : (.instanceMethod y_MT_fault : Cond) ∈ TB := tb_of (List.mem_of_getElem? (i := 389) (by decide +kernel)) rfl
theorem w_487 : (.selects "MarchTests" y_MT_fault y_MT_fault : Cond) ∈ TB := tb_of (List.mem_of_getElem? (i := 390) (by decide +kernel)) rfl
theorem w_488 : (.code y_MT_fault b_MT_fault 4 (some .int) : Cond) ∈ TB := tb_of (List.mem_of_getElem? (i := 391) (by decide +kernel)) rfl
theorem w_489 : (.classLink "MarchTestsLaw" 13 "java/lang/IndexOutOfBoundsException" : Cond) ∈ TB := tb_of (List.mem_of_getElem? (i := 385) (by decide +kernel)) rfl
theorem w_490 : (.classLink "MarchTestsLaw" 15 "java/lang/IllegalStateException" : Cond) ∈ TB := tb_of (List.mem_of_getElem? (i := 386) (by decide +kernel)) rfl
theorem w_491 : (.classLink "MarchTestsLaw" 17 "java/lang/IllegalArgumentException" : Cond) ∈ TB := tb_of (List.mem_of_getElem? (i := 387) (by decide +kernel)) rfl
theorem w_492 : (.methodLink "MarchTestsLaw" 19 y_MT_run : Cond) ∈ TB := tb_of (List.mem_of_getElem? (i := 514) (by decide +kernel)) rfl
theorem w_493 : (.instanceMethod y_MT_run : Cond) ∈ TB := tb_of (List.mem_of_getElem? (i := 515) (by decide +kernel)) rfl
theorem w_494 : (.selects "MarchTests" y_MT_run y_MT_run : Cond) ∈ TB := tb_of (List.mem_of_getElem? (i := 516) (by decide +kernel)) rfl
theorem w_495 : (.code y_MT_run b_MT_run 2 (some .int) : Cond) ∈ TB := tb_of (List.mem_of_getElem? (i := 517) (by decide +kernel)) rfl
theorem w_496 : (.methodLink "MarchTestsLaw" 23 y_MT_covered : Cond) ∈ TB := tb_of (List.mem_of_getElem? (i := 609) (by decide +kernel)) rfl
theorem w_497 : (.instanceMethod y_MT_covered : Cond) ∈ TB := tb_of (List.mem_of_getElem? (i := 610) (by decide +kernel)) rfl
theorem w_498 : (.selects "MarchTests" y_MT_covered y_MT_covered : Cond) ∈ TB := tb_of (List.mem_of_getElem? (i := 611) (by decide +kernel)) rfl
theorem w_499 : (.code y_MT_covered b_MT_covered 8 (some .long) : Cond) ∈ TB := tb_of (List.mem_of_getElem? (i := 612) (by decide +kernel)) rfl
theorem w_500 : (.methodLink "MarchTestsLaw" 27 y_MT_machine : Cond) ∈ TB := tb_of (List.mem_of_getElem? (i := 617) (by decide +kernel)) rfl
theorem w_501 : (.instanceMethod y_MT_machine : Cond) ∈ TB := tb_of (List.mem_of_getElem? (i := 618) (by decide +kernel)) rfl
theorem w_502 : (.selects "MarchTests" y_MT_machine y_MT_machine : Cond) ∈ TB := tb_of (List.mem_of_getElem? (i := 619) (by decide +kernel)) rfl
theorem w_503 : (.code y_MT_machine b_MT_machine 2 (some .int) : Cond) ∈ TB := tb_of (List.mem_of_getElem? (i := 620) (by decide +kernel)) rfl
theorem w_504 : (.methodLink "MarchTestsLaw" 30 y_MT_scramble : Cond) ∈ TB := tb_of (List.mem_of_getElem? (i := 625) (by decide +kernel)) rfl
theorem w_505 : (.instanceMethod y_MT_scramble : Cond) ∈ TB := tb_of (List.mem_of_getElem? (i := 626) (by decide +kernel)) rfl
theorem w_506 : (.selects "MarchTests" y_MT_scramble y_MT_scramble : Cond) ∈ TB := tb_of (List.mem_of_getElem? (i := 627) (by decide +kernel)) rfl
theorem w_507 : (.code y_MT_scramble b_MT_scramble 3 (some .boolean) : Cond) ∈ TB := tb_of (List.mem_of_getElem? (i := 628) (by decide +kernel)) rfl
theorem w_508 : (.methodLink "MarchTestsLaw" 34 y_MT_failing : Cond) ∈ TB := tb_of (List.mem_of_getElem? (i := 641) (by decide +kernel)) rfl
theorem w_509 : (.instanceMethod y_MT_failing : Cond) ∈ TB := tb_of (List.mem_of_getElem? (i := 642) (by decide +kernel)) rfl
theorem w_510 : (.selects "MarchTests" y_MT_failing y_MT_failing : Cond) ∈ TB := tb_of (List.mem_of_getElem? (i := 643) (by decide +kernel)) rfl
theorem w_511 : (.code y_MT_failing b_MT_failing 5 (some .int) : Cond) ∈ TB := tb_of (List.mem_of_getElem? (i := 644) (by decide +kernel)) rfl
theorem w_512 : (.methodLink "MarchTestsLaw" 38 y_MT_repair : Cond) ∈ TB := tb_of (List.mem_of_getElem? (i := 653) (by decide +kernel)) rfl
theorem w_513 : (.instanceMethod y_MT_repair : Cond) ∈ TB := tb_of (List.mem_of_getElem? (i := 654) (by decide +kernel)) rfl
theorem w_514 : (.selects "MarchTests" y_MT_repair y_MT_repair : Cond) ∈ TB := tb_of (List.mem_of_getElem? (i := 655) (by decide +kernel)) rfl
theorem w_515 : (.code y_MT_repair b_MT_repair 5 (some .int) : Cond) ∈ TB := tb_of (List.mem_of_getElem? (i := 656) (by decide +kernel)) rfl
theorem w_516 : (.methodLink "MarchTestsLaw" 42 y_MT_spare : Cond) ∈ TB := tb_of (List.mem_of_getElem? (i := 691) (by decide +kernel)) rfl
theorem w_517 : (.instanceMethod y_MT_spare : Cond) ∈ TB := tb_of (List.mem_of_getElem? (i := 692) (by decide +kernel)) rfl
theorem w_518 : (.selects "MarchTests" y_MT_spare y_MT_spare : Cond) ∈ TB := tb_of (List.mem_of_getElem? (i := 693) (by decide +kernel)) rfl
theorem w_519 : (.code y_MT_spare b_MT_spare 5 (some .int) : Cond) ∈ TB := tb_of (List.mem_of_getElem? (i := 694) (by decide +kernel)) rfl
theorem w_520 : (.methodLink "MarchTestsLaw" 45 y_MT_fuse : Cond) ∈ TB := tb_of (List.mem_of_getElem? (i := 708) (by decide +kernel)) rfl
theorem w_521 : (.instanceMethod y_MT_fuse : Cond) ∈ TB := tb_of (List.mem_of_getElem? (i := 709) (by decide +kernel)) rfl
theorem w_522 : (.selects "MarchTests" y_MT_fuse y_MT_fuse : Cond) ∈ TB := tb_of (List.mem_of_getElem? (i := 710) (by decide +kernel)) rfl
theorem w_523 : (.code y_MT_fuse b_MT_fuse 2 (some .int) : Cond) ∈ TB := tb_of (List.mem_of_getElem? (i := 711) (by decide +kernel)) rfl
theorem w_524 : (.methodLink "MarchTestsLaw" 48 y_MT_port : Cond) ∈ TB := tb_of (List.mem_of_getElem? (i := 717) (by decide +kernel)) rfl
theorem w_525 : (.instanceMethod y_MT_port : Cond) ∈ TB := tb_of (List.mem_of_getElem? (i := 718) (by decide +kernel)) rfl
theorem w_526 : (.selects "MarchTests" y_MT_port y_MT_port : Cond) ∈ TB := tb_of (List.mem_of_getElem? (i := 719) (by decide +kernel)) rfl
theorem w_527 : (.code y_MT_port b_MT_port 3 (some .int) : Cond) ∈ TB := tb_of (List.mem_of_getElem? (i := 720) (by decide +kernel)) rfl
theorem w_528 : (.methodLink "MarchTestsLaw" 51 y_MT_ground : Cond) ∈ TB := tb_of (List.mem_of_getElem? (i := 725) (by decide +kernel)) rfl
theorem w_529 : (.instanceMethod y_MT_ground : Cond) ∈ TB := tb_of (List.mem_of_getElem? (i := 726) (by decide +kernel)) rfl
theorem w_530 : (.selects "MarchTests" y_MT_ground y_MT_ground : Cond) ∈ TB := tb_of (List.mem_of_getElem? (i := 727) (by decide +kernel)) rfl
theorem w_531 : (.code y_MT_ground b_MT_ground 3 (some .boolean) : Cond) ∈ TB := tb_of (List.mem_of_getElem? (i := 728) (by decide +kernel)) rfl
