theorem w_459 : (.classLink "MarchTests" 98 "java/lang/IndexOutOfBoundsException" : Cond) ∈ TB := tb_of (List.mem_of_getElem? (i := 403) (by decide +kernel)) rfl
theorem w_460 : (.initialized "java/lang/IndexOutOfBoundsException" : Cond) ∈ TB := tb_of (List.mem_of_getElem? (i := 48) (by decide +kernel)) rfl
theorem w_461 : (.stringRef "MarchTests" 100 "no such cell" : Cond) ∈ NC := nc_of (List.mem_of_getElem? (i := 444) (by decide +kernel)) rfl
theorem o_102 : ∀ w ∈ Bundle.ownAtoms "MarchTests" 102 "java/lang/IndexOutOfBoundsException" exup, w ∈ TB ∨ w ∈ NC ∨ isSp w = true := by decide +kernel
theorem w_463 : (.classLink "MarchTests" 116 "java/lang/IllegalArgumentException" : Cond) ∈ TB := tb_of (List.mem_of_getElem? (i := 489) (by decide +kernel)) rfl
theorem w_464 : (.initialized "java/lang/IllegalArgumentException" : Cond) ∈ TB := tb_of (List.mem_of_getElem? (i := 50) (by decide +kernel)) rfl
theorem w_465 : (.stringRef "MarchTests" 121 "both cells are the same" : Cond) ∈ NC := nc_of (List.mem_of_getElem? (i := 505) (by decide +kernel)) rfl
theorem o_120 : ∀ w ∈ Bundle.ownAtoms "MarchTests" 120 "java/lang/IllegalArgumentException" exup, w ∈ TB ∨ w ∈ NC ∨ isSp w = true := by decide +kernel
theorem w_467 : (.stringRef "MarchTests" 118 "no such kind" : Cond) ∈ NC := nc_of (List.mem_of_getElem? (i := 498) (by decide +kernel)) rfl
theorem w_468 : (.classLink "MarchTests" 108 "java/lang/IllegalStateException" : Cond) ∈ TB := tb_of (List.mem_of_getElem? (i := 470) (by decide +kernel)) rfl
theorem w_469 : (.initialized "java/lang/IllegalStateException" : Cond) ∈ TB := tb_of (List.mem_of_getElem? (i := 49) (by decide +kernel)) rfl
theorem w_470 : (.stringRef "MarchTests" 110 "no room for one more fault" : Cond) ∈ NC := nc_of (List.mem_of_getElem? (i := 479) (by decide +kernel)) rfl
theorem o_112 : ∀ w ∈ Bundle.ownAtoms "MarchTests" 112 "java/lang/IllegalStateException" exup, w ∈ TB ∨ w ∈ NC ∨ isSp w = true := by decide +kernel
theorem w_472 : (.stringRef "MarchTests" 132 "no such order" : Cond) ∈ NC := nc_of (List.mem_of_getElem? (i := 523) (by decide +kernel)) rfl
theorem w_473 : (.stringRef "MarchTests" 130 "no march was read" : Cond) ∈ NC := nc_of (List.mem_of_getElem? (i := 522) (by decide +kernel)) rfl
theorem w_474 : (.stringRef "MarchTests" 148 "no such part" : Cond) ∈ NC := nc_of (List.mem_of_getElem? (i := 613) (by decide +kernel)) rfl
theorem w_475 : (.stringRef "MarchTests" 153 "no such row" : Cond) ∈ NC := nc_of (List.mem_of_getElem? (i := 621) (by decide +kernel)) rfl
theorem w_476 : (.stringRef "MarchTests" 162 "no such word" : Cond) ∈ NC := nc_of (List.mem_of_getElem? (i := 633) (by decide +kernel)) rfl
theorem w_477 : (.stringRef "MarchTests" 168 "no such failing operation or what" : Cond) ∈ NC := nc_of (List.mem_of_getElem? (i := 645) (by decide +kernel)) rfl
theorem w_478 : (.stringRef "MarchTests" 176 "rows or columns are too many or below 0" : Cond) ∈ NC := nc_of (List.mem_of_getElem? (i := 660) (by decide +kernel)) rfl
theorem w_479 : (.stringRef "MarchTests" 178 "steps are below 0" : Cond) ∈ NC := nc_of (List.mem_of_getElem? (i := 661) (by decide +kernel)) rfl
theorem w_480 : (.stringRef "MarchTests" 190 "no such spare" : Cond) ∈ NC := nc_of (List.mem_of_getElem? (i := 704) (by decide +kernel)) rfl
theorem w_481 : (.stringRef "MarchTests" 184 "no such what" : Cond) ∈ NC := nc_of (List.mem_of_getElem? (i := 695) (by decide +kernel)) rfl
theorem w_482 : (.stringRef "MarchTests" 199 "no such fuse" : Cond) ∈ NC := nc_of (List.mem_of_getElem? (i := 712) (by decide +kernel)) rfl
theorem w_483 : (.stringRef "MarchTests" 204 "ports are not 1 or 2" : Cond) ∈ NC := nc_of (List.mem_of_getElem? (i := 721) (by decide +kernel)) rfl
theorem w_484 : (.stringRef "MarchTests" 209 "no such ground" : Cond) ∈ NC := nc_of (List.mem_of_getElem? (i := 729) (by decide +kernel)) rfl
