theorem w_0 : (.constant "java/lang/Integer" 265 1431655765 : Cond) ∈ TB := tb_of (List.mem_of_getElem? (i := 678) (by decide +kernel)) rfl
theorem w_1 : (.constant "java/lang/Integer" 266 858993459 : Cond) ∈ TB := tb_of (List.mem_of_getElem? (i := 679) (by decide +kernel)) rfl
theorem w_2 : (.constant "java/lang/Integer" 267 252645135 : Cond) ∈ TB := tb_of (List.mem_of_getElem? (i := 680) (by decide +kernel)) rfl
theorem w_3 : (.methodLink "MarchTests$Tape" 3 objectInit : Cond) ∈ TB := tb_of (List.mem_of_getElem? (i := 71) (by decide +kernel)) rfl
theorem w_4 : (.instanceMethod objectInit : Cond) ∈ TB := tb_of (List.mem_of_getElem? (i := 58) (by decide +kernel)) rfl
theorem w_5 : (.code objectInit ⟨#[0xb1]⟩ 1 none : Cond) ∈ TB := tb_of (List.mem_of_getElem? (i := 59) (by decide +kernel)) rfl
theorem w_6 : (.arrayClass .byte : Cond) ∈ TB := tb_of (List.mem_of_getElem? (i := 81) (by decide +kernel)) rfl
theorem w_7 : (.fieldLink "MarchTests$Tape" 9 "MarchTests$Tape" "units" "[B" : Cond) ∈ TB := tb_of (List.mem_of_getElem? (i := 72) (by decide +kernel)) rfl
theorem w_8 : (.methodLink "MarchTests$TextReader" 3 objectInit : Cond) ∈ TB := tb_of (List.mem_of_getElem? (i := 87) (by decide +kernel)) rfl
theorem w_9 : (.methodLink "MarchTests$FaultList" 3 objectInit : Cond) ∈ TB := tb_of (List.mem_of_getElem? (i := 103) (by decide +kernel)) rfl
theorem w_10 : (.arrayClass .int : Cond) ∈ TB := tb_of (List.mem_of_getElem? (i := 137) (by decide +kernel)) rfl
theorem w_11 : (.fieldLink "MarchTests$FaultList" 9 "MarchTests$FaultList" "kinds" "[I" : Cond) ∈ TB := tb_of (List.mem_of_getElem? (i := 105) (by decide +kernel)) rfl
theorem w_12 : (.fieldLink "MarchTests$FaultList" 15 "MarchTests$FaultList" "victimWords" "[I" : Cond) ∈ TB := tb_of (List.mem_of_getElem? (i := 107) (by decide +kernel)) rfl
theorem w_13 : (.fieldLink "MarchTests$FaultList" 18 "MarchTests$FaultList" "victimMasks" "[I" : Cond) ∈ TB := tb_of (List.mem_of_getElem? (i := 109) (by decide +kernel)) rfl
theorem w_14 : (.fieldLink "MarchTests$FaultList" 21 "MarchTests$FaultList" "otherWords" "[I" : Cond) ∈ TB := tb_of (List.mem_of_getElem? (i := 111) (by decide +kernel)) rfl
theorem w_15 : (.fieldLink "MarchTests$FaultList" 24 "MarchTests$FaultList" "otherMasks" "[I" : Cond) ∈ TB := tb_of (List.mem_of_getElem? (i := 113) (by decide +kernel)) rfl
theorem w_16 : (.methodLink "MarchTests$FaultList" 27 Lib.Math.max.name : Cond) ∈ TB := tb_of (List.mem_of_getElem? (i := 104) (by decide +kernel)) rfl
theorem w_17 : (.static Lib.Math.max.name : Cond) ∈ TB := tb_of (List.mem_of_getElem? (i := 64) (by decide +kernel)) rfl
theorem w_18 : (.initialized "java/lang/Math" : Cond) ∈ TB := tb_of (List.mem_of_getElem? (i := 35) (by decide +kernel)) rfl
theorem w_19 : (.code Lib.Math.max.name Lib.Math.max.code 2 (some .int) : Cond) ∈ TB := tb_of (List.mem_of_getElem? (i := 65) (by decide +kernel)) rfl
theorem w_20 : (.fieldLink "MarchTests$FaultList" 33 "MarchTests$FaultList" "bits" "I" : Cond) ∈ TB := tb_of (List.mem_of_getElem? (i := 119) (by decide +kernel)) rfl
theorem w_21 : (.methodLink "MarchTests$Memory" 3 objectInit : Cond) ∈ TB := tb_of (List.mem_of_getElem? (i := 150) (by decide +kernel)) rfl
theorem w_22 : (.methodLink "MarchTests$Memory" 9 Lib.Math.max.name : Cond) ∈ TB := tb_of (List.mem_of_getElem? (i := 151) (by decide +kernel)) rfl
theorem w_23 : (.fieldLink "MarchTests$Memory" 15 "MarchTests$Memory" "words" "I" : Cond) ∈ TB := tb_of (List.mem_of_getElem? (i := 154) (by decide +kernel)) rfl
theorem w_24 : (.fieldLink "MarchTests$Memory" 21 "MarchTests$Memory" "bits" "I" : Cond) ∈ TB := tb_of (List.mem_of_getElem? (i := 155) (by decide +kernel)) rfl
theorem w_25 : (.fieldLink "MarchTests$Memory" 24 "MarchTests$Memory" "held" "[I" : Cond) ∈ TB := tb_of (List.mem_of_getElem? (i := 156) (by decide +kernel)) rfl
theorem w_26 : (.classLink "MarchTests$Memory" 28 "MarchTests$FaultList" : Cond) ∈ TB := tb_of (List.mem_of_getElem? (i := 152) (by decide +kernel)) rfl
theorem w_27 : (.instantiable "MarchTests$FaultList" 8 : Cond) ∈ TB := tb_of (List.mem_of_getElem? (i := 99) (by decide +kernel)) rfl
theorem w_28 : (.initialized "MarchTests$FaultList" : Cond) ∈ TB := tb_of (List.mem_of_getElem? (i := 38) (by decide +kernel)) rfl
theorem w_29 : (.methodLink "MarchTests$Memory" 30 y_FaultList_init : Cond) ∈ TB := tb_of (List.mem_of_getElem? (i := 153) (by decide +kernel)) rfl
theorem w_30 : (.instanceMethod y_FaultList_init : Cond) ∈ TB := tb_of (List.mem_of_getElem? (i := 101) (by decide +kernel)) rfl
theorem w_31 : (.code y_FaultList_init b_FaultList_init 2 none : Cond) ∈ TB := tb_of (List.mem_of_getElem? (i := 102) (by decide +kernel)) rfl
theorem w_32 : (.fieldLink "MarchTests$Memory" 33 "MarchTests$Memory" "faults" "LMarchTests$FaultList;" : Cond) ∈ TB := tb_of (List.mem_of_getElem? (i := 157) (by decide +kernel)) rfl
theorem w_33 : (.methodLink "MarchTests$Failures" 3 objectInit : Cond) ∈ TB := tb_of (List.mem_of_getElem? (i := 175) (by decide +kernel)) rfl
theorem w_34 : (.fieldLink "MarchTests$Failures" 11 "MarchTests$Failures" "parts" "[I" : Cond) ∈ TB := tb_of (List.mem_of_getElem? (i := 176) (by decide +kernel)) rfl
theorem w_35 : (.methodLink "MarchTests$Tester" 3 objectInit : Cond) ∈ TB := tb_of (List.mem_of_getElem? (i := 143) (by decide +kernel)) rfl
theorem w_36 : (.methodLink "MarchTests$Tester" 9 Lib.Math.max.name : Cond) ∈ TB := tb_of (List.mem_of_getElem? (i := 144) (by decide +kernel)) rfl
theorem w_37 : (.fieldLink "MarchTests$Tester" 15 "MarchTests$Tester" "words" "I" : Cond) ∈ TB := tb_of (List.mem_of_getElem? (i := 191) (by decide +kernel)) rfl
theorem w_38 : (.fieldLink "MarchTests$Tester" 21 "MarchTests$Tester" "allBits" "I" : Cond) ∈ TB := tb_of (List.mem_of_getElem? (i := 192) (by decide +kernel)) rfl
theorem w_39 : (.classLink "MarchTests$Tester" 24 "MarchTests$Memory" : Cond) ∈ TB := tb_of (List.mem_of_getElem? (i := 145) (by decide +kernel)) rfl
theorem w_40 : (.instantiable "MarchTests$Memory" 5 : Cond) ∈ TB := tb_of (List.mem_of_getElem? (i := 146) (by decide +kernel)) rfl
theorem w_41 : (.initialized "MarchTests$Memory" : Cond) ∈ TB := tb_of (List.mem_of_getElem? (i := 40) (by decide +kernel)) rfl
theorem w_42 : (.methodLink "MarchTests$Tester" 26 y_Memory_init : Cond) ∈ TB := tb_of (List.mem_of_getElem? (i := 147) (by decide +kernel)) rfl
theorem w_43 : (.instanceMethod y_Memory_init : Cond) ∈ TB := tb_of (List.mem_of_getElem? (i := 148) (by decide +kernel)) rfl
theorem w_44 : (.code y_Memory_init b_Memory_init 3 none : Cond) ∈ TB := tb_of (List.mem_of_getElem? (i := 149) (by decide +kernel)) rfl
theorem w_45 : (.fieldLink "MarchTests$Tester" 29 "MarchTests$Tester" "memory" "LMarchTests$Memory;" : Cond) ∈ TB := tb_of (List.mem_of_getElem? (i := 193) (by decide +kernel)) rfl
theorem w_46 : (.classLink "MarchTests$Tester" 33 "MarchTests$Failures" : Cond) ∈ TB := tb_of (List.mem_of_getElem? (i := 170) (by decide +kernel)) rfl
theorem w_47 : (.instantiable "MarchTests$Failures" 2 : Cond) ∈ TB := tb_of (List.mem_of_getElem? (i := 171) (by decide +kernel)) rfl
theorem w_48 : (.initialized "MarchTests$Failures" : Cond) ∈ TB := tb_of (List.mem_of_getElem? (i := 41) (by decide +kernel)) rfl
theorem w_49 : (.methodLinkNest "MarchTests$Tester" 35 y_Failures_init "MarchTests" : Cond) ∈ NB := nb_of (List.mem_of_getElem? (i := 172) (by decide +kernel)) rfl
theorem w_50 : (.instanceMethod y_Failures_init : Cond) ∈ TB := tb_of (List.mem_of_getElem? (i := 173) (by decide +kernel)) rfl
theorem w_51 : (.code y_Failures_init b_Failures_init 1 none : Cond) ∈ TB := tb_of (List.mem_of_getElem? (i := 174) (by decide +kernel)) rfl
theorem w_52 : (.fieldLink "MarchTests$Tester" 36 "MarchTests$Tester" "failures" "LMarchTests$Failures;" : Cond) ∈ TB := tb_of (List.mem_of_getElem? (i := 185) (by decide +kernel)) rfl
theorem w_53 : (.fieldLink "MarchTests$Tester" 40 "MarchTests$Tester" "scrambled" "[I" : Cond) ∈ TB := tb_of (List.mem_of_getElem? (i := 194) (by decide +kernel)) rfl
theorem w_54 : (.fieldLink "MarchTests$Tester" 44 "MarchTests$Tester" "wordAt" "[I" : Cond) ∈ TB := tb_of (List.mem_of_getElem? (i := 195) (by decide +kernel)) rfl
theorem w_55 : (.fieldLink "MarchTests$Tester" 47 "MarchTests$Tester" "zeroOf" "[I" : Cond) ∈ TB := tb_of (List.mem_of_getElem? (i := 196) (by decide +kernel)) rfl
theorem w_56 : (.fieldLink "MarchTests$Tester" 50 "MarchTests$Tester" "ports" "I" : Cond) ∈ TB := tb_of (List.mem_of_getElem? (i := 187) (by decide +kernel)) rfl
theorem w_57 : (.methodLink "MarchTests$RepairPlan" 3 objectInit : Cond) ∈ TB := tb_of (List.mem_of_getElem? (i := 221) (by decide +kernel)) rfl
theorem w_58 : (.methodLink "MarchTests$RepairPlan" 9 Lib.Math.max.name : Cond) ∈ TB := tb_of (List.mem_of_getElem? (i := 222) (by decide +kernel)) rfl
theorem w_59 : (.fieldLink "MarchTests$RepairPlan" 15 "MarchTests$RepairPlan" "words" "I" : Cond) ∈ TB := tb_of (List.mem_of_getElem? (i := 227) (by decide +kernel)) rfl
theorem w_60 : (.fieldLink "MarchTests$RepairPlan" 21 "MarchTests$RepairPlan" "fuses" "I" : Cond) ∈ TB := tb_of (List.mem_of_getElem? (i := 223) (by decide +kernel)) rfl
theorem w_61 : (.fieldLink "MarchTests$RepairPlan" 24 "MarchTests$RepairPlan" "columnSets" "I" : Cond) ∈ TB := tb_of (List.mem_of_getElem? (i := 228) (by decide +kernel)) rfl
theorem w_62 : (.fieldLink "MarchTests$RepairPlan" 27 "MarchTests$RepairPlan" "wrongBits" "[I" : Cond) ∈ TB := tb_of (List.mem_of_getElem? (i := 229) (by decide +kernel)) rfl
theorem w_63 : (.methodLink "MarchTests$March" 3 objectInit : Cond) ∈ TB := tb_of (List.mem_of_getElem? (i := 255) (by decide +kernel)) rfl
theorem w_64 : (.fieldLink "MarchTests$March" 9 "MarchTests$March" "rows" "[I" : Cond) ∈ TB := tb_of (List.mem_of_getElem? (i := 256) (by decide +kernel)) rfl
theorem w_65 : (.fieldLink "MarchTests$March" 15 "MarchTests$March" "firstRows" "[I" : Cond) ∈ TB := tb_of (List.mem_of_getElem? (i := 259) (by decide +kernel)) rfl
theorem w_66 : (.methodLink "MarchTests" 1 objectInit : Cond) ∈ TB := tb_of (List.mem_of_getElem? (i := 57) (by decide +kernel)) rfl
theorem w_67 : (.methodLink "MarchTests" 9 Lib.Math.min.name : Cond) ∈ TB := tb_of (List.mem_of_getElem? (i := 60) (by decide +kernel)) rfl
theorem w_68 : (.static Lib.Math.min.name : Cond) ∈ TB := tb_of (List.mem_of_getElem? (i := 61) (by decide +kernel)) rfl
theorem w_69 : (.code Lib.Math.min.name Lib.Math.min.code 2 (some .int) : Cond) ∈ TB := tb_of (List.mem_of_getElem? (i := 62) (by decide +kernel)) rfl
theorem w_70 : (.methodLink "MarchTests" 15 Lib.Math.max.name : Cond) ∈ TB := tb_of (List.mem_of_getElem? (i := 63) (by decide +kernel)) rfl
theorem w_71 : (.fieldLink "MarchTests" 18 "MarchTests" "words" "I" : Cond) ∈ TB := tb_of (List.mem_of_getElem? (i := 275) (by decide +kernel)) rfl
theorem w_72 : (.fieldLink "MarchTests" 22 "MarchTests" "cells" "I" : Cond) ∈ TB := tb_of (List.mem_of_getElem? (i := 276) (by decide +kernel)) rfl
theorem w_73 : (.classLink "MarchTests" 25 "MarchTests$Tape" : Cond) ∈ TB := tb_of (List.mem_of_getElem? (i := 66) (by decide +kernel)) rfl
theorem w_74 : (.instantiable "MarchTests$Tape" 2 : Cond) ∈ TB := tb_of (List.mem_of_getElem? (i := 67) (by decide +kernel)) rfl
theorem w_75 : (.initialized "MarchTests$Tape" : Cond) ∈ TB := tb_of (List.mem_of_getElem? (i := 36) (by decide +kernel)) rfl
theorem w_76 : (.methodLinkNest "MarchTests" 27 y_Tape_init "MarchTests" : Cond) ∈ NB := nb_of (List.mem_of_getElem? (i := 68) (by decide +kernel)) rfl
theorem w_77 : (.instanceMethod y_Tape_init : Cond) ∈ TB := tb_of (List.mem_of_getElem? (i := 69) (by decide +kernel)) rfl
theorem w_78 : (.code y_Tape_init b_Tape_init 1 none : Cond) ∈ TB := tb_of (List.mem_of_getElem? (i := 70) (by decide +kernel)) rfl
theorem w_79 : (.fieldLink "MarchTests" 28 "MarchTests" "tape" "LMarchTests$Tape;" : Cond) ∈ TB := tb_of (List.mem_of_getElem? (i := 277) (by decide +kernel)) rfl
theorem w_80 : (.classLink "MarchTests" 32 "MarchTests$TextReader" : Cond) ∈ TB := tb_of (List.mem_of_getElem? (i := 82) (by decide +kernel)) rfl
theorem w_81 : (.instantiable "MarchTests$TextReader" 3 : Cond) ∈ TB := tb_of (List.mem_of_getElem? (i := 83) (by decide +kernel)) rfl
theorem w_82 : (.initialized "MarchTests$TextReader" : Cond) ∈ TB := tb_of (List.mem_of_getElem? (i := 37) (by decide +kernel)) rfl
theorem w_83 : (.methodLinkNest "MarchTests" 34 y_TextReader_init "MarchTests" : Cond) ∈ NB := nb_of (List.mem_of_getElem? (i := 84) (by decide +kernel)) rfl
theorem w_84 : (.instanceMethod y_TextReader_init : Cond) ∈ TB := tb_of (List.mem_of_getElem? (i := 85) (by decide +kernel)) rfl
theorem w_85 : (.code y_TextReader_init b_TextReader_init 1 none : Cond) ∈ TB := tb_of (List.mem_of_getElem? (i := 86) (by decide +kernel)) rfl
theorem w_86 : (.fieldLink "MarchTests" 35 "MarchTests" "reader" "LMarchTests$TextReader;" : Cond) ∈ TB := tb_of (List.mem_of_getElem? (i := 278) (by decide +kernel)) rfl
theorem w_87 : (.classLink "MarchTests" 39 "MarchTests$FaultList" : Cond) ∈ TB := tb_of (List.mem_of_getElem? (i := 98) (by decide +kernel)) rfl
theorem w_88 : (.methodLink "MarchTests" 41 y_FaultList_init : Cond) ∈ TB := tb_of (List.mem_of_getElem? (i := 100) (by decide +kernel)) rfl
theorem w_89 : (.fieldLink "MarchTests" 44 "MarchTests" "faults" "LMarchTests$FaultList;" : Cond) ∈ TB := tb_of (List.mem_of_getElem? (i := 279) (by decide +kernel)) rfl
theorem w_90 : (.fieldLink "MarchTests" 48 "MarchTests" "single" "LMarchTests$FaultList;" : Cond) ∈ TB := tb_of (List.mem_of_getElem? (i := 280) (by decide +kernel)) rfl
theorem w_91 : (.classLink "MarchTests" 51 "MarchTests$Tester" : Cond) ∈ TB := tb_of (List.mem_of_getElem? (i := 138) (by decide +kernel)) rfl
theorem w_92 : (.instantiable "MarchTests$Tester" 9 : Cond) ∈ TB := tb_of (List.mem_of_getElem? (i := 139) (by decide +kernel)) rfl
theorem w_93 : (.initialized "MarchTests$Tester" : Cond) ∈ TB := tb_of (List.mem_of_getElem? (i := 39) (by decide +kernel)) rfl
theorem w_94 : (.methodLink "MarchTests" 53 y_Tester_init : Cond) ∈ TB := tb_of (List.mem_of_getElem? (i := 140) (by decide +kernel)) rfl
theorem w_95 : (.instanceMethod y_Tester_init : Cond) ∈ TB := tb_of (List.mem_of_getElem? (i := 141) (by decide +kernel)) rfl
theorem w_96 : (.code y_Tester_init b_Tester_init 4 none : Cond) ∈ TB := tb_of (List.mem_of_getElem? (i := 142) (by decide +kernel)) rfl
theorem w_97 : (.fieldLink "MarchTests" 56 "MarchTests" "tester" "LMarchTests$Tester;" : Cond) ∈ TB := tb_of (List.mem_of_getElem? (i := 281) (by decide +kernel)) rfl
theorem w_98 : (.classLink "MarchTests" 60 "MarchTests$RepairPlan" : Cond) ∈ TB := tb_of (List.mem_of_getElem? (i := 216) (by decide +kernel)) rfl
theorem w_99 : (.instantiable "MarchTests$RepairPlan" 8 : Cond) ∈ TB := tb_of (List.mem_of_getElem? (i := 217) (by decide +kernel)) rfl
theorem w_100 : (.initialized "MarchTests$RepairPlan" : Cond) ∈ TB := tb_of (List.mem_of_getElem? (i := 42) (by decide +kernel)) rfl
theorem w_101 : (.methodLink "MarchTests" 62 y_RepairPlan_init : Cond) ∈ TB := tb_of (List.mem_of_getElem? (i := 218) (by decide +kernel)) rfl
theorem w_102 : (.instanceMethod y_RepairPlan_init : Cond) ∈ TB := tb_of (List.mem_of_getElem? (i := 219) (by decide +kernel)) rfl
theorem w_103 : (.code y_RepairPlan_init b_RepairPlan_init 3 none : Cond) ∈ TB := tb_of (List.mem_of_getElem? (i := 220) (by decide +kernel)) rfl
theorem w_104 : (.fieldLink "MarchTests" 63 "MarchTests" "plan" "LMarchTests$RepairPlan;" : Cond) ∈ TB := tb_of (List.mem_of_getElem? (i := 282) (by decide +kernel)) rfl
theorem w_105 : (.classLink "MarchTests" 67 "MarchTests$March" : Cond) ∈ TB := tb_of (List.mem_of_getElem? (i := 250) (by decide +kernel)) rfl
theorem w_106 : (.instantiable "MarchTests$March" 4 : Cond) ∈ TB := tb_of (List.mem_of_getElem? (i := 251) (by decide +kernel)) rfl
theorem w_107 : (.initialized "MarchTests$March" : Cond) ∈ TB := tb_of (List.mem_of_getElem? (i := 43) (by decide +kernel)) rfl
theorem w_108 : (.methodLinkNest "MarchTests" 69 y_March_init "MarchTests" : Cond) ∈ NB := nb_of (List.mem_of_getElem? (i := 252) (by decide +kernel)) rfl
theorem w_109 : (.instanceMethod y_March_init : Cond) ∈ TB := tb_of (List.mem_of_getElem? (i := 253) (by decide +kernel)) rfl
theorem w_110 : (.code y_March_init b_March_init 1 none : Cond) ∈ TB := tb_of (List.mem_of_getElem? (i := 254) (by decide +kernel)) rfl
theorem w_111 : (.fieldLink "MarchTests" 70 "MarchTests" "march" "LMarchTests$March;" : Cond) ∈ TB := tb_of (List.mem_of_getElem? (i := 283) (by decide +kernel)) rfl
theorem w_112 : (.fieldLink "MarchTests" 74 "MarchTests" "draft" "LMarchTests$March;" : Cond) ∈ TB := tb_of (List.mem_of_getElem? (i := 284) (by decide +kernel)) rfl
theorem w_113 : (.fieldLink "MarchTests$Tape" 15 "MarchTests$Tape" "length" "I" : Cond) ∈ TB := tb_of (List.mem_of_getElem? (i := 74) (by decide +kernel)) rfl
theorem w_114 : (.methodLink "MarchTests" 77 y_Tape_add : Cond) ∈ TB := tb_of (List.mem_of_getElem? (i := 310) (by decide +kernel)) rfl
theorem w_115 : (.instanceMethod y_Tape_add : Cond) ∈ TB := tb_of (List.mem_of_getElem? (i := 311) (by decide +kernel)) rfl
theorem w_116 : (.selects "MarchTests$Tape" y_Tape_add y_Tape_add : Cond) ∈ TB := tb_of (List.mem_of_getElem? (i := 312) (by decide +kernel)) rfl
theorem w_117 : (.code y_Tape_add b_Tape_add 2 (some .boolean) : Cond) ∈ TB := tb_of (List.mem_of_getElem? (i := 313) (by decide +kernel)) rfl
theorem w_118 : (.fieldLink "MarchTests$March" 18 "MarchTests$March" "elements" "I" : Cond) ∈ TB := tb_of (List.mem_of_getElem? (i := 261) (by decide +kernel)) rfl
theorem w_119 : (.fieldLink "MarchTests$March" 22 "MarchTests$March" "rowCount" "I" : Cond) ∈ TB := tb_of (List.mem_of_getElem? (i := 264) (by decide +kernel)) rfl
theorem w_120 : (.methodLink "MarchTests$March" 25 y_March_hasRoomForElement : Cond) ∈ TB := tb_of (List.mem_of_getElem? (i := 345) (by decide +kernel)) rfl
theorem w_121 : (.instanceMethod y_March_hasRoomForElement : Cond) ∈ TB := tb_of (List.mem_of_getElem? (i := 338) (by decide +kernel)) rfl
theorem w_122 : (.selects "MarchTests$March" y_March_hasRoomForElement y_March_hasRoomForElement : Cond) ∈ TB := tb_of (List.mem_of_getElem? (i := 339) (by decide +kernel)) rfl
theorem w_123 : (.code y_March_hasRoomForElement b_March_hasRoomForElement 1 (some .boolean) : Cond) ∈ TB := tb_of (List.mem_of_getElem? (i := 340) (by decide +kernel)) rfl
theorem w_124 : (.methodLink "MarchTests$March" 29 y_March_hasRoomForOperation : Cond) ∈ TB := tb_of (List.mem_of_getElem? (i := 350) (by decide +kernel)) rfl
theorem w_125 : (.instanceMethod y_March_hasRoomForOperation : Cond) ∈ TB := tb_of (List.mem_of_getElem? (i := 351) (by decide +kernel)) rfl
theorem w_126 : (.selects "MarchTests$March" y_March_hasRoomForOperation y_March_hasRoomForOperation : Cond) ∈ TB := tb_of (List.mem_of_getElem? (i := 352) (by decide +kernel)) rfl
theorem w_127 : (.code y_March_hasRoomForOperation b_March_hasRoomForOperation 1 (some .boolean) : Cond) ∈ TB := tb_of (List.mem_of_getElem? (i := 353) (by decide +kernel)) rfl
theorem w_128 : (.methodLink "MarchTests$TextReader" 49 y_March_hasRoomForElement : Cond) ∈ TB := tb_of (List.mem_of_getElem? (i := 337) (by decide +kernel)) rfl
theorem w_129 : (.methodLink "MarchTests$TextReader" 53 y_March_beginElement : Cond) ∈ TB := tb_of (List.mem_of_getElem? (i := 341) (by decide +kernel)) rfl
theorem w_130 : (.instanceMethod y_March_beginElement : Cond) ∈ TB := tb_of (List.mem_of_getElem? (i := 342) (by decide +kernel)) rfl
theorem w_131 : (.selects "MarchTests$March" y_March_beginElement y_March_beginElement : Cond) ∈ TB := tb_of (List.mem_of_getElem? (i := 343) (by decide +kernel)) rfl
theorem w_132 : (.code y_March_beginElement b_March_beginElement 1 none : Cond) ∈ TB := tb_of (List.mem_of_getElem? (i := 344) (by decide +kernel)) rfl
theorem w_133 : (.fieldLink "MarchTests$TextReader" 63 "MarchTests$TextReader" "direction" "I" : Cond) ∈ TB := tb_of (List.mem_of_getElem? (i := 89) (by decide +kernel)) rfl
theorem w_134 : (.fieldLink "MarchTests$TextReader" 16 "MarchTests$TextReader" "state" "I" : Cond) ∈ TB := tb_of (List.mem_of_getElem? (i := 88) (by decide +kernel)) rfl
theorem w_135 : (.methodLink "MarchTests$TextReader" 56 y_March_addRow : Cond) ∈ TB := tb_of (List.mem_of_getElem? (i := 346) (by decide +kernel)) rfl
theorem w_136 : (.instanceMethod y_March_addRow : Cond) ∈ TB := tb_of (List.mem_of_getElem? (i := 347) (by decide +kernel)) rfl
theorem w_137 : (.selects "MarchTests$March" y_March_addRow y_March_addRow : Cond) ∈ TB := tb_of (List.mem_of_getElem? (i := 348) (by decide +kernel)) rfl
theorem w_138 : (.code y_March_addRow b_March_addRow 2 none : Cond) ∈ TB := tb_of (List.mem_of_getElem? (i := 349) (by decide +kernel)) rfl
theorem w_139 : (.methodLink "MarchTests$TextReader" 60 y_March_endElement : Cond) ∈ TB := tb_of (List.mem_of_getElem? (i := 354) (by decide +kernel)) rfl
theorem w_140 : (.instanceMethod y_March_endElement : Cond) ∈ TB := tb_of (List.mem_of_getElem? (i := 355) (by decide +kernel)) rfl
theorem w_141 : (.selects "MarchTests$March" y_March_endElement y_March_endElement : Cond) ∈ TB := tb_of (List.mem_of_getElem? (i := 356) (by decide +kernel)) rfl
theorem w_142 : (.code y_March_endElement b_March_endElement 1 none : Cond) ∈ TB := tb_of (List.mem_of_getElem? (i := 357) (by decide +kernel)) rfl
theorem w_143 : (.methodLink "MarchTests$TextReader" 66 y_March_hasRoomForOperation : Cond) ∈ TB := tb_of (List.mem_of_getElem? (i := 362) (by decide +kernel)) rfl
theorem w_144 : (.fieldLink "MarchTests$TextReader" 69 "MarchTests$TextReader" "operation" "I" : Cond) ∈ TB := tb_of (List.mem_of_getElem? (i := 90) (by decide +kernel)) rfl
theorem w_145 : (.methodLink "MarchTests$TextReader" 37 y_TextReader_takesElement : Cond) ∈ TB := tb_of (List.mem_of_getElem? (i := 333) (by decide +kernel)) rfl
theorem w_146 : (.instanceMethod y_TextReader_takesElement : Cond) ∈ TB := tb_of (List.mem_of_getElem? (i := 335) (by decide +kernel)) rfl
theorem w_147 : (.selects "MarchTests$TextReader" y_TextReader_takesElement y_TextReader_takesElement : Cond) ∈ TB := tb_of (List.mem_of_getElem? (i := 1) (by decide +kernel)) rfl
theorem w_148 : (.code y_TextReader_takesElement b_TextReader_takesElement 3 (some .boolean) : Cond) ∈ TB := tb_of (List.mem_of_getElem? (i := 336) (by decide +kernel)) rfl
theorem w_149 : (.methodLink "MarchTests$TextReader" 40 y_TextReader_takesOperation : Cond) ∈ TB := tb_of (List.mem_of_getElem? (i := 358) (by decide +kernel)) rfl
theorem w_150 : (.instanceMethod y_TextReader_takesOperation : Cond) ∈ TB := tb_of (List.mem_of_getElem? (i := 360) (by decide +kernel)) rfl
theorem w_151 : (.selects "MarchTests$TextReader" y_TextReader_takesOperation y_TextReader_takesOperation : Cond) ∈ TB := tb_of (List.mem_of_getElem? (i := 2) (by decide +kernel)) rfl
theorem w_152 : (.code y_TextReader_takesOperation b_TextReader_takesOperation 3 (some .boolean) : Cond) ∈ TB := tb_of (List.mem_of_getElem? (i := 361) (by decide +kernel)) rfl
theorem w_153 : (.methodLink "MarchTests$TextReader" 43 y_TextReader_takesValue : Cond) ∈ TB := tb_of (List.mem_of_getElem? (i := 363) (by decide +kernel)) rfl
theorem w_154 : (.instanceMethod y_TextReader_takesValue : Cond) ∈ TB := tb_of (List.mem_of_getElem? (i := 365) (by decide +kernel)) rfl
theorem w_155 : (.selects "MarchTests$TextReader" y_TextReader_takesValue y_TextReader_takesValue : Cond) ∈ TB := tb_of (List.mem_of_getElem? (i := 3) (by decide +kernel)) rfl
theorem w_156 : (.code y_TextReader_takesValue b_TextReader_takesValue 4 (some .boolean) : Cond) ∈ TB := tb_of (List.mem_of_getElem? (i := 366) (by decide +kernel)) rfl
theorem w_157 : (.methodLink "MarchTests$TextReader" 46 y_TextReader_takesBehindOperation : Cond) ∈ TB := tb_of (List.mem_of_getElem? (i := 367) (by decide +kernel)) rfl
theorem w_158 : (.instanceMethod y_TextReader_takesBehindOperation : Cond) ∈ TB := tb_of (List.mem_of_getElem? (i := 369) (by decide +kernel)) rfl
theorem w_159 : (.selects "MarchTests$TextReader" y_TextReader_takesBehindOperation y_TextReader_takesBehindOperation : Cond) ∈ TB := tb_of (List.mem_of_getElem? (i := 4) (by decide +kernel)) rfl
theorem w_160 : (.code y_TextReader_takesBehindOperation b_TextReader_takesBehindOperation 3 (some .boolean) : Cond) ∈ TB := tb_of (List.mem_of_getElem? (i := 370) (by decide +kernel)) rfl
theorem w_161 : (.methodLink "MarchTests$TextReader" 9 y_March_clear : Cond) ∈ TB := tb_of (List.mem_of_getElem? (i := 322) (by decide +kernel)) rfl
theorem w_162 : (.instanceMethod y_March_clear : Cond) ∈ TB := tb_of (List.mem_of_getElem? (i := 323) (by decide +kernel)) rfl
theorem w_163 : (.selects "MarchTests$March" y_March_clear y_March_clear : Cond) ∈ TB := tb_of (List.mem_of_getElem? (i := 324) (by decide +kernel)) rfl
theorem w_164 : (.code y_March_clear b_March_clear 1 none : Cond) ∈ TB := tb_of (List.mem_of_getElem? (i := 325) (by decide +kernel)) rfl
theorem w_165 : (.fieldLink "MarchTests$TextReader" 20 "MarchTests$Tape" "length" "I" : Cond) ∈ TB := tb_of (List.mem_of_getElem? (i := 75) (by decide +kernel)) rfl
theorem w_166 : (.fieldLink "MarchTests$TextReader" 25 "MarchTests$Tape" "units" "[B" : Cond) ∈ TB := tb_of (List.mem_of_getElem? (i := 73) (by decide +kernel)) rfl
theorem w_167 : (.methodLink "MarchTests$TextReader" 29 y_TextReader_isBlank : Cond) ∈ TB := tb_of (List.mem_of_getElem? (i := 326) (by decide +kernel)) rfl
theorem w_168 : (.static y_TextReader_isBlank : Cond) ∈ TB := tb_of (List.mem_of_getElem? (i := 327) (by decide +kernel)) rfl
theorem w_169 : (.code y_TextReader_isBlank b_TextReader_isBlank 1 (some .boolean) : Cond) ∈ TB := tb_of (List.mem_of_getElem? (i := 328) (by decide +kernel)) rfl
theorem w_170 : (.methodLink "MarchTests$TextReader" 33 y_TextReader_takes : Cond) ∈ TB := tb_of (List.mem_of_getElem? (i := 329) (by decide +kernel)) rfl
theorem w_171 : (.instanceMethod y_TextReader_takes : Cond) ∈ TB := tb_of (List.mem_of_getElem? (i := 331) (by decide +kernel)) rfl
theorem w_172 : (.selects "MarchTests$TextReader" y_TextReader_takes y_TextReader_takes : Cond) ∈ TB := tb_of (List.mem_of_getElem? (i := 0) (by decide +kernel)) rfl
theorem w_173 : (.code y_TextReader_takes b_TextReader_takes 3 (some .boolean) : Cond) ∈ TB := tb_of (List.mem_of_getElem? (i := 332) (by decide +kernel)) rfl
theorem w_174 : (.methodLink "MarchTests" 81 y_TextReader_placeOfFault : Cond) ∈ TB := tb_of (List.mem_of_getElem? (i := 318) (by decide +kernel)) rfl
theorem w_175 : (.instanceMethod y_TextReader_placeOfFault : Cond) ∈ TB := tb_of (List.mem_of_getElem? (i := 319) (by decide +kernel)) rfl
theorem w_176 : (.selects "MarchTests$TextReader" y_TextReader_placeOfFault y_TextReader_placeOfFault : Cond) ∈ TB := tb_of (List.mem_of_getElem? (i := 320) (by decide +kernel)) rfl
theorem w_177 : (.code y_TextReader_placeOfFault b_TextReader_placeOfFault 5 (some .int) : Cond) ∈ TB := tb_of (List.mem_of_getElem? (i := 321) (by decide +kernel)) rfl
theorem w_178 : (.methodLink "MarchTests" 85 y_Tape_clear : Cond) ∈ TB := tb_of (List.mem_of_getElem? (i := 371) (by decide +kernel)) rfl
theorem w_179 : (.instanceMethod y_Tape_clear : Cond) ∈ TB := tb_of (List.mem_of_getElem? (i := 372) (by decide +kernel)) rfl
theorem w_180 : (.selects "MarchTests$Tape" y_Tape_clear y_Tape_clear : Cond) ∈ TB := tb_of (List.mem_of_getElem? (i := 373) (by decide +kernel)) rfl
theorem w_181 : (.code y_Tape_clear b_Tape_clear 1 none : Cond) ∈ TB := tb_of (List.mem_of_getElem? (i := 374) (by decide +kernel)) rfl
theorem w_182 : (.fieldLink "MarchTests" 88 "MarchTests$March" "elements" "I" : Cond) ∈ TB := tb_of (List.mem_of_getElem? (i := 262) (by decide +kernel)) rfl
theorem w_183 : (.fieldLink "MarchTests$FaultList" 37 "MarchTests$FaultList" "count" "I" : Cond) ∈ TB := tb_of (List.mem_of_getElem? (i := 115) (by decide +kernel)) rfl
theorem w_184 : (.fieldLink "MarchTests$FaultList" 40 "MarchTests$FaultList" "touchedWords" "I" : Cond) ∈ TB := tb_of (List.mem_of_getElem? (i := 118) (by decide +kernel)) rfl
theorem w_185 : (.methodLinkNest "MarchTests$FaultList" 43 y_MT_isPaired "MarchTests" : Cond) ∈ NB := nb_of (List.mem_of_getElem? (i := 510) (by decide +kernel)) rfl
theorem w_186 : (.static y_MT_isPaired : Cond) ∈ TB := tb_of (List.mem_of_getElem? (i := 401) (by decide +kernel)) rfl
theorem w_187 : (.initialized "MarchTests" : Cond) ∈ TB := tb_of (List.mem_of_getElem? (i := 34) (by decide +kernel)) rfl
theorem w_188 : (.code y_MT_isPaired b_MT_isPaired 1 (some .boolean) : Cond) ∈ TB := tb_of (List.mem_of_getElem? (i := 402) (by decide +kernel)) rfl
theorem w_189 : (.methodLink "MarchTests" 92 y_MT_isCell : Cond) ∈ TB := tb_of (List.mem_of_getElem? (i := 396) (by decide +kernel)) rfl
theorem w_190 : (.instanceMethod y_MT_isCell : Cond) ∈ TB := tb_of (List.mem_of_getElem? (i := 398) (by decide +kernel)) rfl
theorem w_191 : (.selects "MarchTests" y_MT_isCell y_MT_isCell : Cond) ∈ TB := tb_of (List.mem_of_getElem? (i := 5) (by decide +kernel)) rfl
theorem w_192 : (.code y_MT_isCell b_MT_isCell 2 (some .boolean) : Cond) ∈ TB := tb_of (List.mem_of_getElem? (i := 399) (by decide +kernel)) rfl
theorem w_193 : (.methodLink "MarchTests" 95 y_MT_isPaired : Cond) ∈ TB := tb_of (List.mem_of_getElem? (i := 400) (by decide +kernel)) rfl
theorem w_194 : (.fieldLink "MarchTests" 105 "MarchTests$FaultList" "count" "I" : Cond) ∈ TB := tb_of (List.mem_of_getElem? (i := 116) (by decide +kernel)) rfl
theorem w_195 : (.methodLink "MarchTests" 113 y_MT_isKind : Cond) ∈ TB := tb_of (List.mem_of_getElem? (i := 486) (by decide +kernel)) rfl
theorem w_196 : (.static y_MT_isKind : Cond) ∈ TB := tb_of (List.mem_of_getElem? (i := 487) (by decide +kernel)) rfl
theorem w_197 : (.code y_MT_isKind b_MT_isKind 1 (some .boolean) : Cond) ∈ TB := tb_of (List.mem_of_getElem? (i := 488) (by decide +kernel)) rfl
theorem w_198 : (.methodLink "MarchTests" 123 y_FaultList_add : Cond) ∈ TB := tb_of (List.mem_of_getElem? (i := 506) (by decide +kernel)) rfl
theorem w_199 : (.instanceMethod y_FaultList_add : Cond) ∈ TB := tb_of (List.mem_of_getElem? (i := 507) (by decide +kernel)) rfl
theorem w_200 : (.selects "MarchTests$FaultList" y_FaultList_add y_FaultList_add : Cond) ∈ TB := tb_of (List.mem_of_getElem? (i := 508) (by decide +kernel)) rfl
theorem w_201 : (.code y_FaultList_add b_FaultList_add 6 none : Cond) ∈ TB := tb_of (List.mem_of_getElem? (i := 509) (by decide +kernel)) rfl
theorem w_202 : (.methodLink "MarchTests" 91 y_FaultList_clear : Cond) ∈ TB := tb_of (List.mem_of_getElem? (i := 392) (by decide +kernel)) rfl
theorem w_203 : (.instanceMethod y_FaultList_clear : Cond) ∈ TB := tb_of (List.mem_of_getElem? (i := 393) (by decide +kernel)) rfl
theorem w_204 : (.selects "MarchTests$FaultList" y_FaultList_clear y_FaultList_clear : Cond) ∈ TB := tb_of (List.mem_of_getElem? (i := 394) (by decide +kernel)) rfl
theorem w_205 : (.code y_FaultList_clear b_FaultList_clear 1 none : Cond) ∈ TB := tb_of (List.mem_of_getElem? (i := 395) (by decide +kernel)) rfl
theorem w_206 : (.fieldLink "MarchTests$Failures" 15 "MarchTests$Failures" "count" "I" : Cond) ∈ TB := tb_of (List.mem_of_getElem? (i := 177) (by decide +kernel)) rfl
theorem w_207 : (.fieldLink "MarchTests$Tester" 60 "MarchTests$Tester" "groundKind" "I" : Cond) ∈ TB := tb_of (List.mem_of_getElem? (i := 189) (by decide +kernel)) rfl
theorem w_208 : (.methodLink "MarchTests$Tester" 57 y_Tester_zeroIn : Cond) ∈ TB := tb_of (List.mem_of_getElem? (i := 535) (by decide +kernel)) rfl
theorem w_209 : (.instanceMethod y_Tester_zeroIn : Cond) ∈ TB := tb_of (List.mem_of_getElem? (i := 537) (by decide +kernel)) rfl
theorem w_210 : (.selects "MarchTests$Tester" y_Tester_zeroIn y_Tester_zeroIn : Cond) ∈ TB := tb_of (List.mem_of_getElem? (i := 8) (by decide +kernel)) rfl
theorem w_211 : (.code y_Tester_zeroIn b_Tester_zeroIn 3 (some .int) : Cond) ∈ TB := tb_of (List.mem_of_getElem? (i := 538) (by decide +kernel)) rfl
theorem w_212 : (.methodLink "MarchTests$Tester" 53 y_Tester_reversed : Cond) ∈ TB := tb_of (List.mem_of_getElem? (i := 532) (by decide +kernel)) rfl
theorem w_213 : (.static y_Tester_reversed : Cond) ∈ TB := tb_of (List.mem_of_getElem? (i := 533) (by decide +kernel)) rfl
theorem w_214 : (.code y_Tester_reversed b_Tester_reversed 1 (some .int) : Cond) ∈ TB := tb_of (List.mem_of_getElem? (i := 534) (by decide +kernel)) rfl
theorem w_215 : (.fieldLink "MarchTests$Memory" 58 "MarchTests$FaultList" "count" "I" : Cond) ∈ TB := tb_of (List.mem_of_getElem? (i := 117) (by decide +kernel)) rfl
theorem w_216 : (.fieldLink "MarchTests$Memory" 64 "MarchTests$FaultList" "victimWords" "[I" : Cond) ∈ TB := tb_of (List.mem_of_getElem? (i := 108) (by decide +kernel)) rfl
theorem w_217 : (.fieldLink "MarchTests$Memory" 67 "MarchTests$FaultList" "victimMasks" "[I" : Cond) ∈ TB := tb_of (List.mem_of_getElem? (i := 110) (by decide +kernel)) rfl
theorem w_218 : (.fieldLink "MarchTests$Memory" 61 "MarchTests$FaultList" "kinds" "[I" : Cond) ∈ TB := tb_of (List.mem_of_getElem? (i := 106) (by decide +kernel)) rfl
theorem w_219 : (.fieldLink "MarchTests$Memory" 81 "MarchTests$FaultList" "otherWords" "[I" : Cond) ∈ TB := tb_of (List.mem_of_getElem? (i := 112) (by decide +kernel)) rfl
theorem w_220 : (.fieldLink "MarchTests$Memory" 84 "MarchTests$FaultList" "otherMasks" "[I" : Cond) ∈ TB := tb_of (List.mem_of_getElem? (i := 114) (by decide +kernel)) rfl
theorem w_221 : (.fieldLink "MarchTests$Memory" 37 "MarchTests$Memory" "latest" "I" : Cond) ∈ TB := tb_of (List.mem_of_getElem? (i := 158) (by decide +kernel)) rfl
theorem w_222 : (.methodLink "MarchTests$Memory" 40 y_Memory_settle : Cond) ∈ TB := tb_of (List.mem_of_getElem? (i := 547) (by decide +kernel)) rfl
theorem w_223 : (.instanceMethod y_Memory_settle : Cond) ∈ TB := tb_of (List.mem_of_getElem? (i := 549) (by decide +kernel)) rfl
theorem w_224 : (.selects "MarchTests$Memory" y_Memory_settle y_Memory_settle : Cond) ∈ TB := tb_of (List.mem_of_getElem? (i := 9) (by decide +kernel)) rfl
theorem w_225 : (.code y_Memory_settle b_Memory_settle 4 none : Cond) ∈ TB := tb_of (List.mem_of_getElem? (i := 550) (by decide +kernel)) rfl
theorem w_226 : (.methodLink "MarchTests$Memory" 70 y_FaultList_isVictim : Cond) ∈ TB := tb_of (List.mem_of_getElem? (i := 575) (by decide +kernel)) rfl
theorem w_227 : (.instanceMethod y_FaultList_isVictim : Cond) ∈ TB := tb_of (List.mem_of_getElem? (i := 576) (by decide +kernel)) rfl
theorem w_228 : (.selects "MarchTests$FaultList" y_FaultList_isVictim y_FaultList_isVictim : Cond) ∈ TB := tb_of (List.mem_of_getElem? (i := 577) (by decide +kernel)) rfl
theorem w_229 : (.code y_FaultList_isVictim b_FaultList_isVictim 4 (some .boolean) : Cond) ∈ TB := tb_of (List.mem_of_getElem? (i := 578) (by decide +kernel)) rfl
theorem w_230 : (.methodLink "MarchTests$Memory" 74 y_Memory_struckValue : Cond) ∈ TB := tb_of (List.mem_of_getElem? (i := 579) (by decide +kernel)) rfl
theorem w_231 : (.static y_Memory_struckValue : Cond) ∈ TB := tb_of (List.mem_of_getElem? (i := 580) (by decide +kernel)) rfl
theorem w_232 : (.code y_Memory_struckValue b_Memory_struckValue 5 (some .int) : Cond) ∈ TB := tb_of (List.mem_of_getElem? (i := 581) (by decide +kernel)) rfl
theorem w_233 : (.methodLink "MarchTests$Memory" 87 y_FaultList_isOther : Cond) ∈ TB := tb_of (List.mem_of_getElem? (i := 586) (by decide +kernel)) rfl
theorem w_234 : (.instanceMethod y_FaultList_isOther : Cond) ∈ TB := tb_of (List.mem_of_getElem? (i := 587) (by decide +kernel)) rfl
theorem w_235 : (.selects "MarchTests$FaultList" y_FaultList_isOther y_FaultList_isOther : Cond) ∈ TB := tb_of (List.mem_of_getElem? (i := 588) (by decide +kernel)) rfl
theorem w_236 : (.code y_FaultList_isOther b_FaultList_isOther 4 (some .boolean) : Cond) ∈ TB := tb_of (List.mem_of_getElem? (i := 589) (by decide +kernel)) rfl
theorem w_237 : (.methodLink "MarchTests$Memory" 43 y_FaultList_touches : Cond) ∈ TB := tb_of (List.mem_of_getElem? (i := 567) (by decide +kernel)) rfl
theorem w_238 : (.instanceMethod y_FaultList_touches : Cond) ∈ TB := tb_of (List.mem_of_getElem? (i := 568) (by decide +kernel)) rfl
theorem w_239 : (.selects "MarchTests$FaultList" y_FaultList_touches y_FaultList_touches : Cond) ∈ TB := tb_of (List.mem_of_getElem? (i := 569) (by decide +kernel)) rfl
theorem w_240 : (.code y_FaultList_touches b_FaultList_touches 2 (some .boolean) : Cond) ∈ TB := tb_of (List.mem_of_getElem? (i := 570) (by decide +kernel)) rfl
theorem w_241 : (.methodLink "MarchTests$Memory" 47 y_Memory_valueToStore : Cond) ∈ TB := tb_of (List.mem_of_getElem? (i := 571) (by decide +kernel)) rfl
theorem w_242 : (.instanceMethod y_Memory_valueToStore : Cond) ∈ TB := tb_of (List.mem_of_getElem? (i := 573) (by decide +kernel)) rfl
theorem w_243 : (.selects "MarchTests$Memory" y_Memory_valueToStore y_Memory_valueToStore : Cond) ∈ TB := tb_of (List.mem_of_getElem? (i := 12) (by decide +kernel)) rfl
theorem w_244 : (.code y_Memory_valueToStore b_Memory_valueToStore 7 (some .int) : Cond) ∈ TB := tb_of (List.mem_of_getElem? (i := 574) (by decide +kernel)) rfl
theorem w_245 : (.methodLink "MarchTests$Memory" 51 y_Memory_setCell : Cond) ∈ TB := tb_of (List.mem_of_getElem? (i := 582) (by decide +kernel)) rfl
theorem w_246 : (.instanceMethod y_Memory_setCell : Cond) ∈ TB := tb_of (List.mem_of_getElem? (i := 584) (by decide +kernel)) rfl
theorem w_247 : (.selects "MarchTests$Memory" y_Memory_setCell y_Memory_setCell : Cond) ∈ TB := tb_of (List.mem_of_getElem? (i := 13) (by decide +kernel)) rfl
theorem w_248 : (.code y_Memory_setCell b_Memory_setCell 6 none : Cond) ∈ TB := tb_of (List.mem_of_getElem? (i := 585) (by decide +kernel)) rfl
theorem w_249 : (.methodLink "MarchTests$Memory" 78 y_Memory_isPulledDown : Cond) ∈ TB := tb_of (List.mem_of_getElem? (i := 598) (by decide +kernel)) rfl
theorem w_250 : (.instanceMethod y_Memory_isPulledDown : Cond) ∈ TB := tb_of (List.mem_of_getElem? (i := 600) (by decide +kernel)) rfl
theorem w_251 : (.selects "MarchTests$Memory" y_Memory_isPulledDown y_Memory_isPulledDown : Cond) ∈ TB := tb_of (List.mem_of_getElem? (i := 15) (by decide +kernel)) rfl
theorem w_252 : (.code y_Memory_isPulledDown b_Memory_isPulledDown 4 (some .boolean) : Cond) ∈ TB := tb_of (List.mem_of_getElem? (i := 601) (by decide +kernel)) rfl
theorem w_253 : (.methodLink "MarchTests$Memory" 55 y_Memory_fetchCell : Cond) ∈ TB := tb_of (List.mem_of_getElem? (i := 594) (by decide +kernel)) rfl
theorem w_254 : (.instanceMethod y_Memory_fetchCell : Cond) ∈ TB := tb_of (List.mem_of_getElem? (i := 596) (by decide +kernel)) rfl
theorem w_255 : (.selects "MarchTests$Memory" y_Memory_fetchCell y_Memory_fetchCell : Cond) ∈ TB := tb_of (List.mem_of_getElem? (i := 14) (by decide +kernel)) rfl
theorem w_256 : (.code y_Memory_fetchCell b_Memory_fetchCell 7 (some .int) : Cond) ∈ TB := tb_of (List.mem_of_getElem? (i := 597) (by decide +kernel)) rfl
theorem w_257 : (.methodLink "MarchTests$Tester" 95 y_Memory_fetch : Cond) ∈ TB := tb_of (List.mem_of_getElem? (i := 590) (by decide +kernel)) rfl
theorem w_258 : (.instanceMethod y_Memory_fetch : Cond) ∈ TB := tb_of (List.mem_of_getElem? (i := 591) (by decide +kernel)) rfl
theorem w_259 : (.selects "MarchTests$Memory" y_Memory_fetch y_Memory_fetch : Cond) ∈ TB := tb_of (List.mem_of_getElem? (i := 592) (by decide +kernel)) rfl
theorem w_260 : (.code y_Memory_fetch b_Memory_fetch 4 (some .int) : Cond) ∈ TB := tb_of (List.mem_of_getElem? (i := 593) (by decide +kernel)) rfl
theorem w_261 : (.methodLink "MarchTests$Tester" 92 y_Memory_store : Cond) ∈ TB := tb_of (List.mem_of_getElem? (i := 563) (by decide +kernel)) rfl
theorem w_262 : (.instanceMethod y_Memory_store : Cond) ∈ TB := tb_of (List.mem_of_getElem? (i := 564) (by decide +kernel)) rfl
theorem w_263 : (.selects "MarchTests$Memory" y_Memory_store y_Memory_store : Cond) ∈ TB := tb_of (List.mem_of_getElem? (i := 565) (by decide +kernel)) rfl
theorem w_264 : (.code y_Memory_store b_Memory_store 5 none : Cond) ∈ TB := tb_of (List.mem_of_getElem? (i := 566) (by decide +kernel)) rfl
theorem w_265 : (.fieldLink "MarchTests$Tester" 75 "MarchTests$March" "firstRows" "[I" : Cond) ∈ TB := tb_of (List.mem_of_getElem? (i := 260) (by decide +kernel)) rfl
theorem w_266 : (.fieldLink "MarchTests$Tester" 72 "MarchTests$March" "rows" "[I" : Cond) ∈ TB := tb_of (List.mem_of_getElem? (i := 257) (by decide +kernel)) rfl
theorem w_267 : (.methodLink "MarchTests$Tester" 85 y_Tester_operate : Cond) ∈ TB := tb_of (List.mem_of_getElem? (i := 559) (by decide +kernel)) rfl
theorem w_268 : (.instanceMethod y_Tester_operate : Cond) ∈ TB := tb_of (List.mem_of_getElem? (i := 561) (by decide +kernel)) rfl
theorem w_269 : (.selects "MarchTests$Tester" y_Tester_operate y_Tester_operate : Cond) ∈ TB := tb_of (List.mem_of_getElem? (i := 11) (by decide +kernel)) rfl
theorem w_270 : (.code y_Tester_operate b_Tester_operate 6 (some .int) : Cond) ∈ TB := tb_of (List.mem_of_getElem? (i := 562) (by decide +kernel)) rfl
theorem w_271 : (.methodLink "MarchTests$Tester" 88 y_Failures_add : Cond) ∈ TB := tb_of (List.mem_of_getElem? (i := 602) (by decide +kernel)) rfl
theorem w_272 : (.instanceMethod y_Failures_add : Cond) ∈ TB := tb_of (List.mem_of_getElem? (i := 603) (by decide +kernel)) rfl
theorem w_273 : (.selects "MarchTests$Failures" y_Failures_add y_Failures_add : Cond) ∈ TB := tb_of (List.mem_of_getElem? (i := 604) (by decide +kernel)) rfl
theorem w_274 : (.code y_Failures_add b_Failures_add 6 none : Cond) ∈ TB := tb_of (List.mem_of_getElem? (i := 605) (by decide +kernel)) rfl
theorem w_275 : (.methodLink "MarchTests$Tester" 63 y_Memory_begin : Cond) ∈ TB := tb_of (List.mem_of_getElem? (i := 543) (by decide +kernel)) rfl
theorem w_276 : (.instanceMethod y_Memory_begin : Cond) ∈ TB := tb_of (List.mem_of_getElem? (i := 544) (by decide +kernel)) rfl
theorem w_277 : (.selects "MarchTests$Memory" y_Memory_begin y_Memory_begin : Cond) ∈ TB := tb_of (List.mem_of_getElem? (i := 545) (by decide +kernel)) rfl
theorem w_278 : (.code y_Memory_begin b_Memory_begin 3 none : Cond) ∈ TB := tb_of (List.mem_of_getElem? (i := 546) (by decide +kernel)) rfl
theorem w_279 : (.fieldLink "MarchTests$Tester" 67 "MarchTests$March" "elements" "I" : Cond) ∈ TB := tb_of (List.mem_of_getElem? (i := 263) (by decide +kernel)) rfl
theorem w_280 : (.methodLink "MarchTests$Tester" 81 y_Tester_elementFails : Cond) ∈ TB := tb_of (List.mem_of_getElem? (i := 555) (by decide +kernel)) rfl
theorem w_281 : (.instanceMethod y_Tester_elementFails : Cond) ∈ TB := tb_of (List.mem_of_getElem? (i := 557) (by decide +kernel)) rfl
theorem w_282 : (.selects "MarchTests$Tester" y_Tester_elementFails y_Tester_elementFails : Cond) ∈ TB := tb_of (List.mem_of_getElem? (i := 10) (by decide +kernel)) rfl
theorem w_283 : (.code y_Tester_elementFails b_Tester_elementFails 12 (some .boolean) : Cond) ∈ TB := tb_of (List.mem_of_getElem? (i := 558) (by decide +kernel)) rfl
theorem w_284 : (.methodLink "MarchTests$Tester" 78 y_Memory_rest : Cond) ∈ TB := tb_of (List.mem_of_getElem? (i := 551) (by decide +kernel)) rfl
theorem w_285 : (.instanceMethod y_Memory_rest : Cond) ∈ TB := tb_of (List.mem_of_getElem? (i := 552) (by decide +kernel)) rfl
theorem w_286 : (.selects "MarchTests$Memory" y_Memory_rest y_Memory_rest : Cond) ∈ TB := tb_of (List.mem_of_getElem? (i := 553) (by decide +kernel)) rfl
theorem w_287 : (.code y_Memory_rest b_Memory_rest 2 none : Cond) ∈ TB := tb_of (List.mem_of_getElem? (i := 554) (by decide +kernel)) rfl
theorem w_288 : (.methodLink "MarchTests" 126 y_MT_hasMarch : Cond) ∈ TB := tb_of (List.mem_of_getElem? (i := 518) (by decide +kernel)) rfl
theorem w_289 : (.instanceMethod y_MT_hasMarch : Cond) ∈ TB := tb_of (List.mem_of_getElem? (i := 520) (by decide +kernel)) rfl
theorem w_290 : (.selects "MarchTests" y_MT_hasMarch y_MT_hasMarch : Cond) ∈ TB := tb_of (List.mem_of_getElem? (i := 7) (by decide +kernel)) rfl
theorem w_291 : (.code y_MT_hasMarch b_MT_hasMarch 1 (some .boolean) : Cond) ∈ TB := tb_of (List.mem_of_getElem? (i := 521) (by decide +kernel)) rfl
theorem w_292 : (.fieldLink "MarchTests" 134 "MarchTests$Tester" "failures" "LMarchTests$Failures;" : Cond) ∈ TB := tb_of (List.mem_of_getElem? (i := 186) (by decide +kernel)) rfl
theorem w_293 : (.methodLink "MarchTests" 138 y_Failures_clear : Cond) ∈ TB := tb_of (List.mem_of_getElem? (i := 524) (by decide +kernel)) rfl
theorem w_294 : (.instanceMethod y_Failures_clear : Cond) ∈ TB := tb_of (List.mem_of_getElem? (i := 525) (by decide +kernel)) rfl
theorem w_295 : (.selects "MarchTests$Failures" y_Failures_clear y_Failures_clear : Cond) ∈ TB := tb_of (List.mem_of_getElem? (i := 526) (by decide +kernel)) rfl
theorem w_296 : (.code y_Failures_clear b_Failures_clear 1 none : Cond) ∈ TB := tb_of (List.mem_of_getElem? (i := 527) (by decide +kernel)) rfl
theorem w_297 : (.methodLink "MarchTests" 141 y_Tester_prepare : Cond) ∈ TB := tb_of (List.mem_of_getElem? (i := 528) (by decide +kernel)) rfl
theorem w_298 : (.instanceMethod y_Tester_prepare : Cond) ∈ TB := tb_of (List.mem_of_getElem? (i := 529) (by decide +kernel)) rfl
theorem w_299 : (.selects "MarchTests$Tester" y_Tester_prepare y_Tester_prepare : Cond) ∈ TB := tb_of (List.mem_of_getElem? (i := 530) (by decide +kernel)) rfl
theorem w_300 : (.code y_Tester_prepare b_Tester_prepare 5 none : Cond) ∈ TB := tb_of (List.mem_of_getElem? (i := 531) (by decide +kernel)) rfl
theorem w_301 : (.methodLink "MarchTests" 144 y_Tester_marchFails : Cond) ∈ TB := tb_of (List.mem_of_getElem? (i := 539) (by decide +kernel)) rfl
theorem w_302 : (.instanceMethod y_Tester_marchFails : Cond) ∈ TB := tb_of (List.mem_of_getElem? (i := 540) (by decide +kernel)) rfl
theorem w_303 : (.selects "MarchTests$Tester" y_Tester_marchFails y_Tester_marchFails : Cond) ∈ TB := tb_of (List.mem_of_getElem? (i := 541) (by decide +kernel)) rfl
theorem w_304 : (.code y_Tester_marchFails b_Tester_marchFails 6 (some .boolean) : Cond) ∈ TB := tb_of (List.mem_of_getElem? (i := 542) (by decide +kernel)) rfl
theorem w_305 : (.fieldLink "MarchTests" 150 "MarchTests$March" "rowCount" "I" : Cond) ∈ TB := tb_of (List.mem_of_getElem? (i := 265) (by decide +kernel)) rfl
theorem w_306 : (.fieldLink "MarchTests" 155 "MarchTests$March" "rows" "[I" : Cond) ∈ TB := tb_of (List.mem_of_getElem? (i := 258) (by decide +kernel)) rfl
theorem w_307 : (.methodLink "MarchTests" 159 y_MT_isWord : Cond) ∈ TB := tb_of (List.mem_of_getElem? (i := 629) (by decide +kernel)) rfl
theorem w_308 : (.instanceMethod y_MT_isWord : Cond) ∈ TB := tb_of (List.mem_of_getElem? (i := 631) (by decide +kernel)) rfl
theorem w_309 : (.selects "MarchTests" y_MT_isWord y_MT_isWord : Cond) ∈ TB := tb_of (List.mem_of_getElem? (i := 16) (by decide +kernel)) rfl
theorem w_310 : (.code y_MT_isWord b_MT_isWord 2 (some .boolean) : Cond) ∈ TB := tb_of (List.mem_of_getElem? (i := 632) (by decide +kernel)) rfl
theorem w_311 : (.methodLink "MarchTests" 164 y_Tester_exchange : Cond) ∈ TB := tb_of (List.mem_of_getElem? (i := 634) (by decide +kernel)) rfl
theorem w_312 : (.instanceMethod y_Tester_exchange : Cond) ∈ TB := tb_of (List.mem_of_getElem? (i := 635) (by decide +kernel)) rfl
theorem w_313 : (.selects "MarchTests$Tester" y_Tester_exchange y_Tester_exchange : Cond) ∈ TB := tb_of (List.mem_of_getElem? (i := 636) (by decide +kernel)) rfl
theorem w_314 : (.code y_Tester_exchange b_Tester_exchange 4 none : Cond) ∈ TB := tb_of (List.mem_of_getElem? (i := 637) (by decide +kernel)) rfl
theorem w_315 : (.methodLink "MarchTests" 170 y_Failures_part : Cond) ∈ TB := tb_of (List.mem_of_getElem? (i := 646) (by decide +kernel)) rfl
theorem w_316 : (.instanceMethod y_Failures_part : Cond) ∈ TB := tb_of (List.mem_of_getElem? (i := 647) (by decide +kernel)) rfl
theorem w_317 : (.selects "MarchTests$Failures" y_Failures_part y_Failures_part : Cond) ∈ TB := tb_of (List.mem_of_getElem? (i := 648) (by decide +kernel)) rfl
theorem w_318 : (.code y_Failures_part b_Failures_part 3 (some .int) : Cond) ∈ TB := tb_of (List.mem_of_getElem? (i := 649) (by decide +kernel)) rfl
theorem w_319 : (.fieldLink "MarchTests" 167 "MarchTests$Failures" "count" "I" : Cond) ∈ TB := tb_of (List.mem_of_getElem? (i := 179) (by decide +kernel)) rfl
theorem w_320 : (.fieldLink "MarchTests$RepairPlan" 68 "MarchTests$Failures" "count" "I" : Cond) ∈ TB := tb_of (List.mem_of_getElem? (i := 178) (by decide +kernel)) rfl
theorem w_321 : (.methodLink "MarchTests$RepairPlan" 73 y_Failures_part : Cond) ∈ TB := tb_of (List.mem_of_getElem? (i := 670) (by decide +kernel)) rfl
theorem w_322 : (.methodLink "MarchTests$RepairPlan" 49 y_JI_bitCount : Cond) ∈ TB := tb_of (List.mem_of_getElem? (i := 675) (by decide +kernel)) rfl
theorem w_323 : (.static y_JI_bitCount : Cond) ∈ TB := tb_of (List.mem_of_getElem? (i := 676) (by decide +kernel)) rfl
theorem w_324 : (.initialized "java/lang/Integer" : Cond) ∈ TB := tb_of (List.mem_of_getElem? (i := 51) (by decide +kernel)) rfl
theorem w_325 : (.code y_JI_bitCount b_JI_bitCount 1 (some .int) : Cond) ∈ TB := tb_of (List.mem_of_getElem? (i := 677) (by decide +kernel)) rfl
theorem w_326 : (.fieldLink "MarchTests$RepairPlan" 35 "MarchTests$RepairPlan" "solved" "Z" : Cond) ∈ TB := tb_of (List.mem_of_getElem? (i := 230) (by decide +kernel)) rfl
theorem w_327 : (.methodLink "MarchTests$RepairPlan" 61 y_RepairPlan_spares : Cond) ∈ TB := tb_of (List.mem_of_getElem? (i := 685) (by decide +kernel)) rfl
theorem w_328 : (.static y_RepairPlan_spares : Cond) ∈ TB := tb_of (List.mem_of_getElem? (i := 686) (by decide +kernel)) rfl
theorem w_329 : (.code y_RepairPlan_spares b_RepairPlan_spares 2 (some .int) : Cond) ∈ TB := tb_of (List.mem_of_getElem? (i := 687) (by decide +kernel)) rfl
theorem w_330 : (.fieldLink "MarchTests$RepairPlan" 39 "MarchTests$RepairPlan" "bestRows" "I" : Cond) ∈ TB := tb_of (List.mem_of_getElem? (i := 231) (by decide +kernel)) rfl
theorem w_331 : (.fieldLink "MarchTests$RepairPlan" 42 "MarchTests$RepairPlan" "bestColumns" "I" : Cond) ∈ TB := tb_of (List.mem_of_getElem? (i := 232) (by decide +kernel)) rfl
theorem w_332 : (.methodLink "MarchTests$RepairPlan" 31 y_RepairPlan_gatherWrongBits : Cond) ∈ TB := tb_of (List.mem_of_getElem? (i := 666) (by decide +kernel)) rfl
theorem w_333 : (.instanceMethod y_RepairPlan_gatherWrongBits : Cond) ∈ TB := tb_of (List.mem_of_getElem? (i := 668) (by decide +kernel)) rfl
theorem w_334 : (.selects "MarchTests$RepairPlan" y_RepairPlan_gatherWrongBits y_RepairPlan_gatherWrongBits : Cond) ∈ TB := tb_of (List.mem_of_getElem? (i := 17) (by decide +kernel)) rfl
theorem w_335 : (.code y_RepairPlan_gatherWrongBits b_RepairPlan_gatherWrongBits 3 none : Cond) ∈ TB := tb_of (List.mem_of_getElem? (i := 669) (by decide +kernel)) rfl
theorem w_336 : (.methodLink "MarchTests$RepairPlan" 45 y_RepairPlan_wordsWrongOutside : Cond) ∈ TB := tb_of (List.mem_of_getElem? (i := 671) (by decide +kernel)) rfl
theorem w_337 : (.instanceMethod y_RepairPlan_wordsWrongOutside : Cond) ∈ TB := tb_of (List.mem_of_getElem? (i := 673) (by decide +kernel)) rfl
theorem w_338 : (.selects "MarchTests$RepairPlan" y_RepairPlan_wordsWrongOutside y_RepairPlan_wordsWrongOutside : Cond) ∈ TB := tb_of (List.mem_of_getElem? (i := 18) (by decide +kernel)) rfl
theorem w_339 : (.code y_RepairPlan_wordsWrongOutside b_RepairPlan_wordsWrongOutside 4 (some .int) : Cond) ∈ TB := tb_of (List.mem_of_getElem? (i := 674) (by decide +kernel)) rfl
theorem w_340 : (.fieldLink "MarchTests$RepairPlan" 54 "MarchTests$RepairPlan" "proven" "Z" : Cond) ∈ TB := tb_of (List.mem_of_getElem? (i := 225) (by decide +kernel)) rfl
theorem w_341 : (.methodLink "MarchTests$RepairPlan" 57 y_RepairPlan_isBetter : Cond) ∈ TB := tb_of (List.mem_of_getElem? (i := 681) (by decide +kernel)) rfl
theorem w_342 : (.instanceMethod y_RepairPlan_isBetter : Cond) ∈ TB := tb_of (List.mem_of_getElem? (i := 683) (by decide +kernel)) rfl
theorem w_343 : (.selects "MarchTests$RepairPlan" y_RepairPlan_isBetter y_RepairPlan_isBetter : Cond) ∈ TB := tb_of (List.mem_of_getElem? (i := 19) (by decide +kernel)) rfl
theorem w_344 : (.code y_RepairPlan_isBetter b_RepairPlan_isBetter 6 (some .boolean) : Cond) ∈ TB := tb_of (List.mem_of_getElem? (i := 684) (by decide +kernel)) rfl
theorem w_345 : (.methodLink "MarchTests" 173 y_MT_isSpareCount : Cond) ∈ TB := tb_of (List.mem_of_getElem? (i := 657) (by decide +kernel)) rfl
theorem w_346 : (.static y_MT_isSpareCount : Cond) ∈ TB := tb_of (List.mem_of_getElem? (i := 658) (by decide +kernel)) rfl
theorem w_347 : (.code y_MT_isSpareCount b_MT_isSpareCount 1 (some .boolean) : Cond) ∈ TB := tb_of (List.mem_of_getElem? (i := 659) (by decide +kernel)) rfl
theorem w_348 : (.methodLink "MarchTests" 180 y_RepairPlan_make : Cond) ∈ TB := tb_of (List.mem_of_getElem? (i := 662) (by decide +kernel)) rfl
theorem w_349 : (.instanceMethod y_RepairPlan_make : Cond) ∈ TB := tb_of (List.mem_of_getElem? (i := 663) (by decide +kernel)) rfl
theorem w_350 : (.selects "MarchTests$RepairPlan" y_RepairPlan_make y_RepairPlan_make : Cond) ∈ TB := tb_of (List.mem_of_getElem? (i := 664) (by decide +kernel)) rfl
theorem w_351 : (.code y_RepairPlan_make b_RepairPlan_make 8 (some .int) : Cond) ∈ TB := tb_of (List.mem_of_getElem? (i := 665) (by decide +kernel)) rfl
theorem w_352 : (.methodLink "MarchTests$RepairPlan" 64 y_RepairPlan_isBlown : Cond) ∈ TB := tb_of (List.mem_of_getElem? (i := 700) (by decide +kernel)) rfl
theorem w_353 : (.instanceMethod y_RepairPlan_isBlown : Cond) ∈ TB := tb_of (List.mem_of_getElem? (i := 701) (by decide +kernel)) rfl
theorem w_354 : (.selects "MarchTests$RepairPlan" y_RepairPlan_isBlown y_RepairPlan_isBlown : Cond) ∈ TB := tb_of (List.mem_of_getElem? (i := 702) (by decide +kernel)) rfl
theorem w_355 : (.code y_RepairPlan_isBlown b_RepairPlan_isBlown 3 (some .boolean) : Cond) ∈ TB := tb_of (List.mem_of_getElem? (i := 703) (by decide +kernel)) rfl
theorem w_356 : (.methodLink "MarchTests" 186 y_RepairPlan_fuseOfSpare : Cond) ∈ TB := tb_of (List.mem_of_getElem? (i := 696) (by decide +kernel)) rfl
theorem w_357 : (.instanceMethod y_RepairPlan_fuseOfSpare : Cond) ∈ TB := tb_of (List.mem_of_getElem? (i := 697) (by decide +kernel)) rfl
theorem w_358 : (.selects "MarchTests$RepairPlan" y_RepairPlan_fuseOfSpare y_RepairPlan_fuseOfSpare : Cond) ∈ TB := tb_of (List.mem_of_getElem? (i := 698) (by decide +kernel)) rfl
theorem w_359 : (.code y_RepairPlan_fuseOfSpare b_RepairPlan_fuseOfSpare 4 (some .int) : Cond) ∈ TB := tb_of (List.mem_of_getElem? (i := 699) (by decide +kernel)) rfl
theorem w_360 : (.fieldLink "MarchTests" 192 "MarchTests$RepairPlan" "proven" "Z" : Cond) ∈ TB := tb_of (List.mem_of_getElem? (i := 226) (by decide +kernel)) rfl
theorem w_361 : (.fieldLink "MarchTests" 196 "MarchTests$RepairPlan" "fuses" "I" : Cond) ∈ TB := tb_of (List.mem_of_getElem? (i := 224) (by decide +kernel)) rfl
theorem w_362 : (.methodLink "MarchTests" 201 y_RepairPlan_isBlown : Cond) ∈ TB := tb_of (List.mem_of_getElem? (i := 713) (by decide +kernel)) rfl
theorem w_363 : (.fieldLink "MarchTests" 206 "MarchTests$Tester" "ports" "I" : Cond) ∈ TB := tb_of (List.mem_of_getElem? (i := 188) (by decide +kernel)) rfl
theorem w_364 : (.fieldLink "MarchTests" 211 "MarchTests$Tester" "groundKind" "I" : Cond) ∈ TB := tb_of (List.mem_of_getElem? (i := 190) (by decide +kernel)) rfl
theorem w_365 : (.methodLink "MarchTestsModel" 1 objectInit : Cond) ∈ TB := tb_of (List.mem_of_getElem? (i := 735) (by decide +kernel)) rfl
theorem w_366 : (.fieldLink "MarchTestsModel" 7 "MarchTestsModel" "cells" "[I" : Cond) ∈ TB := tb_of (List.mem_of_getElem? (i := 739) (by decide +kernel)) rfl
theorem w_367 : (.fieldLink "MarchTestsModel" 13 "MarchTestsModel" "sense" "[I" : Cond) ∈ TB := tb_of (List.mem_of_getElem? (i := 740) (by decide +kernel)) rfl
theorem w_368 : (.fieldLink "MarchTestsModel" 16 "MarchTestsModel" "kinds" "[I" : Cond) ∈ TB := tb_of (List.mem_of_getElem? (i := 741) (by decide +kernel)) rfl
theorem w_369 : (.fieldLink "MarchTestsModel" 19 "MarchTestsModel" "victims" "[I" : Cond) ∈ TB := tb_of (List.mem_of_getElem? (i := 742) (by decide +kernel)) rfl
theorem w_370 : (.fieldLink "MarchTestsModel" 22 "MarchTestsModel" "others" "[I" : Cond) ∈ TB := tb_of (List.mem_of_getElem? (i := 743) (by decide +kernel)) rfl
theorem w_371 : (.fieldLink "MarchTestsModel" 25 "MarchTestsModel" "toldKinds" "[I" : Cond) ∈ TB := tb_of (List.mem_of_getElem? (i := 745) (by decide +kernel)) rfl
theorem w_372 : (.fieldLink "MarchTestsModel" 28 "MarchTestsModel" "toldVictims" "[I" : Cond) ∈ TB := tb_of (List.mem_of_getElem? (i := 746) (by decide +kernel)) rfl
theorem w_373 : (.fieldLink "MarchTestsModel" 31 "MarchTestsModel" "toldOthers" "[I" : Cond) ∈ TB := tb_of (List.mem_of_getElem? (i := 747) (by decide +kernel)) rfl
theorem w_374 : (.fieldLink "MarchTestsModel" 34 "MarchTestsModel" "scrambled" "[I" : Cond) ∈ TB := tb_of (List.mem_of_getElem? (i := 751) (by decide +kernel)) rfl
theorem w_375 : (.fieldLink "MarchTestsModel" 37 "MarchTestsModel" "places" "[I" : Cond) ∈ TB := tb_of (List.mem_of_getElem? (i := 752) (by decide +kernel)) rfl
theorem w_376 : (.fieldLink "MarchTestsModel" 40 "MarchTestsModel" "sorts" "[I" : Cond) ∈ TB := tb_of (List.mem_of_getElem? (i := 753) (by decide +kernel)) rfl
theorem w_377 : (.fieldLink "MarchTestsModel" 43 "MarchTestsModel" "counts" "[I" : Cond) ∈ TB := tb_of (List.mem_of_getElem? (i := 754) (by decide +kernel)) rfl
theorem w_378 : (.fieldLink "MarchTestsModel" 46 "MarchTestsModel" "operations" "[I" : Cond) ∈ TB := tb_of (List.mem_of_getElem? (i := 755) (by decide +kernel)) rfl
theorem w_379 : (.fieldLink "MarchTestsModel" 49 "MarchTestsModel" "newSorts" "[I" : Cond) ∈ TB := tb_of (List.mem_of_getElem? (i := 757) (by decide +kernel)) rfl
theorem w_380 : (.fieldLink "MarchTestsModel" 52 "MarchTestsModel" "newCounts" "[I" : Cond) ∈ TB := tb_of (List.mem_of_getElem? (i := 758) (by decide +kernel)) rfl
theorem w_381 : (.fieldLink "MarchTestsModel" 55 "MarchTestsModel" "newOperations" "[I" : Cond) ∈ TB := tb_of (List.mem_of_getElem? (i := 759) (by decide +kernel)) rfl
theorem w_382 : (.fieldLink "MarchTestsModel" 58 "MarchTestsModel" "tape" "[I" : Cond) ∈ TB := tb_of (List.mem_of_getElem? (i := 760) (by decide +kernel)) rfl
theorem w_383 : (.fieldLink "MarchTestsModel" 61 "MarchTestsModel" "failed" "[I" : Cond) ∈ TB := tb_of (List.mem_of_getElem? (i := 763) (by decide +kernel)) rfl
theorem w_384 : (.fieldLink "MarchTestsModel" 64 "MarchTestsModel" "words" "I" : Cond) ∈ TB := tb_of (List.mem_of_getElem? (i := 737) (by decide +kernel)) rfl
theorem w_385 : (.fieldLink "MarchTestsModel" 68 "MarchTestsModel" "bits" "I" : Cond) ∈ TB := tb_of (List.mem_of_getElem? (i := 738) (by decide +kernel)) rfl
theorem w_386 : (.fieldLink "MarchTestsModel" 71 "MarchTestsModel" "ports" "I" : Cond) ∈ TB := tb_of (List.mem_of_getElem? (i := 750) (by decide +kernel)) rfl
theorem w_387 : (.fieldLink "MarchTestsModel" 74 "MarchTestsModel" "thrown" "I" : Cond) ∈ TB := tb_of (List.mem_of_getElem? (i := 736) (by decide +kernel)) rfl
theorem w_388 : (.fieldLink "MarchTestsModel" 77 "MarchTestsModel" "tapeSize" "I" : Cond) ∈ TB := tb_of (List.mem_of_getElem? (i := 761) (by decide +kernel)) rfl
theorem w_389 : (.fieldLink "MarchTestsModel" 80 "MarchTestsModel" "place" "I" : Cond) ∈ TB := tb_of (List.mem_of_getElem? (i := 762) (by decide +kernel)) rfl
theorem w_390 : (.methodLink "MarchTestsModel" 83 y_RF_next : Cond) ∈ TB := tb_of (List.mem_of_getElem? (i := 851) (by decide +kernel)) rfl
theorem w_391 : (.instanceMethod y_RF_next : Cond) ∈ TB := tb_of (List.mem_of_getElem? (i := 853) (by decide +kernel)) rfl
theorem w_392 : (.selects "MarchTestsModel" y_RF_next y_RF_next : Cond) ∈ TB := tb_of (List.mem_of_getElem? (i := 20) (by decide +kernel)) rfl
theorem w_393 : (.initialized "MarchTestsModel" : Cond) ∈ TB := tb_of (List.mem_of_getElem? (i := 44) (by decide +kernel)) rfl
theorem w_394 : (.code y_RF_next b_RF_next 1 (some .int) : Cond) ∈ TB := tb_of (List.mem_of_getElem? (i := 854) (by decide +kernel)) rfl
theorem w_395 : (.fieldLink "MarchTestsModel" 91 "MarchTestsModel" "elements" "I" : Cond) ∈ TB := tb_of (List.mem_of_getElem? (i := 756) (by decide +kernel)) rfl
theorem w_396 : (.methodLink "MarchTestsModel" 87 y_RF_readOperations : Cond) ∈ TB := tb_of (List.mem_of_getElem? (i := 855) (by decide +kernel)) rfl
theorem w_397 : (.instanceMethod y_RF_readOperations : Cond) ∈ TB := tb_of (List.mem_of_getElem? (i := 857) (by decide +kernel)) rfl
theorem w_398 : (.selects "MarchTestsModel" y_RF_readOperations y_RF_readOperations : Cond) ∈ TB := tb_of (List.mem_of_getElem? (i := 21) (by decide +kernel)) rfl
theorem w_399 : (.code y_RF_readOperations b_RF_readOperations 7 (some .boolean) : Cond) ∈ TB := tb_of (List.mem_of_getElem? (i := 858) (by decide +kernel)) rfl
theorem w_400 : (.fieldLink "MarchTestsModel" 94 "MarchTestsModel" "faults" "I" : Cond) ∈ TB := tb_of (List.mem_of_getElem? (i := 744) (by decide +kernel)) rfl
theorem w_401 : (.fieldLink "MarchTestsModel" 97 "MarchTestsModel" "ground" "I" : Cond) ∈ TB := tb_of (List.mem_of_getElem? (i := 749) (by decide +kernel)) rfl
theorem w_402 : (.methodLink "MarchTestsModel" 108 y_RF_behind : Cond) ∈ TB := tb_of (List.mem_of_getElem? (i := 875) (by decide +kernel)) rfl
theorem w_403 : (.instanceMethod y_RF_behind : Cond) ∈ TB := tb_of (List.mem_of_getElem? (i := 877) (by decide +kernel)) rfl
theorem w_404 : (.selects "MarchTestsModel" y_RF_behind y_RF_behind : Cond) ∈ TB := tb_of (List.mem_of_getElem? (i := 25) (by decide +kernel)) rfl
theorem w_405 : (.code y_RF_behind b_RF_behind 4 none : Cond) ∈ TB := tb_of (List.mem_of_getElem? (i := 878) (by decide +kernel)) rfl
theorem w_406 : (.methodLink "MarchTestsModel" 100 y_RF_groundAt : Cond) ∈ TB := tb_of (List.mem_of_getElem? (i := 887) (by decide +kernel)) rfl
theorem w_407 : (.instanceMethod y_RF_groundAt : Cond) ∈ TB := tb_of (List.mem_of_getElem? (i := 889) (by decide +kernel)) rfl
theorem w_408 : (.selects "MarchTestsModel" y_RF_groundAt y_RF_groundAt : Cond) ∈ TB := tb_of (List.mem_of_getElem? (i := 28) (by decide +kernel)) rfl
theorem w_409 : (.code y_RF_groundAt b_RF_groundAt 3 (some .int) : Cond) ∈ TB := tb_of (List.mem_of_getElem? (i := 890) (by decide +kernel)) rfl
theorem w_410 : (.methodLink "MarchTestsModel" 104 y_RF_set : Cond) ∈ TB := tb_of (List.mem_of_getElem? (i := 891) (by decide +kernel)) rfl
theorem w_411 : (.instanceMethod y_RF_set : Cond) ∈ TB := tb_of (List.mem_of_getElem? (i := 893) (by decide +kernel)) rfl
theorem w_412 : (.selects "MarchTestsModel" y_RF_set y_RF_set : Cond) ∈ TB := tb_of (List.mem_of_getElem? (i := 29) (by decide +kernel)) rfl
theorem w_413 : (.code y_RF_set b_RF_set 4 none : Cond) ∈ TB := tb_of (List.mem_of_getElem? (i := 894) (by decide +kernel)) rfl
theorem w_414 : (.fieldLink "MarchTestsModel" 121 "MarchTestsModel" "some" "Z" : Cond) ∈ TB := tb_of (List.mem_of_getElem? (i := 766) (by decide +kernel)) rfl
theorem w_415 : (.fieldLink "MarchTestsModel" 125 "MarchTestsModel" "keeps" "Z" : Cond) ∈ TB := tb_of (List.mem_of_getElem? (i := 765) (by decide +kernel)) rfl
theorem w_416 : (.fieldLink "MarchTestsModel" 128 "MarchTestsModel" "failedCount" "I" : Cond) ∈ TB := tb_of (List.mem_of_getElem? (i := 764) (by decide +kernel)) rfl
theorem w_417 : (.methodLink "MarchTestsModel" 114 y_RF_check : Cond) ∈ TB := tb_of (List.mem_of_getElem? (i := 895) (by decide +kernel)) rfl
theorem w_418 : (.instanceMethod y_RF_check : Cond) ∈ TB := tb_of (List.mem_of_getElem? (i := 897) (by decide +kernel)) rfl
theorem w_419 : (.selects "MarchTestsModel" y_RF_check y_RF_check : Cond) ∈ TB := tb_of (List.mem_of_getElem? (i := 30) (by decide +kernel)) rfl
theorem w_420 : (.code y_RF_check b_RF_check 10 (some .int) : Cond) ∈ TB := tb_of (List.mem_of_getElem? (i := 898) (by decide +kernel)) rfl
theorem w_421 : (.methodLink "MarchTestsModel" 117 y_RF_fail : Cond) ∈ TB := tb_of (List.mem_of_getElem? (i := 899) (by decide +kernel)) rfl
theorem w_422 : (.instanceMethod y_RF_fail : Cond) ∈ TB := tb_of (List.mem_of_getElem? (i := 901) (by decide +kernel)) rfl
theorem w_423 : (.selects "MarchTestsModel" y_RF_fail y_RF_fail : Cond) ∈ TB := tb_of (List.mem_of_getElem? (i := 31) (by decide +kernel)) rfl
theorem w_424 : (.code y_RF_fail b_RF_fail 6 none : Cond) ∈ TB := tb_of (List.mem_of_getElem? (i := 902) (by decide +kernel)) rfl
theorem w_425 : (.methodLink "MarchTestsModel" 111 y_RF_write : Cond) ∈ TB := tb_of (List.mem_of_getElem? (i := 883) (by decide +kernel)) rfl
theorem w_426 : (.instanceMethod y_RF_write : Cond) ∈ TB := tb_of (List.mem_of_getElem? (i := 885) (by decide +kernel)) rfl
theorem w_427 : (.selects "MarchTestsModel" y_RF_write y_RF_write : Cond) ∈ TB := tb_of (List.mem_of_getElem? (i := 27) (by decide +kernel)) rfl
theorem w_428 : (.code y_RF_write b_RF_write 10 none : Cond) ∈ TB := tb_of (List.mem_of_getElem? (i := 886) (by decide +kernel)) rfl
theorem w_429 : (.methodLink "MarchTestsModel" 131 y_RF_findPlaces : Cond) ∈ TB := tb_of (List.mem_of_getElem? (i := 871) (by decide +kernel)) rfl
theorem w_430 : (.instanceMethod y_RF_findPlaces : Cond) ∈ TB := tb_of (List.mem_of_getElem? (i := 873) (by decide +kernel)) rfl
theorem w_431 : (.selects "MarchTestsModel" y_RF_findPlaces y_RF_findPlaces : Cond) ∈ TB := tb_of (List.mem_of_getElem? (i := 24) (by decide +kernel)) rfl
theorem w_432 : (.code y_RF_findPlaces b_RF_findPlaces 6 none : Cond) ∈ TB := tb_of (List.mem_of_getElem? (i := 874) (by decide +kernel)) rfl
theorem w_433 : (.methodLink "MarchTestsModel" 135 y_RF_doElement : Cond) ∈ TB := tb_of (List.mem_of_getElem? (i := 879) (by decide +kernel)) rfl
theorem w_434 : (.instanceMethod y_RF_doElement : Cond) ∈ TB := tb_of (List.mem_of_getElem? (i := 881) (by decide +kernel)) rfl
theorem w_435 : (.selects "MarchTestsModel" y_RF_doElement y_RF_doElement : Cond) ∈ TB := tb_of (List.mem_of_getElem? (i := 26) (by decide +kernel)) rfl
theorem w_436 : (.code y_RF_doElement b_RF_doElement 8 none : Cond) ∈ TB := tb_of (List.mem_of_getElem? (i := 882) (by decide +kernel)) rfl
theorem w_437 : (.fieldLink "MarchTestsModel" 138 "MarchTestsModel" "told" "I" : Cond) ∈ TB := tb_of (List.mem_of_getElem? (i := 748) (by decide +kernel)) rfl
theorem w_438 : (.methodLink "MarchTestsModel" 141 y_RF_takeTold : Cond) ∈ TB := tb_of (List.mem_of_getElem? (i := 863) (by decide +kernel)) rfl
theorem w_439 : (.instanceMethod y_RF_takeTold : Cond) ∈ TB := tb_of (List.mem_of_getElem? (i := 865) (by decide +kernel)) rfl
theorem w_440 : (.selects "MarchTestsModel" y_RF_takeTold y_RF_takeTold : Cond) ∈ TB := tb_of (List.mem_of_getElem? (i := 22) (by decide +kernel)) rfl
theorem w_441 : (.code y_RF_takeTold b_RF_takeTold 2 none : Cond) ∈ TB := tb_of (List.mem_of_getElem? (i := 866) (by decide +kernel)) rfl
theorem w_442 : (.methodLink "MarchTestsModel" 144 y_RF_go : Cond) ∈ TB := tb_of (List.mem_of_getElem? (i := 867) (by decide +kernel)) rfl
theorem w_443 : (.instanceMethod y_RF_go : Cond) ∈ TB := tb_of (List.mem_of_getElem? (i := 869) (by decide +kernel)) rfl
theorem w_444 : (.selects "MarchTestsModel" y_RF_go y_RF_go : Cond) ∈ TB := tb_of (List.mem_of_getElem? (i := 23) (by decide +kernel)) rfl
theorem w_445 : (.code y_RF_go b_RF_go 4 none : Cond) ∈ TB := tb_of (List.mem_of_getElem? (i := 870) (by decide +kernel)) rfl
theorem w_446 : (.fieldLink "MarchTestsModel" 147 "MarchTestsModel" "repairedRows" "I" : Cond) ∈ TB := tb_of (List.mem_of_getElem? (i := 767) (by decide +kernel)) rfl
theorem w_447 : (.fieldLink "MarchTestsModel" 150 "MarchTestsModel" "repairedColumns" "I" : Cond) ∈ TB := tb_of (List.mem_of_getElem? (i := 768) (by decide +kernel)) rfl
theorem w_448 : (.methodLink "MarchTestsModel" 153 y_RF_ones : Cond) ∈ TB := tb_of (List.mem_of_getElem? (i := 935) (by decide +kernel)) rfl
theorem w_449 : (.static y_RF_ones : Cond) ∈ TB := tb_of (List.mem_of_getElem? (i := 936) (by decide +kernel)) rfl
theorem w_450 : (.code y_RF_ones b_RF_ones 3 (some .int) : Cond) ∈ TB := tb_of (List.mem_of_getElem? (i := 937) (by decide +kernel)) rfl
theorem w_451 : (.fieldLink "MarchTestsModel" 157 "MarchTestsModel" "proof" "Z" : Cond) ∈ TB := tb_of (List.mem_of_getElem? (i := 769) (by decide +kernel)) rfl
theorem w_452 : (.methodLink "MarchTestsModel" 160 y_RF_columnsFor : Cond) ∈ TB := tb_of (List.mem_of_getElem? (i := 938) (by decide +kernel)) rfl
theorem w_453 : (.instanceMethod y_RF_columnsFor : Cond) ∈ TB := tb_of (List.mem_of_getElem? (i := 940) (by decide +kernel)) rfl
theorem w_454 : (.selects "MarchTestsModel" y_RF_columnsFor y_RF_columnsFor : Cond) ∈ TB := tb_of (List.mem_of_getElem? (i := 32) (by decide +kernel)) rfl
theorem w_455 : (.code y_RF_columnsFor b_RF_columnsFor 4 (some .int) : Cond) ∈ TB := tb_of (List.mem_of_getElem? (i := 941) (by decide +kernel)) rfl
theorem w_456 : (.methodLink "MarchTestsModel" 163 y_RF_isBefore : Cond) ∈ TB := tb_of (List.mem_of_getElem? (i := 942) (by decide +kernel)) rfl
theorem w_457 : (.static y_RF_isBefore : Cond) ∈ TB := tb_of (List.mem_of_getElem? (i := 943) (by decide +kernel)) rfl
theorem w_458 : (.code y_RF_isBefore b_RF_isBefore 4 (some .boolean) : Cond) ∈ TB := tb_of (List.mem_of_getElem? (i := 944) (by decide +kernel)) rfl
theorem i_MT : ∀ w ∈ u_ws R_MT F_MT 10, w ∈ TB := by decide +kernel
theorem i_RF : ∀ w ∈ u_ws R_RF F_RF 34, w ∈ TB := by decide +kernel
theorem i_Failures : ∀ w ∈ u_ws R_Failures F_Failures 2, w ∈ TB := by decide +kernel
theorem i_FaultList : ∀ w ∈ u_ws R_FaultList F_FaultList 8, w ∈ TB := by decide +kernel
theorem i_March : ∀ w ∈ u_ws R_March F_March 4, w ∈ TB := by decide +kernel
theorem i_Memory : ∀ w ∈ u_ws R_Memory F_Memory 5, w ∈ TB := by decide +kernel
theorem i_RepairPlan : ∀ w ∈ u_ws R_RepairPlan F_RepairPlan 8, w ∈ TB := by decide +kernel
theorem i_Tape : ∀ w ∈ u_ws R_Tape F_Tape 2, w ∈ TB := by decide +kernel
theorem i_Tester : ∀ w ∈ u_ws R_Tester F_Tester 9, w ∈ TB := by decide +kernel
theorem i_TextReader : ∀ w ∈ u_ws R_TextReader F_TextReader 3, w ∈ TB := by decide +kernel
