theorem d_JI_bitCount_0 : decode b_JI_bitCount 0 = .ok (.iload_n 0, 1) := by decide +kernel
theorem d_JI_bitCount_1 : decode b_JI_bitCount 1 = .ok (.iload_n 0, 1) := by decide +kernel
theorem d_JI_bitCount_2 : decode b_JI_bitCount 2 = .ok (.iconst 1, 1) := by decide +kernel
theorem d_JI_bitCount_3 : decode b_JI_bitCount 3 = .ok (.iushr, 1) := by decide +kernel
theorem d_JI_bitCount_4 : decode b_JI_bitCount 4 = .ok (.ldc_w 265, 3) := by decide +kernel
theorem d_JI_bitCount_7 : decode b_JI_bitCount 7 = .ok (.iand, 1) := by decide +kernel
theorem d_JI_bitCount_8 : decode b_JI_bitCount 8 = .ok (.isub, 1) := by decide +kernel
theorem d_JI_bitCount_9 : decode b_JI_bitCount 9 = .ok (.istore_n 0, 1) := by decide +kernel
theorem d_JI_bitCount_10 : decode b_JI_bitCount 10 = .ok (.iload_n 0, 1) := by decide +kernel
theorem d_JI_bitCount_11 : decode b_JI_bitCount 11 = .ok (.ldc_w 266, 3) := by decide +kernel
theorem d_JI_bitCount_14 : decode b_JI_bitCount 14 = .ok (.iand, 1) := by decide +kernel
theorem d_JI_bitCount_15 : decode b_JI_bitCount 15 = .ok (.iload_n 0, 1) := by decide +kernel
theorem d_JI_bitCount_16 : decode b_JI_bitCount 16 = .ok (.iconst 2, 1) := by decide +kernel
theorem d_JI_bitCount_17 : decode b_JI_bitCount 17 = .ok (.iushr, 1) := by decide +kernel
theorem d_JI_bitCount_18 : decode b_JI_bitCount 18 = .ok (.ldc_w 266, 3) := by decide +kernel
theorem d_JI_bitCount_21 : decode b_JI_bitCount 21 = .ok (.iand, 1) := by decide +kernel
theorem d_JI_bitCount_22 : decode b_JI_bitCount 22 = .ok (.iadd, 1) := by decide +kernel
theorem d_JI_bitCount_23 : decode b_JI_bitCount 23 = .ok (.istore_n 0, 1) := by decide +kernel
theorem d_JI_bitCount_24 : decode b_JI_bitCount 24 = .ok (.iload_n 0, 1) := by decide +kernel
theorem d_JI_bitCount_25 : decode b_JI_bitCount 25 = .ok (.iload_n 0, 1) := by decide +kernel
theorem d_JI_bitCount_26 : decode b_JI_bitCount 26 = .ok (.iconst 4, 1) := by decide +kernel
theorem d_JI_bitCount_27 : decode b_JI_bitCount 27 = .ok (.iushr, 1) := by decide +kernel
theorem d_JI_bitCount_28 : decode b_JI_bitCount 28 = .ok (.iadd, 1) := by decide +kernel
theorem d_JI_bitCount_29 : decode b_JI_bitCount 29 = .ok (.ldc_w 267, 3) := by decide +kernel
theorem d_JI_bitCount_32 : decode b_JI_bitCount 32 = .ok (.iand, 1) := by decide +kernel
theorem d_JI_bitCount_33 : decode b_JI_bitCount 33 = .ok (.istore_n 0, 1) := by decide +kernel
theorem d_JI_bitCount_34 : decode b_JI_bitCount 34 = .ok (.iload_n 0, 1) := by decide +kernel
theorem d_JI_bitCount_35 : decode b_JI_bitCount 35 = .ok (.iload_n 0, 1) := by decide +kernel
theorem d_JI_bitCount_36 : decode b_JI_bitCount 36 = .ok (.bipush 8, 2) := by decide +kernel
theorem d_JI_bitCount_38 : decode b_JI_bitCount 38 = .ok (.iushr, 1) := by decide +kernel
theorem d_JI_bitCount_39 : decode b_JI_bitCount 39 = .ok (.iadd, 1) := by decide +kernel
theorem d_JI_bitCount_40 : decode b_JI_bitCount 40 = .ok (.istore_n 0, 1) := by decide +kernel
theorem d_JI_bitCount_41 : decode b_JI_bitCount 41 = .ok (.iload_n 0, 1) := by decide +kernel
theorem d_JI_bitCount_42 : decode b_JI_bitCount 42 = .ok (.iload_n 0, 1) := by decide +kernel
theorem d_JI_bitCount_43 : decode b_JI_bitCount 43 = .ok (.bipush 16, 2) := by decide +kernel
theorem d_JI_bitCount_45 : decode b_JI_bitCount 45 = .ok (.iushr, 1) := by decide +kernel
theorem d_JI_bitCount_46 : decode b_JI_bitCount 46 = .ok (.iadd, 1) := by decide +kernel
theorem d_JI_bitCount_47 : decode b_JI_bitCount 47 = .ok (.istore_n 0, 1) := by decide +kernel
theorem d_JI_bitCount_48 : decode b_JI_bitCount 48 = .ok (.iload_n 0, 1) := by decide +kernel
theorem d_JI_bitCount_49 : decode b_JI_bitCount 49 = .ok (.bipush 63, 2) := by decide +kernel
theorem d_JI_bitCount_51 : decode b_JI_bitCount 51 = .ok (.iand, 1) := by decide +kernel
theorem d_JI_bitCount_52 : decode b_JI_bitCount 52 = .ok (.ireturn, 1) := by decide +kernel
theorem d_Tape_init_0 : decode b_Tape_init 0 = .ok (.aload_n 0, 1) := by decide +kernel
theorem d_Tape_init_1 : decode b_Tape_init 1 = .ok (.invokespecial 3, 3) := by decide +kernel
theorem d_Tape_init_4 : decode b_Tape_init 4 = .ok (.aload_n 0, 1) := by decide +kernel
theorem d_Tape_init_5 : decode b_Tape_init 5 = .ok (.sipush 400, 3) := by decide +kernel
theorem d_Tape_init_8 : decode b_Tape_init 8 = .ok (.newarray .byte, 2) := by decide +kernel
theorem d_Tape_init_10 : decode b_Tape_init 10 = .ok (.putfield 9, 3) := by decide +kernel
theorem d_Tape_init_13 : decode b_Tape_init 13 = .ok (.return_, 1) := by decide +kernel
theorem d_TextReader_init_0 : decode b_TextReader_init 0 = .ok (.aload_n 0, 1) := by decide +kernel
theorem d_TextReader_init_1 : decode b_TextReader_init 1 = .ok (.invokespecial 3, 3) := by decide +kernel
theorem d_TextReader_init_4 : decode b_TextReader_init 4 = .ok (.return_, 1) := by decide +kernel
theorem d_FaultList_init_0 : decode b_FaultList_init 0 = .ok (.aload_n 0, 1) := by decide +kernel
theorem d_FaultList_init_1 : decode b_FaultList_init 1 = .ok (.invokespecial 3, 3) := by decide +kernel
theorem d_FaultList_init_4 : decode b_FaultList_init 4 = .ok (.aload_n 0, 1) := by decide +kernel
theorem d_FaultList_init_5 : decode b_FaultList_init 5 = .ok (.iconst 4, 1) := by decide +kernel
theorem d_FaultList_init_6 : decode b_FaultList_init 6 = .ok (.newarray .int, 2) := by decide +kernel
theorem d_FaultList_init_8 : decode b_FaultList_init 8 = .ok (.putfield 9, 3) := by decide +kernel
theorem d_FaultList_init_11 : decode b_FaultList_init 11 = .ok (.aload_n 0, 1) := by decide +kernel
theorem d_FaultList_init_12 : decode b_FaultList_init 12 = .ok (.iconst 4, 1) := by decide +kernel
theorem d_FaultList_init_13 : decode b_FaultList_init 13 = .ok (.newarray .int, 2) := by decide +kernel
theorem d_FaultList_init_15 : decode b_FaultList_init 15 = .ok (.putfield 15, 3) := by decide +kernel
theorem d_FaultList_init_18 : decode b_FaultList_init 18 = .ok (.aload_n 0, 1) := by decide +kernel
theorem d_FaultList_init_19 : decode b_FaultList_init 19 = .ok (.iconst 4, 1) := by decide +kernel
theorem d_FaultList_init_20 : decode b_FaultList_init 20 = .ok (.newarray .int, 2) := by decide +kernel
theorem d_FaultList_init_22 : decode b_FaultList_init 22 = .ok (.putfield 18, 3) := by decide +kernel
theorem d_FaultList_init_25 : decode b_FaultList_init 25 = .ok (.aload_n 0, 1) := by decide +kernel
theorem d_FaultList_init_26 : decode b_FaultList_init 26 = .ok (.iconst 4, 1) := by decide +kernel
theorem d_FaultList_init_27 : decode b_FaultList_init 27 = .ok (.newarray .int, 2) := by decide +kernel
theorem d_FaultList_init_29 : decode b_FaultList_init 29 = .ok (.putfield 21, 3) := by decide +kernel
theorem d_FaultList_init_32 : decode b_FaultList_init 32 = .ok (.aload_n 0, 1) := by decide +kernel
theorem d_FaultList_init_33 : decode b_FaultList_init 33 = .ok (.iconst 4, 1) := by decide +kernel
theorem d_FaultList_init_34 : decode b_FaultList_init 34 = .ok (.newarray .int, 2) := by decide +kernel
theorem d_FaultList_init_36 : decode b_FaultList_init 36 = .ok (.putfield 24, 3) := by decide +kernel
theorem d_FaultList_init_39 : decode b_FaultList_init 39 = .ok (.aload_n 0, 1) := by decide +kernel
theorem d_FaultList_init_40 : decode b_FaultList_init 40 = .ok (.iconst 1, 1) := by decide +kernel
theorem d_FaultList_init_41 : decode b_FaultList_init 41 = .ok (.iload_n 1, 1) := by decide +kernel
theorem d_FaultList_init_42 : decode b_FaultList_init 42 = .ok (.invokestatic 27, 3) := by decide +kernel
theorem d_FaultList_init_45 : decode b_FaultList_init 45 = .ok (.putfield 33, 3) := by decide +kernel
theorem d_FaultList_init_48 : decode b_FaultList_init 48 = .ok (.return_, 1) := by decide +kernel
theorem d_Memory_init_0 : decode b_Memory_init 0 = .ok (.aload_n 0, 1) := by decide +kernel
theorem d_Memory_init_1 : decode b_Memory_init 1 = .ok (.invokespecial 3, 3) := by decide +kernel
theorem d_Memory_init_4 : decode b_Memory_init 4 = .ok (.aload_n 0, 1) := by decide +kernel
theorem d_Memory_init_5 : decode b_Memory_init 5 = .ok (.iconst 1, 1) := by decide +kernel
theorem d_Memory_init_6 : decode b_Memory_init 6 = .ok (.iload_n 1, 1) := by decide +kernel
theorem d_Memory_init_7 : decode b_Memory_init 7 = .ok (.invokestatic 9, 3) := by decide +kernel
theorem d_Memory_init_10 : decode b_Memory_init 10 = .ok (.putfield 15, 3) := by decide +kernel
theorem d_Memory_init_13 : decode b_Memory_init 13 = .ok (.aload_n 0, 1) := by decide +kernel
theorem d_Memory_init_14 : decode b_Memory_init 14 = .ok (.iload_n 2, 1) := by decide +kernel
theorem d_Memory_init_15 : decode b_Memory_init 15 = .ok (.putfield 21, 3) := by decide +kernel
theorem d_Memory_init_18 : decode b_Memory_init 18 = .ok (.aload_n 0, 1) := by decide +kernel
theorem d_Memory_init_19 : decode b_Memory_init 19 = .ok (.aload_n 0, 1) := by decide +kernel
theorem d_Memory_init_20 : decode b_Memory_init 20 = .ok (.getfield 15, 3) := by decide +kernel
theorem d_Memory_init_23 : decode b_Memory_init 23 = .ok (.newarray .int, 2) := by decide +kernel
theorem d_Memory_init_25 : decode b_Memory_init 25 = .ok (.putfield 24, 3) := by decide +kernel
theorem d_Memory_init_28 : decode b_Memory_init 28 = .ok (.aload_n 0, 1) := by decide +kernel
theorem d_Memory_init_29 : decode b_Memory_init 29 = .ok (.new 28, 3) := by decide +kernel
theorem d_Memory_init_32 : decode b_Memory_init 32 = .ok (.dup, 1) := by decide +kernel
theorem d_Memory_init_33 : decode b_Memory_init 33 = .ok (.iload_n 2, 1) := by decide +kernel
theorem d_Memory_init_34 : decode b_Memory_init 34 = .ok (.invokespecial 30, 3) := by decide +kernel
theorem d_Memory_init_37 : decode b_Memory_init 37 = .ok (.putfield 33, 3) := by decide +kernel
theorem d_Memory_init_40 : decode b_Memory_init 40 = .ok (.return_, 1) := by decide +kernel
theorem d_Failures_init_0 : decode b_Failures_init 0 = .ok (.aload_n 0, 1) := by decide +kernel
theorem d_Failures_init_1 : decode b_Failures_init 1 = .ok (.invokespecial 3, 3) := by decide +kernel
theorem d_Failures_init_4 : decode b_Failures_init 4 = .ok (.aload_n 0, 1) := by decide +kernel
theorem d_Failures_init_5 : decode b_Failures_init 5 = .ok (.sipush 1200, 3) := by decide +kernel
theorem d_Failures_init_8 : decode b_Failures_init 8 = .ok (.newarray .int, 2) := by decide +kernel
theorem d_Failures_init_10 : decode b_Failures_init 10 = .ok (.putfield 11, 3) := by decide +kernel
theorem d_Failures_init_13 : decode b_Failures_init 13 = .ok (.return_, 1) := by decide +kernel
theorem d_Tester_init_0 : decode b_Tester_init 0 = .ok (.aload_n 0, 1) := by decide +kernel
theorem d_Tester_init_1 : decode b_Tester_init 1 = .ok (.invokespecial 3, 3) := by decide +kernel
theorem d_Tester_init_4 : decode b_Tester_init 4 = .ok (.aload_n 0, 1) := by decide +kernel
theorem d_Tester_init_5 : decode b_Tester_init 5 = .ok (.iconst 1, 1) := by decide +kernel
theorem d_Tester_init_6 : decode b_Tester_init 6 = .ok (.iload_n 1, 1) := by decide +kernel
theorem d_Tester_init_7 : decode b_Tester_init 7 = .ok (.invokestatic 9, 3) := by decide +kernel
theorem d_Tester_init_10 : decode b_Tester_init 10 = .ok (.putfield 15, 3) := by decide +kernel
theorem d_Tester_init_13 : decode b_Tester_init 13 = .ok (.aload_n 0, 1) := by decide +kernel
theorem d_Tester_init_14 : decode b_Tester_init 14 = .ok (.iconst 1, 1) := by decide +kernel
theorem d_Tester_init_15 : decode b_Tester_init 15 = .ok (.iload_n 2, 1) := by decide +kernel
theorem d_Tester_init_16 : decode b_Tester_init 16 = .ok (.ishl, 1) := by decide +kernel
theorem d_Tester_init_17 : decode b_Tester_init 17 = .ok (.iconst 1, 1) := by decide +kernel
theorem d_Tester_init_18 : decode b_Tester_init 18 = .ok (.isub, 1) := by decide +kernel
theorem d_Tester_init_19 : decode b_Tester_init 19 = .ok (.putfield 21, 3) := by decide +kernel
theorem d_Tester_init_22 : decode b_Tester_init 22 = .ok (.aload_n 0, 1) := by decide +kernel
theorem d_Tester_init_23 : decode b_Tester_init 23 = .ok (.new 24, 3) := by decide +kernel
theorem d_Tester_init_26 : decode b_Tester_init 26 = .ok (.dup, 1) := by decide +kernel
theorem d_Tester_init_27 : decode b_Tester_init 27 = .ok (.aload_n 0, 1) := by decide +kernel
theorem d_Tester_init_28 : decode b_Tester_init 28 = .ok (.getfield 15, 3) := by decide +kernel
theorem d_Tester_init_31 : decode b_Tester_init 31 = .ok (.iload_n 2, 1) := by decide +kernel
theorem d_Tester_init_32 : decode b_Tester_init 32 = .ok (.invokespecial 26, 3) := by decide +kernel
theorem d_Tester_init_35 : decode b_Tester_init 35 = .ok (.putfield 29, 3) := by decide +kernel
theorem d_Tester_init_38 : decode b_Tester_init 38 = .ok (.aload_n 0, 1) := by decide +kernel
theorem d_Tester_init_39 : decode b_Tester_init 39 = .ok (.new 33, 3) := by decide +kernel
theorem d_Tester_init_42 : decode b_Tester_init 42 = .ok (.dup, 1) := by decide +kernel
theorem d_Tester_init_43 : decode b_Tester_init 43 = .ok (.invokespecial 35, 3) := by decide +kernel
theorem d_Tester_init_46 : decode b_Tester_init 46 = .ok (.putfield 36, 3) := by decide +kernel
theorem d_Tester_init_49 : decode b_Tester_init 49 = .ok (.aload_n 0, 1) := by decide +kernel
theorem d_Tester_init_50 : decode b_Tester_init 50 = .ok (.aload_n 0, 1) := by decide +kernel
theorem d_Tester_init_51 : decode b_Tester_init 51 = .ok (.getfield 15, 3) := by decide +kernel
theorem d_Tester_init_54 : decode b_Tester_init 54 = .ok (.newarray .int, 2) := by decide +kernel
theorem d_Tester_init_56 : decode b_Tester_init 56 = .ok (.putfield 40, 3) := by decide +kernel
theorem d_Tester_init_59 : decode b_Tester_init 59 = .ok (.aload_n 0, 1) := by decide +kernel
theorem d_Tester_init_60 : decode b_Tester_init 60 = .ok (.aload_n 0, 1) := by decide +kernel
theorem d_Tester_init_61 : decode b_Tester_init 61 = .ok (.getfield 15, 3) := by decide +kernel
theorem d_Tester_init_64 : decode b_Tester_init 64 = .ok (.newarray .int, 2) := by decide +kernel
theorem d_Tester_init_66 : decode b_Tester_init 66 = .ok (.putfield 44, 3) := by decide +kernel
theorem d_Tester_init_69 : decode b_Tester_init 69 = .ok (.aload_n 0, 1) := by decide +kernel
theorem d_Tester_init_70 : decode b_Tester_init 70 = .ok (.aload_n 0, 1) := by decide +kernel
theorem d_Tester_init_71 : decode b_Tester_init 71 = .ok (.getfield 15, 3) := by decide +kernel
theorem d_Tester_init_74 : decode b_Tester_init 74 = .ok (.newarray .int, 2) := by decide +kernel
theorem d_Tester_init_76 : decode b_Tester_init 76 = .ok (.putfield 47, 3) := by decide +kernel
theorem d_Tester_init_79 : decode b_Tester_init 79 = .ok (.aload_n 0, 1) := by decide +kernel
theorem d_Tester_init_80 : decode b_Tester_init 80 = .ok (.iconst 1, 1) := by decide +kernel
theorem d_Tester_init_81 : decode b_Tester_init 81 = .ok (.putfield 50, 3) := by decide +kernel
theorem d_Tester_init_84 : decode b_Tester_init 84 = .ok (.iconst 0, 1) := by decide +kernel
theorem d_Tester_init_85 : decode b_Tester_init 85 = .ok (.istore_n 3, 1) := by decide +kernel
theorem d_Tester_init_86 : decode b_Tester_init 86 = .ok (.iload_n 3, 1) := by decide +kernel
theorem d_Tester_init_87 : decode b_Tester_init 87 = .ok (.aload_n 0, 1) := by decide +kernel
theorem d_Tester_init_88 : decode b_Tester_init 88 = .ok (.getfield 15, 3) := by decide +kernel
theorem d_Tester_init_91 : decode b_Tester_init 91 = .ok (.if_icmp .ge 16, 3) := by decide +kernel
theorem d_Tester_init_94 : decode b_Tester_init 94 = .ok (.aload_n 0, 1) := by decide +kernel
theorem d_Tester_init_95 : decode b_Tester_init 95 = .ok (.getfield 40, 3) := by decide +kernel
theorem d_Tester_init_98 : decode b_Tester_init 98 = .ok (.iload_n 3, 1) := by decide +kernel
theorem d_Tester_init_99 : decode b_Tester_init 99 = .ok (.iload_n 3, 1) := by decide +kernel
theorem d_Tester_init_100 : decode b_Tester_init 100 = .ok (.iastore, 1) := by decide +kernel
theorem d_Tester_init_101 : decode b_Tester_init 101 = .ok (.iinc 3 1, 3) := by decide +kernel
theorem d_Tester_init_104 : decode b_Tester_init 104 = .ok (.goto (-18), 3) := by decide +kernel
theorem d_Tester_init_107 : decode b_Tester_init 107 = .ok (.return_, 1) := by decide +kernel
theorem d_RepairPlan_init_0 : decode b_RepairPlan_init 0 = .ok (.aload_n 0, 1) := by decide +kernel
theorem d_RepairPlan_init_1 : decode b_RepairPlan_init 1 = .ok (.invokespecial 3, 3) := by decide +kernel
theorem d_RepairPlan_init_4 : decode b_RepairPlan_init 4 = .ok (.aload_n 0, 1) := by decide +kernel
theorem d_RepairPlan_init_5 : decode b_RepairPlan_init 5 = .ok (.iconst 1, 1) := by decide +kernel
theorem d_RepairPlan_init_6 : decode b_RepairPlan_init 6 = .ok (.iload_n 1, 1) := by decide +kernel
theorem d_RepairPlan_init_7 : decode b_RepairPlan_init 7 = .ok (.invokestatic 9, 3) := by decide +kernel
theorem d_RepairPlan_init_10 : decode b_RepairPlan_init 10 = .ok (.putfield 15, 3) := by decide +kernel
theorem d_RepairPlan_init_13 : decode b_RepairPlan_init 13 = .ok (.aload_n 0, 1) := by decide +kernel
theorem d_RepairPlan_init_14 : decode b_RepairPlan_init 14 = .ok (.aload_n 0, 1) := by decide +kernel
theorem d_RepairPlan_init_15 : decode b_RepairPlan_init 15 = .ok (.getfield 15, 3) := by decide +kernel
theorem d_RepairPlan_init_18 : decode b_RepairPlan_init 18 = .ok (.iload_n 2, 1) := by decide +kernel
theorem d_RepairPlan_init_19 : decode b_RepairPlan_init 19 = .ok (.iadd, 1) := by decide +kernel
theorem d_RepairPlan_init_20 : decode b_RepairPlan_init 20 = .ok (.putfield 21, 3) := by decide +kernel
theorem d_RepairPlan_init_23 : decode b_RepairPlan_init 23 = .ok (.aload_n 0, 1) := by decide +kernel
theorem d_RepairPlan_init_24 : decode b_RepairPlan_init 24 = .ok (.iconst 1, 1) := by decide +kernel
theorem d_RepairPlan_init_25 : decode b_RepairPlan_init 25 = .ok (.iload_n 2, 1) := by decide +kernel
theorem d_RepairPlan_init_26 : decode b_RepairPlan_init 26 = .ok (.ishl, 1) := by decide +kernel
theorem d_RepairPlan_init_27 : decode b_RepairPlan_init 27 = .ok (.putfield 24, 3) := by decide +kernel
theorem d_RepairPlan_init_30 : decode b_RepairPlan_init 30 = .ok (.aload_n 0, 1) := by decide +kernel
theorem d_RepairPlan_init_31 : decode b_RepairPlan_init 31 = .ok (.aload_n 0, 1) := by decide +kernel
theorem d_RepairPlan_init_32 : decode b_RepairPlan_init 32 = .ok (.getfield 15, 3) := by decide +kernel
theorem d_RepairPlan_init_35 : decode b_RepairPlan_init 35 = .ok (.newarray .int, 2) := by decide +kernel
theorem d_RepairPlan_init_37 : decode b_RepairPlan_init 37 = .ok (.putfield 27, 3) := by decide +kernel
theorem d_RepairPlan_init_40 : decode b_RepairPlan_init 40 = .ok (.return_, 1) := by decide +kernel
theorem d_March_init_0 : decode b_March_init 0 = .ok (.aload_n 0, 1) := by decide +kernel
theorem d_March_init_1 : decode b_March_init 1 = .ok (.invokespecial 3, 3) := by decide +kernel
theorem d_March_init_4 : decode b_March_init 4 = .ok (.aload_n 0, 1) := by decide +kernel
theorem d_March_init_5 : decode b_March_init 5 = .ok (.sipush 128, 3) := by decide +kernel
theorem d_March_init_8 : decode b_March_init 8 = .ok (.newarray .int, 2) := by decide +kernel
theorem d_March_init_10 : decode b_March_init 10 = .ok (.putfield 9, 3) := by decide +kernel
theorem d_March_init_13 : decode b_March_init 13 = .ok (.aload_n 0, 1) := by decide +kernel
theorem d_March_init_14 : decode b_March_init 14 = .ok (.bipush 17, 2) := by decide +kernel
theorem d_March_init_16 : decode b_March_init 16 = .ok (.newarray .int, 2) := by decide +kernel
theorem d_March_init_18 : decode b_March_init 18 = .ok (.putfield 15, 3) := by decide +kernel
theorem d_March_init_21 : decode b_March_init 21 = .ok (.return_, 1) := by decide +kernel
theorem d_MT_init_0 : decode b_MT_init 0 = .ok (.aload_n 0, 1) := by decide +kernel
theorem d_MT_init_1 : decode b_MT_init 1 = .ok (.invokespecial 1, 3) := by decide +kernel
theorem d_MT_init_4 : decode b_MT_init 4 = .ok (.iconst 1, 1) := by decide +kernel
theorem d_MT_init_5 : decode b_MT_init 5 = .ok (.iconst 4, 1) := by decide +kernel
theorem d_MT_init_6 : decode b_MT_init 6 = .ok (.iload_n 2, 1) := by decide +kernel
theorem d_MT_init_7 : decode b_MT_init 7 = .ok (.invokestatic 9, 3) := by decide +kernel
theorem d_MT_init_10 : decode b_MT_init 10 = .ok (.invokestatic 15, 3) := by decide +kernel
theorem d_MT_init_13 : decode b_MT_init 13 = .ok (.istore_n 3, 1) := by decide +kernel
theorem d_MT_init_14 : decode b_MT_init 14 = .ok (.aload_n 0, 1) := by decide +kernel
theorem d_MT_init_15 : decode b_MT_init 15 = .ok (.iconst 1, 1) := by decide +kernel
theorem d_MT_init_16 : decode b_MT_init 16 = .ok (.bipush 16, 2) := by decide +kernel
theorem d_MT_init_18 : decode b_MT_init 18 = .ok (.iload_n 1, 1) := by decide +kernel
theorem d_MT_init_19 : decode b_MT_init 19 = .ok (.invokestatic 9, 3) := by decide +kernel
theorem d_MT_init_22 : decode b_MT_init 22 = .ok (.invokestatic 15, 3) := by decide +kernel
theorem d_MT_init_25 : decode b_MT_init 25 = .ok (.putfield 18, 3) := by decide +kernel
theorem d_MT_init_28 : decode b_MT_init 28 = .ok (.aload_n 0, 1) := by decide +kernel
theorem d_MT_init_29 : decode b_MT_init 29 = .ok (.aload_n 0, 1) := by decide +kernel
theorem d_MT_init_30 : decode b_MT_init 30 = .ok (.getfield 18, 3) := by decide +kernel
theorem d_MT_init_33 : decode b_MT_init 33 = .ok (.iload_n 3, 1) := by decide +kernel
theorem d_MT_init_34 : decode b_MT_init 34 = .ok (.imul, 1) := by decide +kernel
theorem d_MT_init_35 : decode b_MT_init 35 = .ok (.putfield 22, 3) := by decide +kernel
theorem d_MT_init_38 : decode b_MT_init 38 = .ok (.aload_n 0, 1) := by decide +kernel
theorem d_MT_init_39 : decode b_MT_init 39 = .ok (.new 25, 3) := by decide +kernel
theorem d_MT_init_42 : decode b_MT_init 42 = .ok (.dup, 1) := by decide +kernel
theorem d_MT_init_43 : decode b_MT_init 43 = .ok (.invokespecial 27, 3) := by decide +kernel
theorem d_MT_init_46 : decode b_MT_init 46 = .ok (.putfield 28, 3) := by decide +kernel
theorem d_MT_init_49 : decode b_MT_init 49 = .ok (.aload_n 0, 1) := by decide +kernel
theorem d_MT_init_50 : decode b_MT_init 50 = .ok (.new 32, 3) := by decide +kernel
theorem d_MT_init_53 : decode b_MT_init 53 = .ok (.dup, 1) := by decide +kernel
theorem d_MT_init_54 : decode b_MT_init 54 = .ok (.invokespecial 34, 3) := by decide +kernel
theorem d_MT_init_57 : decode b_MT_init 57 = .ok (.putfield 35, 3) := by decide +kernel
theorem d_MT_init_60 : decode b_MT_init 60 = .ok (.aload_n 0, 1) := by decide +kernel
theorem d_MT_init_61 : decode b_MT_init 61 = .ok (.new 39, 3) := by decide +kernel
theorem d_MT_init_64 : decode b_MT_init 64 = .ok (.dup, 1) := by decide +kernel
theorem d_MT_init_65 : decode b_MT_init 65 = .ok (.iload_n 3, 1) := by decide +kernel
theorem d_MT_init_66 : decode b_MT_init 66 = .ok (.invokespecial 41, 3) := by decide +kernel
theorem d_MT_init_69 : decode b_MT_init 69 = .ok (.putfield 44, 3) := by decide +kernel
theorem d_MT_init_72 : decode b_MT_init 72 = .ok (.aload_n 0, 1) := by decide +kernel
theorem d_MT_init_73 : decode b_MT_init 73 = .ok (.new 39, 3) := by decide +kernel
theorem d_MT_init_76 : decode b_MT_init 76 = .ok (.dup, 1) := by decide +kernel
theorem d_MT_init_77 : decode b_MT_init 77 = .ok (.iload_n 3, 1) := by decide +kernel
theorem d_MT_init_78 : decode b_MT_init 78 = .ok (.invokespecial 41, 3) := by decide +kernel
theorem d_MT_init_81 : decode b_MT_init 81 = .ok (.putfield 48, 3) := by decide +kernel
theorem d_MT_init_84 : decode b_MT_init 84 = .ok (.aload_n 0, 1) := by decide +kernel
theorem d_MT_init_85 : decode b_MT_init 85 = .ok (.new 51, 3) := by decide +kernel
theorem d_MT_init_88 : decode b_MT_init 88 = .ok (.dup, 1) := by decide +kernel
theorem d_MT_init_89 : decode b_MT_init 89 = .ok (.aload_n 0, 1) := by decide +kernel
theorem d_MT_init_90 : decode b_MT_init 90 = .ok (.getfield 18, 3) := by decide +kernel
theorem d_MT_init_93 : decode b_MT_init 93 = .ok (.iload_n 3, 1) := by decide +kernel
theorem d_MT_init_94 : decode b_MT_init 94 = .ok (.invokespecial 53, 3) := by decide +kernel
theorem d_MT_init_97 : decode b_MT_init 97 = .ok (.putfield 56, 3) := by decide +kernel
theorem d_MT_init_100 : decode b_MT_init 100 = .ok (.aload_n 0, 1) := by decide +kernel
theorem d_MT_init_101 : decode b_MT_init 101 = .ok (.new 60, 3) := by decide +kernel
theorem d_MT_init_104 : decode b_MT_init 104 = .ok (.dup, 1) := by decide +kernel
theorem d_MT_init_105 : decode b_MT_init 105 = .ok (.aload_n 0, 1) := by decide +kernel
theorem d_MT_init_106 : decode b_MT_init 106 = .ok (.getfield 18, 3) := by decide +kernel
theorem d_MT_init_109 : decode b_MT_init 109 = .ok (.iload_n 3, 1) := by decide +kernel
theorem d_MT_init_110 : decode b_MT_init 110 = .ok (.invokespecial 62, 3) := by decide +kernel
theorem d_MT_init_113 : decode b_MT_init 113 = .ok (.putfield 63, 3) := by decide +kernel
theorem d_MT_init_116 : decode b_MT_init 116 = .ok (.aload_n 0, 1) := by decide +kernel
theorem d_MT_init_117 : decode b_MT_init 117 = .ok (.new 67, 3) := by decide +kernel
theorem d_MT_init_120 : decode b_MT_init 120 = .ok (.dup, 1) := by decide +kernel
theorem d_MT_init_121 : decode b_MT_init 121 = .ok (.invokespecial 69, 3) := by decide +kernel
theorem d_MT_init_124 : decode b_MT_init 124 = .ok (.putfield 70, 3) := by decide +kernel
theorem d_MT_init_127 : decode b_MT_init 127 = .ok (.aload_n 0, 1) := by decide +kernel
theorem d_MT_init_128 : decode b_MT_init 128 = .ok (.new 67, 3) := by decide +kernel
theorem d_MT_init_131 : decode b_MT_init 131 = .ok (.dup, 1) := by decide +kernel
theorem d_MT_init_132 : decode b_MT_init 132 = .ok (.invokespecial 69, 3) := by decide +kernel
theorem d_MT_init_135 : decode b_MT_init 135 = .ok (.putfield 74, 3) := by decide +kernel
theorem d_MT_init_138 : decode b_MT_init 138 = .ok (.return_, 1) := by decide +kernel
theorem d_Tape_add_0 : decode b_Tape_add 0 = .ok (.aload_n 0, 1) := by decide +kernel
theorem d_Tape_add_1 : decode b_Tape_add 1 = .ok (.getfield 15, 3) := by decide +kernel
theorem d_Tape_add_4 : decode b_Tape_add 4 = .ok (.sipush 400, 3) := by decide +kernel
theorem d_Tape_add_7 : decode b_Tape_add 7 = .ok (.if_icmp .lt 5, 3) := by decide +kernel
theorem d_Tape_add_10 : decode b_Tape_add 10 = .ok (.iconst 0, 1) := by decide +kernel
theorem d_Tape_add_11 : decode b_Tape_add 11 = .ok (.ireturn, 1) := by decide +kernel
theorem d_Tape_add_12 : decode b_Tape_add 12 = .ok (.aload_n 0, 1) := by decide +kernel
theorem d_Tape_add_13 : decode b_Tape_add 13 = .ok (.getfield 9, 3) := by decide +kernel
theorem d_Tape_add_16 : decode b_Tape_add 16 = .ok (.aload_n 0, 1) := by decide +kernel
theorem d_Tape_add_17 : decode b_Tape_add 17 = .ok (.getfield 15, 3) := by decide +kernel
theorem d_Tape_add_20 : decode b_Tape_add 20 = .ok (.iload_n 1, 1) := by decide +kernel
theorem d_Tape_add_21 : decode b_Tape_add 21 = .ok (.i2b, 1) := by decide +kernel
theorem d_Tape_add_22 : decode b_Tape_add 22 = .ok (.bastore, 1) := by decide +kernel
theorem d_Tape_add_23 : decode b_Tape_add 23 = .ok (.aload_n 0, 1) := by decide +kernel
theorem d_Tape_add_24 : decode b_Tape_add 24 = .ok (.dup, 1) := by decide +kernel
theorem d_Tape_add_25 : decode b_Tape_add 25 = .ok (.getfield 15, 3) := by decide +kernel
theorem d_Tape_add_28 : decode b_Tape_add 28 = .ok (.iconst 1, 1) := by decide +kernel
theorem d_Tape_add_29 : decode b_Tape_add 29 = .ok (.iadd, 1) := by decide +kernel
theorem d_Tape_add_30 : decode b_Tape_add 30 = .ok (.putfield 15, 3) := by decide +kernel
theorem d_Tape_add_33 : decode b_Tape_add 33 = .ok (.iconst 1, 1) := by decide +kernel
theorem d_Tape_add_34 : decode b_Tape_add 34 = .ok (.ireturn, 1) := by decide +kernel
theorem d_MT_unit_0 : decode b_MT_unit 0 = .ok (.aload_n 0, 1) := by decide +kernel
theorem d_MT_unit_1 : decode b_MT_unit 1 = .ok (.getfield 28, 3) := by decide +kernel
theorem d_MT_unit_4 : decode b_MT_unit 4 = .ok (.iload_n 1, 1) := by decide +kernel
theorem d_MT_unit_5 : decode b_MT_unit 5 = .ok (.invokevirtual 77, 3) := by decide +kernel
theorem d_MT_unit_8 : decode b_MT_unit 8 = .ok (.ireturn, 1) := by decide +kernel
theorem d_March_clear_0 : decode b_March_clear 0 = .ok (.aload_n 0, 1) := by decide +kernel
theorem d_March_clear_1 : decode b_March_clear 1 = .ok (.iconst 0, 1) := by decide +kernel
theorem d_March_clear_2 : decode b_March_clear 2 = .ok (.putfield 18, 3) := by decide +kernel
theorem d_March_clear_5 : decode b_March_clear 5 = .ok (.aload_n 0, 1) := by decide +kernel
theorem d_March_clear_6 : decode b_March_clear 6 = .ok (.iconst 0, 1) := by decide +kernel
theorem d_March_clear_7 : decode b_March_clear 7 = .ok (.putfield 22, 3) := by decide +kernel
theorem d_March_clear_10 : decode b_March_clear 10 = .ok (.aload_n 0, 1) := by decide +kernel
theorem d_March_clear_11 : decode b_March_clear 11 = .ok (.getfield 15, 3) := by decide +kernel
theorem d_March_clear_14 : decode b_March_clear 14 = .ok (.iconst 0, 1) := by decide +kernel
theorem d_March_clear_15 : decode b_March_clear 15 = .ok (.iconst 0, 1) := by decide +kernel
theorem d_March_clear_16 : decode b_March_clear 16 = .ok (.iastore, 1) := by decide +kernel
theorem d_March_clear_17 : decode b_March_clear 17 = .ok (.return_, 1) := by decide +kernel
theorem d_TextReader_isBlank_0 : decode b_TextReader_isBlank 0 = .ok (.iload_n 0, 1) := by decide +kernel
theorem d_TextReader_isBlank_1 : decode b_TextReader_isBlank 1 = .ok (.bipush 9, 2) := by decide +kernel
theorem d_TextReader_isBlank_3 : decode b_TextReader_isBlank 3 = .ok (.if_icmp .eq 21, 3) := by decide +kernel
theorem d_TextReader_isBlank_6 : decode b_TextReader_isBlank 6 = .ok (.iload_n 0, 1) := by decide +kernel
theorem d_TextReader_isBlank_7 : decode b_TextReader_isBlank 7 = .ok (.bipush 10, 2) := by decide +kernel
theorem d_TextReader_isBlank_9 : decode b_TextReader_isBlank 9 = .ok (.if_icmp .eq 15, 3) := by decide +kernel
theorem d_TextReader_isBlank_12 : decode b_TextReader_isBlank 12 = .ok (.iload_n 0, 1) := by decide +kernel
theorem d_TextReader_isBlank_13 : decode b_TextReader_isBlank 13 = .ok (.bipush 13, 2) := by decide +kernel
theorem d_TextReader_isBlank_15 : decode b_TextReader_isBlank 15 = .ok (.if_icmp .eq 9, 3) := by decide +kernel
theorem d_TextReader_isBlank_18 : decode b_TextReader_isBlank 18 = .ok (.iload_n 0, 1) := by decide +kernel
theorem d_TextReader_isBlank_19 : decode b_TextReader_isBlank 19 = .ok (.bipush 32, 2) := by decide +kernel
theorem d_TextReader_isBlank_21 : decode b_TextReader_isBlank 21 = .ok (.if_icmp .ne 7, 3) := by decide +kernel
theorem d_TextReader_isBlank_24 : decode b_TextReader_isBlank 24 = .ok (.iconst 1, 1) := by decide +kernel
theorem d_TextReader_isBlank_25 : decode b_TextReader_isBlank 25 = .ok (.goto 4, 3) := by decide +kernel
theorem d_TextReader_isBlank_28 : decode b_TextReader_isBlank 28 = .ok (.iconst 0, 1) := by decide +kernel
theorem d_TextReader_isBlank_29 : decode b_TextReader_isBlank 29 = .ok (.ireturn, 1) := by decide +kernel
theorem d_March_hasRoomForElement_0 : decode b_March_hasRoomForElement 0 = .ok (.aload_n 0, 1) := by decide +kernel
theorem d_March_hasRoomForElement_1 : decode b_March_hasRoomForElement 1 = .ok (.getfield 18, 3) := by decide +kernel
theorem d_March_hasRoomForElement_4 : decode b_March_hasRoomForElement 4 = .ok (.bipush 16, 2) := by decide +kernel
theorem d_March_hasRoomForElement_6 : decode b_March_hasRoomForElement 6 = .ok (.if_icmp .ge 7, 3) := by decide +kernel
theorem d_March_hasRoomForElement_9 : decode b_March_hasRoomForElement 9 = .ok (.iconst 1, 1) := by decide +kernel
theorem d_March_hasRoomForElement_10 : decode b_March_hasRoomForElement 10 = .ok (.goto 4, 3) := by decide +kernel
theorem d_March_hasRoomForElement_13 : decode b_March_hasRoomForElement 13 = .ok (.iconst 0, 1) := by decide +kernel
theorem d_March_hasRoomForElement_14 : decode b_March_hasRoomForElement 14 = .ok (.ireturn, 1) := by decide +kernel
theorem d_March_beginElement_0 : decode b_March_beginElement 0 = .ok (.aload_n 0, 1) := by decide +kernel
theorem d_March_beginElement_1 : decode b_March_beginElement 1 = .ok (.invokevirtual 25, 3) := by decide +kernel
theorem d_March_beginElement_4 : decode b_March_beginElement 4 = .ok (.ifCond .eq 26, 3) := by decide +kernel
theorem d_March_beginElement_7 : decode b_March_beginElement 7 = .ok (.aload_n 0, 1) := by decide +kernel
theorem d_March_beginElement_8 : decode b_March_beginElement 8 = .ok (.dup, 1) := by decide +kernel
theorem d_March_beginElement_9 : decode b_March_beginElement 9 = .ok (.getfield 18, 3) := by decide +kernel
theorem d_March_beginElement_12 : decode b_March_beginElement 12 = .ok (.iconst 1, 1) := by decide +kernel
theorem d_March_beginElement_13 : decode b_March_beginElement 13 = .ok (.iadd, 1) := by decide +kernel
theorem d_March_beginElement_14 : decode b_March_beginElement 14 = .ok (.putfield 18, 3) := by decide +kernel
theorem d_March_beginElement_17 : decode b_March_beginElement 17 = .ok (.aload_n 0, 1) := by decide +kernel
theorem d_March_beginElement_18 : decode b_March_beginElement 18 = .ok (.getfield 15, 3) := by decide +kernel
theorem d_March_beginElement_21 : decode b_March_beginElement 21 = .ok (.aload_n 0, 1) := by decide +kernel
theorem d_March_beginElement_22 : decode b_March_beginElement 22 = .ok (.getfield 18, 3) := by decide +kernel
theorem d_March_beginElement_25 : decode b_March_beginElement 25 = .ok (.aload_n 0, 1) := by decide +kernel
theorem d_March_beginElement_26 : decode b_March_beginElement 26 = .ok (.getfield 22, 3) := by decide +kernel
theorem d_March_beginElement_29 : decode b_March_beginElement 29 = .ok (.iastore, 1) := by decide +kernel
theorem d_March_beginElement_30 : decode b_March_beginElement 30 = .ok (.return_, 1) := by decide +kernel
theorem d_March_hasRoomForOperation_0 : decode b_March_hasRoomForOperation 0 = .ok (.aload_n 0, 1) := by decide +kernel
theorem d_March_hasRoomForOperation_1 : decode b_March_hasRoomForOperation 1 = .ok (.getfield 18, 3) := by decide +kernel
theorem d_March_hasRoomForOperation_4 : decode b_March_hasRoomForOperation 4 = .ok (.ifCond .le 28, 3) := by decide +kernel
theorem d_March_hasRoomForOperation_7 : decode b_March_hasRoomForOperation 7 = .ok (.aload_n 0, 1) := by decide +kernel
theorem d_March_hasRoomForOperation_8 : decode b_March_hasRoomForOperation 8 = .ok (.getfield 22, 3) := by decide +kernel
theorem d_March_hasRoomForOperation_11 : decode b_March_hasRoomForOperation 11 = .ok (.aload_n 0, 1) := by decide +kernel
theorem d_March_hasRoomForOperation_12 : decode b_March_hasRoomForOperation 12 = .ok (.getfield 15, 3) := by decide +kernel
theorem d_March_hasRoomForOperation_15 : decode b_March_hasRoomForOperation 15 = .ok (.aload_n 0, 1) := by decide +kernel
theorem d_March_hasRoomForOperation_16 : decode b_March_hasRoomForOperation 16 = .ok (.getfield 18, 3) := by decide +kernel
theorem d_March_hasRoomForOperation_19 : decode b_March_hasRoomForOperation 19 = .ok (.iconst 1, 1) := by decide +kernel
theorem d_March_hasRoomForOperation_20 : decode b_March_hasRoomForOperation 20 = .ok (.isub, 1) := by decide +kernel
theorem d_March_hasRoomForOperation_21 : decode b_March_hasRoomForOperation 21 = .ok (.iaload, 1) := by decide +kernel
theorem d_March_hasRoomForOperation_22 : decode b_March_hasRoomForOperation 22 = .ok (.isub, 1) := by decide +kernel
theorem d_March_hasRoomForOperation_23 : decode b_March_hasRoomForOperation 23 = .ok (.bipush 8, 2) := by decide +kernel
theorem d_March_hasRoomForOperation_25 : decode b_March_hasRoomForOperation 25 = .ok (.if_icmp .ge 7, 3) := by decide +kernel
theorem d_March_hasRoomForOperation_28 : decode b_March_hasRoomForOperation 28 = .ok (.iconst 1, 1) := by decide +kernel
theorem d_March_hasRoomForOperation_29 : decode b_March_hasRoomForOperation 29 = .ok (.goto 4, 3) := by decide +kernel
theorem d_March_hasRoomForOperation_32 : decode b_March_hasRoomForOperation 32 = .ok (.iconst 0, 1) := by decide +kernel
theorem d_March_hasRoomForOperation_33 : decode b_March_hasRoomForOperation 33 = .ok (.ireturn, 1) := by decide +kernel
theorem d_March_addRow_0 : decode b_March_addRow 0 = .ok (.aload_n 0, 1) := by decide +kernel
theorem d_March_addRow_1 : decode b_March_addRow 1 = .ok (.invokevirtual 29, 3) := by decide +kernel
theorem d_March_addRow_4 : decode b_March_addRow 4 = .ok (.ifCond .eq 36, 3) := by decide +kernel
theorem d_March_addRow_7 : decode b_March_addRow 7 = .ok (.aload_n 0, 1) := by decide +kernel
theorem d_March_addRow_8 : decode b_March_addRow 8 = .ok (.getfield 9, 3) := by decide +kernel
theorem d_March_addRow_11 : decode b_March_addRow 11 = .ok (.aload_n 0, 1) := by decide +kernel
theorem d_March_addRow_12 : decode b_March_addRow 12 = .ok (.getfield 22, 3) := by decide +kernel
theorem d_March_addRow_15 : decode b_March_addRow 15 = .ok (.iload_n 1, 1) := by decide +kernel
theorem d_March_addRow_16 : decode b_March_addRow 16 = .ok (.iastore, 1) := by decide +kernel
theorem d_March_addRow_17 : decode b_March_addRow 17 = .ok (.aload_n 0, 1) := by decide +kernel
theorem d_March_addRow_18 : decode b_March_addRow 18 = .ok (.dup, 1) := by decide +kernel
theorem d_March_addRow_19 : decode b_March_addRow 19 = .ok (.getfield 22, 3) := by decide +kernel
theorem d_March_addRow_22 : decode b_March_addRow 22 = .ok (.iconst 1, 1) := by decide +kernel
theorem d_March_addRow_23 : decode b_March_addRow 23 = .ok (.iadd, 1) := by decide +kernel
theorem d_March_addRow_24 : decode b_March_addRow 24 = .ok (.putfield 22, 3) := by decide +kernel
theorem d_March_addRow_27 : decode b_March_addRow 27 = .ok (.aload_n 0, 1) := by decide +kernel
theorem d_March_addRow_28 : decode b_March_addRow 28 = .ok (.getfield 15, 3) := by decide +kernel
theorem d_March_addRow_31 : decode b_March_addRow 31 = .ok (.aload_n 0, 1) := by decide +kernel
theorem d_March_addRow_32 : decode b_March_addRow 32 = .ok (.getfield 18, 3) := by decide +kernel
theorem d_March_addRow_35 : decode b_March_addRow 35 = .ok (.aload_n 0, 1) := by decide +kernel
theorem d_March_addRow_36 : decode b_March_addRow 36 = .ok (.getfield 22, 3) := by decide +kernel
theorem d_March_addRow_39 : decode b_March_addRow 39 = .ok (.iastore, 1) := by decide +kernel
theorem d_March_addRow_40 : decode b_March_addRow 40 = .ok (.return_, 1) := by decide +kernel
theorem d_March_endElement_0 : decode b_March_endElement 0 = .ok (.aload_n 0, 1) := by decide +kernel
theorem d_March_endElement_1 : decode b_March_endElement 1 = .ok (.getfield 22, 3) := by decide +kernel
theorem d_March_endElement_4 : decode b_March_endElement 4 = .ok (.ifCond .le 19, 3) := by decide +kernel
theorem d_March_endElement_7 : decode b_March_endElement 7 = .ok (.aload_n 0, 1) := by decide +kernel
theorem d_March_endElement_8 : decode b_March_endElement 8 = .ok (.getfield 9, 3) := by decide +kernel
theorem d_March_endElement_11 : decode b_March_endElement 11 = .ok (.aload_n 0, 1) := by decide +kernel
theorem d_March_endElement_12 : decode b_March_endElement 12 = .ok (.getfield 22, 3) := by decide +kernel
theorem d_March_endElement_15 : decode b_March_endElement 15 = .ok (.iconst 1, 1) := by decide +kernel
theorem d_March_endElement_16 : decode b_March_endElement 16 = .ok (.isub, 1) := by decide +kernel
theorem d_March_endElement_17 : decode b_March_endElement 17 = .ok (.dup2, 1) := by decide +kernel
theorem d_March_endElement_18 : decode b_March_endElement 18 = .ok (.iaload, 1) := by decide +kernel
theorem d_March_endElement_19 : decode b_March_endElement 19 = .ok (.bipush 8, 2) := by decide +kernel
theorem d_March_endElement_21 : decode b_March_endElement 21 = .ok (.ior, 1) := by decide +kernel
theorem d_March_endElement_22 : decode b_March_endElement 22 = .ok (.iastore, 1) := by decide +kernel
theorem d_March_endElement_23 : decode b_March_endElement 23 = .ok (.return_, 1) := by decide +kernel
theorem d_TextReader_takesElement_0 : decode b_TextReader_takesElement 0 = .ok (.aload_n 2, 1) := by decide +kernel
theorem d_TextReader_takesElement_1 : decode b_TextReader_takesElement 1 = .ok (.invokevirtual 49, 3) := by decide +kernel
theorem d_TextReader_takesElement_4 : decode b_TextReader_takesElement 4 = .ok (.ifCond .ne 5, 3) := by decide +kernel
theorem d_TextReader_takesElement_7 : decode b_TextReader_takesElement 7 = .ok (.iconst 0, 1) := by decide +kernel
theorem d_TextReader_takesElement_8 : decode b_TextReader_takesElement 8 = .ok (.ireturn, 1) := by decide +kernel
theorem d_TextReader_takesElement_9 : decode b_TextReader_takesElement 9 = .ok (.iload_n 1, 1) := by decide +kernel
theorem d_TextReader_takesElement_10 : decode b_TextReader_takesElement 10 = .ok (.bipush 100, 2) := by decide +kernel
theorem d_TextReader_takesElement_12 : decode b_TextReader_takesElement 12 = .ok (.if_icmp .ne 24, 3) := by decide +kernel
theorem d_TextReader_takesElement_15 : decode b_TextReader_takesElement 15 = .ok (.aload_n 2, 1) := by decide +kernel
theorem d_TextReader_takesElement_16 : decode b_TextReader_takesElement 16 = .ok (.invokevirtual 53, 3) := by decide +kernel
theorem d_TextReader_takesElement_19 : decode b_TextReader_takesElement 19 = .ok (.aload_n 2, 1) := by decide +kernel
theorem d_TextReader_takesElement_20 : decode b_TextReader_takesElement 20 = .ok (.bipush 16, 2) := by decide +kernel
theorem d_TextReader_takesElement_22 : decode b_TextReader_takesElement 22 = .ok (.invokevirtual 56, 3) := by decide +kernel
theorem d_TextReader_takesElement_25 : decode b_TextReader_takesElement 25 = .ok (.aload_n 2, 1) := by decide +kernel
theorem d_TextReader_takesElement_26 : decode b_TextReader_takesElement 26 = .ok (.invokevirtual 60, 3) := by decide +kernel
theorem d_TextReader_takesElement_29 : decode b_TextReader_takesElement 29 = .ok (.aload_n 0, 1) := by decide +kernel
theorem d_TextReader_takesElement_30 : decode b_TextReader_takesElement 30 = .ok (.iconst 1, 1) := by decide +kernel
theorem d_TextReader_takesElement_31 : decode b_TextReader_takesElement 31 = .ok (.putfield 16, 3) := by decide +kernel
theorem d_TextReader_takesElement_34 : decode b_TextReader_takesElement 34 = .ok (.iconst 1, 1) := by decide +kernel
theorem d_TextReader_takesElement_35 : decode b_TextReader_takesElement 35 = .ok (.ireturn, 1) := by decide +kernel
theorem d_TextReader_takesElement_36 : decode b_TextReader_takesElement 36 = .ok (.iload_n 1, 1) := by decide +kernel
theorem d_TextReader_takesElement_37 : decode b_TextReader_takesElement 37 = .ok (.bipush 94, 2) := by decide +kernel
theorem d_TextReader_takesElement_39 : decode b_TextReader_takesElement 39 = .ok (.if_icmp .eq 17, 3) := by decide +kernel
theorem d_TextReader_takesElement_42 : decode b_TextReader_takesElement 42 = .ok (.iload_n 1, 1) := by decide +kernel
theorem d_TextReader_takesElement_43 : decode b_TextReader_takesElement 43 = .ok (.bipush 118, 2) := by decide +kernel
theorem d_TextReader_takesElement_45 : decode b_TextReader_takesElement 45 = .ok (.if_icmp .eq 11, 3) := by decide +kernel
theorem d_TextReader_takesElement_48 : decode b_TextReader_takesElement 48 = .ok (.iload_n 1, 1) := by decide +kernel
theorem d_TextReader_takesElement_49 : decode b_TextReader_takesElement 49 = .ok (.bipush 42, 2) := by decide +kernel
theorem d_TextReader_takesElement_51 : decode b_TextReader_takesElement 51 = .ok (.if_icmp .eq 5, 3) := by decide +kernel
theorem d_TextReader_takesElement_54 : decode b_TextReader_takesElement 54 = .ok (.iconst 0, 1) := by decide +kernel
theorem d_TextReader_takesElement_55 : decode b_TextReader_takesElement 55 = .ok (.ireturn, 1) := by decide +kernel
theorem d_TextReader_takesElement_56 : decode b_TextReader_takesElement 56 = .ok (.aload_n 2, 1) := by decide +kernel
theorem d_TextReader_takesElement_57 : decode b_TextReader_takesElement 57 = .ok (.invokevirtual 53, 3) := by decide +kernel
theorem d_TextReader_takesElement_60 : decode b_TextReader_takesElement 60 = .ok (.aload_n 0, 1) := by decide +kernel
theorem d_TextReader_takesElement_61 : decode b_TextReader_takesElement 61 = .ok (.iload_n 1, 1) := by decide +kernel
theorem d_TextReader_takesElement_62 : decode b_TextReader_takesElement 62 = .ok (.bipush 118, 2) := by decide +kernel
theorem d_TextReader_takesElement_64 : decode b_TextReader_takesElement 64 = .ok (.if_icmp .ne 7, 3) := by decide +kernel
theorem d_TextReader_takesElement_67 : decode b_TextReader_takesElement 67 = .ok (.iconst 1, 1) := by decide +kernel
theorem d_TextReader_takesElement_68 : decode b_TextReader_takesElement 68 = .ok (.goto 4, 3) := by decide +kernel
theorem d_TextReader_takesElement_71 : decode b_TextReader_takesElement 71 = .ok (.iconst 0, 1) := by decide +kernel
theorem d_TextReader_takesElement_72 : decode b_TextReader_takesElement 72 = .ok (.putfield 63, 3) := by decide +kernel
theorem d_TextReader_takesElement_75 : decode b_TextReader_takesElement 75 = .ok (.aload_n 0, 1) := by decide +kernel
theorem d_TextReader_takesElement_76 : decode b_TextReader_takesElement 76 = .ok (.iconst 2, 1) := by decide +kernel
theorem d_TextReader_takesElement_77 : decode b_TextReader_takesElement 77 = .ok (.putfield 16, 3) := by decide +kernel
theorem d_TextReader_takesElement_80 : decode b_TextReader_takesElement 80 = .ok (.iconst 1, 1) := by decide +kernel
theorem d_TextReader_takesElement_81 : decode b_TextReader_takesElement 81 = .ok (.ireturn, 1) := by decide +kernel
theorem d_TextReader_takesOperation_0 : decode b_TextReader_takesOperation 0 = .ok (.iload_n 1, 1) := by decide +kernel
theorem d_TextReader_takesOperation_1 : decode b_TextReader_takesOperation 1 = .ok (.bipush 119, 2) := by decide +kernel
theorem d_TextReader_takesOperation_3 : decode b_TextReader_takesOperation 3 = .ok (.if_icmp .eq 9, 3) := by decide +kernel
theorem d_TextReader_takesOperation_6 : decode b_TextReader_takesOperation 6 = .ok (.iload_n 1, 1) := by decide +kernel
theorem d_TextReader_takesOperation_7 : decode b_TextReader_takesOperation 7 = .ok (.bipush 114, 2) := by decide +kernel
theorem d_TextReader_takesOperation_9 : decode b_TextReader_takesOperation 9 = .ok (.if_icmp .ne 10, 3) := by decide +kernel
theorem d_TextReader_takesOperation_12 : decode b_TextReader_takesOperation 12 = .ok (.aload_n 2, 1) := by decide +kernel
theorem d_TextReader_takesOperation_13 : decode b_TextReader_takesOperation 13 = .ok (.invokevirtual 66, 3) := by decide +kernel
theorem d_TextReader_takesOperation_16 : decode b_TextReader_takesOperation 16 = .ok (.ifCond .ne 5, 3) := by decide +kernel
theorem d_TextReader_takesOperation_19 : decode b_TextReader_takesOperation 19 = .ok (.iconst 0, 1) := by decide +kernel
theorem d_TextReader_takesOperation_20 : decode b_TextReader_takesOperation 20 = .ok (.ireturn, 1) := by decide +kernel
theorem d_TextReader_takesOperation_21 : decode b_TextReader_takesOperation 21 = .ok (.aload_n 0, 1) := by decide +kernel
theorem d_TextReader_takesOperation_22 : decode b_TextReader_takesOperation 22 = .ok (.iload_n 1, 1) := by decide +kernel
theorem d_TextReader_takesOperation_23 : decode b_TextReader_takesOperation 23 = .ok (.bipush 114, 2) := by decide +kernel
theorem d_TextReader_takesOperation_25 : decode b_TextReader_takesOperation 25 = .ok (.if_icmp .ne 7, 3) := by decide +kernel
theorem d_TextReader_takesOperation_28 : decode b_TextReader_takesOperation 28 = .ok (.iconst 2, 1) := by decide +kernel
theorem d_TextReader_takesOperation_29 : decode b_TextReader_takesOperation 29 = .ok (.goto 4, 3) := by decide +kernel
theorem d_TextReader_takesOperation_32 : decode b_TextReader_takesOperation 32 = .ok (.iconst 0, 1) := by decide +kernel
theorem d_TextReader_takesOperation_33 : decode b_TextReader_takesOperation 33 = .ok (.putfield 69, 3) := by decide +kernel
theorem d_TextReader_takesOperation_36 : decode b_TextReader_takesOperation 36 = .ok (.aload_n 0, 1) := by decide +kernel
theorem d_TextReader_takesOperation_37 : decode b_TextReader_takesOperation 37 = .ok (.iconst 4, 1) := by decide +kernel
theorem d_TextReader_takesOperation_38 : decode b_TextReader_takesOperation 38 = .ok (.putfield 16, 3) := by decide +kernel
theorem d_TextReader_takesOperation_41 : decode b_TextReader_takesOperation 41 = .ok (.iconst 1, 1) := by decide +kernel
theorem d_TextReader_takesOperation_42 : decode b_TextReader_takesOperation 42 = .ok (.ireturn, 1) := by decide +kernel
theorem d_TextReader_takesValue_0 : decode b_TextReader_takesValue 0 = .ok (.iload_n 1, 1) := by decide +kernel
theorem d_TextReader_takesValue_1 : decode b_TextReader_takesValue 1 = .ok (.bipush 48, 2) := by decide +kernel
theorem d_TextReader_takesValue_3 : decode b_TextReader_takesValue 3 = .ok (.if_icmp .eq 11, 3) := by decide +kernel
theorem d_TextReader_takesValue_6 : decode b_TextReader_takesValue 6 = .ok (.iload_n 1, 1) := by decide +kernel
theorem d_TextReader_takesValue_7 : decode b_TextReader_takesValue 7 = .ok (.bipush 49, 2) := by decide +kernel
theorem d_TextReader_takesValue_9 : decode b_TextReader_takesValue 9 = .ok (.if_icmp .eq 5, 3) := by decide +kernel
theorem d_TextReader_takesValue_12 : decode b_TextReader_takesValue 12 = .ok (.iconst 0, 1) := by decide +kernel
theorem d_TextReader_takesValue_13 : decode b_TextReader_takesValue 13 = .ok (.ireturn, 1) := by decide +kernel
theorem d_TextReader_takesValue_14 : decode b_TextReader_takesValue 14 = .ok (.iload_n 1, 1) := by decide +kernel
theorem d_TextReader_takesValue_15 : decode b_TextReader_takesValue 15 = .ok (.bipush 49, 2) := by decide +kernel
theorem d_TextReader_takesValue_17 : decode b_TextReader_takesValue 17 = .ok (.if_icmp .ne 7, 3) := by decide +kernel
theorem d_TextReader_takesValue_20 : decode b_TextReader_takesValue 20 = .ok (.iconst 4, 1) := by decide +kernel
theorem d_TextReader_takesValue_21 : decode b_TextReader_takesValue 21 = .ok (.goto 4, 3) := by decide +kernel
theorem d_TextReader_takesValue_24 : decode b_TextReader_takesValue 24 = .ok (.iconst 0, 1) := by decide +kernel
theorem d_TextReader_takesValue_25 : decode b_TextReader_takesValue 25 = .ok (.istore_n 3, 1) := by decide +kernel
theorem d_TextReader_takesValue_26 : decode b_TextReader_takesValue 26 = .ok (.aload_n 2, 1) := by decide +kernel
theorem d_TextReader_takesValue_27 : decode b_TextReader_takesValue 27 = .ok (.aload_n 0, 1) := by decide +kernel
theorem d_TextReader_takesValue_28 : decode b_TextReader_takesValue 28 = .ok (.getfield 63, 3) := by decide +kernel
theorem d_TextReader_takesValue_31 : decode b_TextReader_takesValue 31 = .ok (.aload_n 0, 1) := by decide +kernel
theorem d_TextReader_takesValue_32 : decode b_TextReader_takesValue 32 = .ok (.getfield 69, 3) := by decide +kernel
theorem d_TextReader_takesValue_35 : decode b_TextReader_takesValue 35 = .ok (.ior, 1) := by decide +kernel
theorem d_TextReader_takesValue_36 : decode b_TextReader_takesValue 36 = .ok (.iload_n 3, 1) := by decide +kernel
theorem d_TextReader_takesValue_37 : decode b_TextReader_takesValue 37 = .ok (.ior, 1) := by decide +kernel
theorem d_TextReader_takesValue_38 : decode b_TextReader_takesValue 38 = .ok (.invokevirtual 56, 3) := by decide +kernel
theorem d_TextReader_takesValue_41 : decode b_TextReader_takesValue 41 = .ok (.aload_n 0, 1) := by decide +kernel
theorem d_TextReader_takesValue_42 : decode b_TextReader_takesValue 42 = .ok (.iconst 5, 1) := by decide +kernel
theorem d_TextReader_takesValue_43 : decode b_TextReader_takesValue 43 = .ok (.putfield 16, 3) := by decide +kernel
theorem d_TextReader_takesValue_46 : decode b_TextReader_takesValue 46 = .ok (.iconst 1, 1) := by decide +kernel
theorem d_TextReader_takesValue_47 : decode b_TextReader_takesValue 47 = .ok (.ireturn, 1) := by decide +kernel
theorem d_TextReader_takesBehindOperation_0 : decode b_TextReader_takesBehindOperation 0 = .ok (.iload_n 1, 1) := by decide +kernel
theorem d_TextReader_takesBehindOperation_1 : decode b_TextReader_takesBehindOperation 1 = .ok (.bipush 44, 2) := by decide +kernel
theorem d_TextReader_takesBehindOperation_3 : decode b_TextReader_takesBehindOperation 3 = .ok (.if_icmp .ne 10, 3) := by decide +kernel
theorem d_TextReader_takesBehindOperation_6 : decode b_TextReader_takesBehindOperation 6 = .ok (.aload_n 0, 1) := by decide +kernel
theorem d_TextReader_takesBehindOperation_7 : decode b_TextReader_takesBehindOperation 7 = .ok (.iconst 3, 1) := by decide +kernel
theorem d_TextReader_takesBehindOperation_8 : decode b_TextReader_takesBehindOperation 8 = .ok (.putfield 16, 3) := by decide +kernel
theorem d_TextReader_takesBehindOperation_11 : decode b_TextReader_takesBehindOperation 11 = .ok (.iconst 1, 1) := by decide +kernel
theorem d_TextReader_takesBehindOperation_12 : decode b_TextReader_takesBehindOperation 12 = .ok (.ireturn, 1) := by decide +kernel
theorem d_TextReader_takesBehindOperation_13 : decode b_TextReader_takesBehindOperation 13 = .ok (.iload_n 1, 1) := by decide +kernel
theorem d_TextReader_takesBehindOperation_14 : decode b_TextReader_takesBehindOperation 14 = .ok (.bipush 41, 2) := by decide +kernel
theorem d_TextReader_takesBehindOperation_16 : decode b_TextReader_takesBehindOperation 16 = .ok (.if_icmp .ne 14, 3) := by decide +kernel
theorem d_TextReader_takesBehindOperation_19 : decode b_TextReader_takesBehindOperation 19 = .ok (.aload_n 2, 1) := by decide +kernel
theorem d_TextReader_takesBehindOperation_20 : decode b_TextReader_takesBehindOperation 20 = .ok (.invokevirtual 60, 3) := by decide +kernel
theorem d_TextReader_takesBehindOperation_23 : decode b_TextReader_takesBehindOperation 23 = .ok (.aload_n 0, 1) := by decide +kernel
theorem d_TextReader_takesBehindOperation_24 : decode b_TextReader_takesBehindOperation 24 = .ok (.iconst 1, 1) := by decide +kernel
theorem d_TextReader_takesBehindOperation_25 : decode b_TextReader_takesBehindOperation 25 = .ok (.putfield 16, 3) := by decide +kernel
theorem d_TextReader_takesBehindOperation_28 : decode b_TextReader_takesBehindOperation 28 = .ok (.iconst 1, 1) := by decide +kernel
theorem d_TextReader_takesBehindOperation_29 : decode b_TextReader_takesBehindOperation 29 = .ok (.ireturn, 1) := by decide +kernel
theorem d_TextReader_takesBehindOperation_30 : decode b_TextReader_takesBehindOperation 30 = .ok (.iconst 0, 1) := by decide +kernel
theorem d_TextReader_takesBehindOperation_31 : decode b_TextReader_takesBehindOperation 31 = .ok (.ireturn, 1) := by decide +kernel
theorem d_TextReader_takes_0 : decode b_TextReader_takes 0 = .ok (.aload_n 0, 1) := by decide +kernel
theorem d_TextReader_takes_1 : decode b_TextReader_takes 1 = .ok (.getfield 16, 3) := by decide +kernel
theorem d_TextReader_takes_4 : decode b_TextReader_takes 4 = .ok (.tableswitch 94 0 4 #[36, 43, 63, 80, 87], 36) := by decide +kernel
theorem d_TextReader_takes_40 : decode b_TextReader_takes 40 = .ok (.aload_n 0, 1) := by decide +kernel
theorem d_TextReader_takes_41 : decode b_TextReader_takes 41 = .ok (.iload_n 1, 1) := by decide +kernel
theorem d_TextReader_takes_42 : decode b_TextReader_takes 42 = .ok (.aload_n 2, 1) := by decide +kernel
theorem d_TextReader_takes_43 : decode b_TextReader_takes 43 = .ok (.invokevirtual 37, 3) := by decide +kernel
theorem d_TextReader_takes_46 : decode b_TextReader_takes 46 = .ok (.ireturn, 1) := by decide +kernel
theorem d_TextReader_takes_47 : decode b_TextReader_takes 47 = .ok (.iload_n 1, 1) := by decide +kernel
theorem d_TextReader_takes_48 : decode b_TextReader_takes 48 = .ok (.bipush 59, 2) := by decide +kernel
theorem d_TextReader_takes_50 : decode b_TextReader_takes 50 = .ok (.if_icmp .ne 10, 3) := by decide +kernel
theorem d_TextReader_takes_53 : decode b_TextReader_takes 53 = .ok (.aload_n 0, 1) := by decide +kernel
theorem d_TextReader_takes_54 : decode b_TextReader_takes 54 = .ok (.iconst 0, 1) := by decide +kernel
theorem d_TextReader_takes_55 : decode b_TextReader_takes 55 = .ok (.putfield 16, 3) := by decide +kernel
theorem d_TextReader_takes_58 : decode b_TextReader_takes 58 = .ok (.iconst 1, 1) := by decide +kernel
theorem d_TextReader_takes_59 : decode b_TextReader_takes 59 = .ok (.ireturn, 1) := by decide +kernel
theorem d_TextReader_takes_60 : decode b_TextReader_takes 60 = .ok (.aload_n 0, 1) := by decide +kernel
theorem d_TextReader_takes_61 : decode b_TextReader_takes 61 = .ok (.iload_n 1, 1) := by decide +kernel
theorem d_TextReader_takes_62 : decode b_TextReader_takes 62 = .ok (.aload_n 2, 1) := by decide +kernel
theorem d_TextReader_takes_63 : decode b_TextReader_takes 63 = .ok (.invokevirtual 37, 3) := by decide +kernel
theorem d_TextReader_takes_66 : decode b_TextReader_takes 66 = .ok (.ireturn, 1) := by decide +kernel
theorem d_TextReader_takes_67 : decode b_TextReader_takes 67 = .ok (.aload_n 0, 1) := by decide +kernel
theorem d_TextReader_takes_68 : decode b_TextReader_takes 68 = .ok (.iconst 3, 1) := by decide +kernel
theorem d_TextReader_takes_69 : decode b_TextReader_takes 69 = .ok (.putfield 16, 3) := by decide +kernel
theorem d_TextReader_takes_72 : decode b_TextReader_takes 72 = .ok (.iload_n 1, 1) := by decide +kernel
theorem d_TextReader_takes_73 : decode b_TextReader_takes 73 = .ok (.bipush 40, 2) := by decide +kernel
theorem d_TextReader_takes_75 : decode b_TextReader_takes 75 = .ok (.if_icmp .ne 7, 3) := by decide +kernel
theorem d_TextReader_takes_78 : decode b_TextReader_takes 78 = .ok (.iconst 1, 1) := by decide +kernel
theorem d_TextReader_takes_79 : decode b_TextReader_takes 79 = .ok (.goto 4, 3) := by decide +kernel
theorem d_TextReader_takes_82 : decode b_TextReader_takes 82 = .ok (.iconst 0, 1) := by decide +kernel
theorem d_TextReader_takes_83 : decode b_TextReader_takes 83 = .ok (.ireturn, 1) := by decide +kernel
theorem d_TextReader_takes_84 : decode b_TextReader_takes 84 = .ok (.aload_n 0, 1) := by decide +kernel
theorem d_TextReader_takes_85 : decode b_TextReader_takes 85 = .ok (.iload_n 1, 1) := by decide +kernel
theorem d_TextReader_takes_86 : decode b_TextReader_takes 86 = .ok (.aload_n 2, 1) := by decide +kernel
theorem d_TextReader_takes_87 : decode b_TextReader_takes 87 = .ok (.invokevirtual 40, 3) := by decide +kernel
theorem d_TextReader_takes_90 : decode b_TextReader_takes 90 = .ok (.ireturn, 1) := by decide +kernel
theorem d_TextReader_takes_91 : decode b_TextReader_takes 91 = .ok (.aload_n 0, 1) := by decide +kernel
theorem d_TextReader_takes_92 : decode b_TextReader_takes 92 = .ok (.iload_n 1, 1) := by decide +kernel
theorem d_TextReader_takes_93 : decode b_TextReader_takes 93 = .ok (.aload_n 2, 1) := by decide +kernel
theorem d_TextReader_takes_94 : decode b_TextReader_takes 94 = .ok (.invokevirtual 43, 3) := by decide +kernel
theorem d_TextReader_takes_97 : decode b_TextReader_takes 97 = .ok (.ireturn, 1) := by decide +kernel
theorem d_TextReader_takes_98 : decode b_TextReader_takes 98 = .ok (.aload_n 0, 1) := by decide +kernel
theorem d_TextReader_takes_99 : decode b_TextReader_takes 99 = .ok (.iload_n 1, 1) := by decide +kernel
theorem d_TextReader_takes_100 : decode b_TextReader_takes 100 = .ok (.aload_n 2, 1) := by decide +kernel
theorem d_TextReader_takes_101 : decode b_TextReader_takes 101 = .ok (.invokevirtual 46, 3) := by decide +kernel
theorem d_TextReader_takes_104 : decode b_TextReader_takes 104 = .ok (.ireturn, 1) := by decide +kernel
theorem d_TextReader_placeOfFault_0 : decode b_TextReader_placeOfFault 0 = .ok (.aload_n 2, 1) := by decide +kernel
theorem d_TextReader_placeOfFault_1 : decode b_TextReader_placeOfFault 1 = .ok (.invokevirtual 9, 3) := by decide +kernel
theorem d_TextReader_placeOfFault_4 : decode b_TextReader_placeOfFault 4 = .ok (.aload_n 0, 1) := by decide +kernel
theorem d_TextReader_placeOfFault_5 : decode b_TextReader_placeOfFault 5 = .ok (.iconst 0, 1) := by decide +kernel
theorem d_TextReader_placeOfFault_6 : decode b_TextReader_placeOfFault 6 = .ok (.putfield 16, 3) := by decide +kernel
theorem d_TextReader_placeOfFault_9 : decode b_TextReader_placeOfFault 9 = .ok (.iconst 0, 1) := by decide +kernel
theorem d_TextReader_placeOfFault_10 : decode b_TextReader_placeOfFault 10 = .ok (.istore_n 3, 1) := by decide +kernel
theorem d_TextReader_placeOfFault_11 : decode b_TextReader_placeOfFault 11 = .ok (.iload_n 3, 1) := by decide +kernel
theorem d_TextReader_placeOfFault_12 : decode b_TextReader_placeOfFault 12 = .ok (.aload_n 1, 1) := by decide +kernel
theorem d_TextReader_placeOfFault_13 : decode b_TextReader_placeOfFault 13 = .ok (.getfield 20, 3) := by decide +kernel
theorem d_TextReader_placeOfFault_16 : decode b_TextReader_placeOfFault 16 = .ok (.if_icmp .ge 41, 3) := by decide +kernel
theorem d_TextReader_placeOfFault_19 : decode b_TextReader_placeOfFault 19 = .ok (.aload_n 1, 1) := by decide +kernel
theorem d_TextReader_placeOfFault_20 : decode b_TextReader_placeOfFault 20 = .ok (.getfield 25, 3) := by decide +kernel
theorem d_TextReader_placeOfFault_23 : decode b_TextReader_placeOfFault 23 = .ok (.iload_n 3, 1) := by decide +kernel
theorem d_TextReader_placeOfFault_24 : decode b_TextReader_placeOfFault 24 = .ok (.baload, 1) := by decide +kernel
theorem d_TextReader_placeOfFault_25 : decode b_TextReader_placeOfFault 25 = .ok (.sipush 255, 3) := by decide +kernel
theorem d_TextReader_placeOfFault_28 : decode b_TextReader_placeOfFault 28 = .ok (.iand, 1) := by decide +kernel
theorem d_TextReader_placeOfFault_29 : decode b_TextReader_placeOfFault 29 = .ok (.istore 4, 2) := by decide +kernel
theorem d_TextReader_placeOfFault_31 : decode b_TextReader_placeOfFault 31 = .ok (.iload 4, 2) := by decide +kernel
theorem d_TextReader_placeOfFault_33 : decode b_TextReader_placeOfFault 33 = .ok (.invokestatic 29, 3) := by decide +kernel
theorem d_TextReader_placeOfFault_36 : decode b_TextReader_placeOfFault 36 = .ok (.ifCond .ne 15, 3) := by decide +kernel
theorem d_TextReader_placeOfFault_39 : decode b_TextReader_placeOfFault 39 = .ok (.aload_n 0, 1) := by decide +kernel
theorem d_TextReader_placeOfFault_40 : decode b_TextReader_placeOfFault 40 = .ok (.iload 4, 2) := by decide +kernel
theorem d_TextReader_placeOfFault_42 : decode b_TextReader_placeOfFault 42 = .ok (.aload_n 2, 1) := by decide +kernel
theorem d_TextReader_placeOfFault_43 : decode b_TextReader_placeOfFault 43 = .ok (.invokevirtual 33, 3) := by decide +kernel
theorem d_TextReader_placeOfFault_46 : decode b_TextReader_placeOfFault 46 = .ok (.ifCond .ne 5, 3) := by decide +kernel
theorem d_TextReader_placeOfFault_49 : decode b_TextReader_placeOfFault 49 = .ok (.iload_n 3, 1) := by decide +kernel
theorem d_TextReader_placeOfFault_50 : decode b_TextReader_placeOfFault 50 = .ok (.ireturn, 1) := by decide +kernel
theorem d_TextReader_placeOfFault_51 : decode b_TextReader_placeOfFault 51 = .ok (.iinc 3 1, 3) := by decide +kernel
theorem d_TextReader_placeOfFault_54 : decode b_TextReader_placeOfFault 54 = .ok (.goto (-43), 3) := by decide +kernel
theorem d_TextReader_placeOfFault_57 : decode b_TextReader_placeOfFault 57 = .ok (.aload_n 0, 1) := by decide +kernel
theorem d_TextReader_placeOfFault_58 : decode b_TextReader_placeOfFault 58 = .ok (.getfield 16, 3) := by decide +kernel
theorem d_TextReader_placeOfFault_61 : decode b_TextReader_placeOfFault 61 = .ok (.iconst 1, 1) := by decide +kernel
theorem d_TextReader_placeOfFault_62 : decode b_TextReader_placeOfFault 62 = .ok (.if_icmp .ne 7, 3) := by decide +kernel
theorem d_TextReader_placeOfFault_65 : decode b_TextReader_placeOfFault 65 = .ok (.iconst (-1), 1) := by decide +kernel
theorem d_TextReader_placeOfFault_66 : decode b_TextReader_placeOfFault 66 = .ok (.goto 7, 3) := by decide +kernel
theorem d_TextReader_placeOfFault_69 : decode b_TextReader_placeOfFault 69 = .ok (.aload_n 1, 1) := by decide +kernel
theorem d_TextReader_placeOfFault_70 : decode b_TextReader_placeOfFault 70 = .ok (.getfield 20, 3) := by decide +kernel
theorem d_TextReader_placeOfFault_73 : decode b_TextReader_placeOfFault 73 = .ok (.ireturn, 1) := by decide +kernel
theorem d_Tape_clear_0 : decode b_Tape_clear 0 = .ok (.aload_n 0, 1) := by decide +kernel
theorem d_Tape_clear_1 : decode b_Tape_clear 1 = .ok (.iconst 0, 1) := by decide +kernel
theorem d_Tape_clear_2 : decode b_Tape_clear 2 = .ok (.putfield 15, 3) := by decide +kernel
theorem d_Tape_clear_5 : decode b_Tape_clear 5 = .ok (.return_, 1) := by decide +kernel
theorem d_MT_read_0 : decode b_MT_read 0 = .ok (.aload_n 0, 1) := by decide +kernel
theorem d_MT_read_1 : decode b_MT_read 1 = .ok (.getfield 35, 3) := by decide +kernel
theorem d_MT_read_4 : decode b_MT_read 4 = .ok (.aload_n 0, 1) := by decide +kernel
theorem d_MT_read_5 : decode b_MT_read 5 = .ok (.getfield 28, 3) := by decide +kernel
theorem d_MT_read_8 : decode b_MT_read 8 = .ok (.aload_n 0, 1) := by decide +kernel
theorem d_MT_read_9 : decode b_MT_read 9 = .ok (.getfield 74, 3) := by decide +kernel
theorem d_MT_read_12 : decode b_MT_read 12 = .ok (.invokevirtual 81, 3) := by decide +kernel
theorem d_MT_read_15 : decode b_MT_read 15 = .ok (.istore_n 1, 1) := by decide +kernel
theorem d_MT_read_16 : decode b_MT_read 16 = .ok (.aload_n 0, 1) := by decide +kernel
theorem d_MT_read_17 : decode b_MT_read 17 = .ok (.getfield 28, 3) := by decide +kernel
theorem d_MT_read_20 : decode b_MT_read 20 = .ok (.invokevirtual 85, 3) := by decide +kernel
theorem d_MT_read_23 : decode b_MT_read 23 = .ok (.iload_n 1, 1) := by decide +kernel
theorem d_MT_read_24 : decode b_MT_read 24 = .ok (.iconst (-1), 1) := by decide +kernel
theorem d_MT_read_25 : decode b_MT_read 25 = .ok (.if_icmp .eq 7, 3) := by decide +kernel
theorem d_MT_read_28 : decode b_MT_read 28 = .ok (.iconst (-1), 1) := by decide +kernel
theorem d_MT_read_29 : decode b_MT_read 29 = .ok (.iload_n 1, 1) := by decide +kernel
theorem d_MT_read_30 : decode b_MT_read 30 = .ok (.isub, 1) := by decide +kernel
theorem d_MT_read_31 : decode b_MT_read 31 = .ok (.ireturn, 1) := by decide +kernel
theorem d_MT_read_32 : decode b_MT_read 32 = .ok (.aload_n 0, 1) := by decide +kernel
theorem d_MT_read_33 : decode b_MT_read 33 = .ok (.getfield 70, 3) := by decide +kernel
theorem d_MT_read_36 : decode b_MT_read 36 = .ok (.astore_n 2, 1) := by decide +kernel
theorem d_MT_read_37 : decode b_MT_read 37 = .ok (.aload_n 0, 1) := by decide +kernel
theorem d_MT_read_38 : decode b_MT_read 38 = .ok (.aload_n 0, 1) := by decide +kernel
theorem d_MT_read_39 : decode b_MT_read 39 = .ok (.getfield 74, 3) := by decide +kernel
theorem d_MT_read_42 : decode b_MT_read 42 = .ok (.putfield 70, 3) := by decide +kernel
theorem d_MT_read_45 : decode b_MT_read 45 = .ok (.aload_n 0, 1) := by decide +kernel
theorem d_MT_read_46 : decode b_MT_read 46 = .ok (.aload_n 2, 1) := by decide +kernel
theorem d_MT_read_47 : decode b_MT_read 47 = .ok (.putfield 74, 3) := by decide +kernel
theorem d_MT_read_50 : decode b_MT_read 50 = .ok (.aload_n 0, 1) := by decide +kernel
theorem d_MT_read_51 : decode b_MT_read 51 = .ok (.getfield 70, 3) := by decide +kernel
theorem d_MT_read_54 : decode b_MT_read 54 = .ok (.getfield 88, 3) := by decide +kernel
theorem d_MT_read_57 : decode b_MT_read 57 = .ok (.ireturn, 1) := by decide +kernel
theorem d_FaultList_clear_0 : decode b_FaultList_clear 0 = .ok (.aload_n 0, 1) := by decide +kernel
theorem d_FaultList_clear_1 : decode b_FaultList_clear 1 = .ok (.iconst 0, 1) := by decide +kernel
theorem d_FaultList_clear_2 : decode b_FaultList_clear 2 = .ok (.putfield 37, 3) := by decide +kernel
theorem d_FaultList_clear_5 : decode b_FaultList_clear 5 = .ok (.aload_n 0, 1) := by decide +kernel
theorem d_FaultList_clear_6 : decode b_FaultList_clear 6 = .ok (.iconst 0, 1) := by decide +kernel
theorem d_FaultList_clear_7 : decode b_FaultList_clear 7 = .ok (.putfield 40, 3) := by decide +kernel
theorem d_FaultList_clear_10 : decode b_FaultList_clear 10 = .ok (.return_, 1) := by decide +kernel
theorem d_MT_isCell_0 : decode b_MT_isCell 0 = .ok (.iload_n 1, 1) := by decide +kernel
theorem d_MT_isCell_1 : decode b_MT_isCell 1 = .ok (.ifCond .lt 15, 3) := by decide +kernel
theorem d_MT_isCell_4 : decode b_MT_isCell 4 = .ok (.iload_n 1, 1) := by decide +kernel
theorem d_MT_isCell_5 : decode b_MT_isCell 5 = .ok (.aload_n 0, 1) := by decide +kernel
theorem d_MT_isCell_6 : decode b_MT_isCell 6 = .ok (.getfield 22, 3) := by decide +kernel
theorem d_MT_isCell_9 : decode b_MT_isCell 9 = .ok (.if_icmp .ge 7, 3) := by decide +kernel
theorem d_MT_isCell_12 : decode b_MT_isCell 12 = .ok (.iconst 1, 1) := by decide +kernel
theorem d_MT_isCell_13 : decode b_MT_isCell 13 = .ok (.goto 4, 3) := by decide +kernel
theorem d_MT_isCell_16 : decode b_MT_isCell 16 = .ok (.iconst 0, 1) := by decide +kernel
theorem d_MT_isCell_17 : decode b_MT_isCell 17 = .ok (.ireturn, 1) := by decide +kernel
theorem d_MT_isPaired_0 : decode b_MT_isPaired 0 = .ok (.iload_n 0, 1) := by decide +kernel
theorem d_MT_isPaired_1 : decode b_MT_isPaired 1 = .ok (.bipush 10, 2) := by decide +kernel
theorem d_MT_isPaired_3 : decode b_MT_isPaired 3 = .ok (.if_icmp .lt 13, 3) := by decide +kernel
theorem d_MT_isPaired_6 : decode b_MT_isPaired 6 = .ok (.iload_n 0, 1) := by decide +kernel
theorem d_MT_isPaired_7 : decode b_MT_isPaired 7 = .ok (.bipush 13, 2) := by decide +kernel
theorem d_MT_isPaired_9 : decode b_MT_isPaired 9 = .ok (.if_icmp .gt 7, 3) := by decide +kernel
theorem d_MT_isPaired_12 : decode b_MT_isPaired 12 = .ok (.iconst 1, 1) := by decide +kernel
theorem d_MT_isPaired_13 : decode b_MT_isPaired 13 = .ok (.goto 4, 3) := by decide +kernel
theorem d_MT_isPaired_16 : decode b_MT_isPaired 16 = .ok (.iconst 0, 1) := by decide +kernel
theorem d_MT_isPaired_17 : decode b_MT_isPaired 17 = .ok (.ireturn, 1) := by decide +kernel
theorem d_MT_isKind_0 : decode b_MT_isKind 0 = .ok (.iload_n 0, 1) := by decide +kernel
theorem d_MT_isKind_1 : decode b_MT_isKind 1 = .ok (.ifCond .lt 13, 3) := by decide +kernel
theorem d_MT_isKind_4 : decode b_MT_isKind 4 = .ok (.iload_n 0, 1) := by decide +kernel
theorem d_MT_isKind_5 : decode b_MT_isKind 5 = .ok (.bipush 13, 2) := by decide +kernel
theorem d_MT_isKind_7 : decode b_MT_isKind 7 = .ok (.if_icmp .gt 7, 3) := by decide +kernel
theorem d_MT_isKind_10 : decode b_MT_isKind 10 = .ok (.iconst 1, 1) := by decide +kernel
theorem d_MT_isKind_11 : decode b_MT_isKind 11 = .ok (.goto 4, 3) := by decide +kernel
theorem d_MT_isKind_14 : decode b_MT_isKind 14 = .ok (.iconst 0, 1) := by decide +kernel
theorem d_MT_isKind_15 : decode b_MT_isKind 15 = .ok (.ireturn, 1) := by decide +kernel
theorem d_FaultList_add_0 : decode b_FaultList_add 0 = .ok (.aload_n 0, 1) := by decide +kernel
theorem d_FaultList_add_1 : decode b_FaultList_add 1 = .ok (.getfield 37, 3) := by decide +kernel
theorem d_FaultList_add_4 : decode b_FaultList_add 4 = .ok (.iconst 4, 1) := by decide +kernel
theorem d_FaultList_add_5 : decode b_FaultList_add 5 = .ok (.if_icmp .lt 4, 3) := by decide +kernel
theorem d_FaultList_add_8 : decode b_FaultList_add 8 = .ok (.return_, 1) := by decide +kernel
theorem d_FaultList_add_9 : decode b_FaultList_add 9 = .ok (.iload_n 1, 1) := by decide +kernel
theorem d_FaultList_add_10 : decode b_FaultList_add 10 = .ok (.invokestatic 43, 3) := by decide +kernel
theorem d_FaultList_add_13 : decode b_FaultList_add 13 = .ok (.ifCond .eq 7, 3) := by decide +kernel
theorem d_FaultList_add_16 : decode b_FaultList_add 16 = .ok (.iload_n 3, 1) := by decide +kernel
theorem d_FaultList_add_17 : decode b_FaultList_add 17 = .ok (.goto 4, 3) := by decide +kernel
theorem d_FaultList_add_20 : decode b_FaultList_add 20 = .ok (.iload_n 2, 1) := by decide +kernel
theorem d_FaultList_add_21 : decode b_FaultList_add 21 = .ok (.istore 4, 2) := by decide +kernel
theorem d_FaultList_add_23 : decode b_FaultList_add 23 = .ok (.iload_n 1, 1) := by decide +kernel
theorem d_FaultList_add_24 : decode b_FaultList_add 24 = .ok (.invokestatic 43, 3) := by decide +kernel
theorem d_FaultList_add_27 : decode b_FaultList_add 27 = .ok (.ifCond .eq 14, 3) := by decide +kernel
