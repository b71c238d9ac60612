theorem d_RepairPlan_isBetter_56 : decode b_RepairPlan_isBetter 56 = .ok (.iconst 0, 1) := by decide +kernel
theorem d_RepairPlan_isBetter_57 : decode b_RepairPlan_isBetter 57 = .ok (.ireturn, 1) := by decide +kernel
theorem d_RepairPlan_isBetter_58 : decode b_RepairPlan_isBetter 58 = .ok (.iload_n 1, 1) := by decide +kernel
theorem d_RepairPlan_isBetter_59 : decode b_RepairPlan_isBetter 59 = .ok (.aload_n 0, 1) := by decide +kernel
theorem d_RepairPlan_isBetter_60 : decode b_RepairPlan_isBetter 60 = .ok (.getfield 39, 3) := by decide +kernel
theorem d_RepairPlan_isBetter_63 : decode b_RepairPlan_isBetter 63 = .ok (.ixor, 1) := by decide +kernel
theorem d_RepairPlan_isBetter_64 : decode b_RepairPlan_isBetter 64 = .ok (.istore 4, 2) := by decide +kernel
theorem d_RepairPlan_isBetter_66 : decode b_RepairPlan_isBetter 66 = .ok (.iload 4, 2) := by decide +kernel
theorem d_RepairPlan_isBetter_68 : decode b_RepairPlan_isBetter 68 = .ok (.iload 4, 2) := by decide +kernel
theorem d_RepairPlan_isBetter_70 : decode b_RepairPlan_isBetter 70 = .ok (.ineg, 1) := by decide +kernel
theorem d_RepairPlan_isBetter_71 : decode b_RepairPlan_isBetter 71 = .ok (.iand, 1) := by decide +kernel
theorem d_RepairPlan_isBetter_72 : decode b_RepairPlan_isBetter 72 = .ok (.istore 5, 2) := by decide +kernel
theorem d_RepairPlan_isBetter_74 : decode b_RepairPlan_isBetter 74 = .ok (.iload_n 1, 1) := by decide +kernel
theorem d_RepairPlan_isBetter_75 : decode b_RepairPlan_isBetter 75 = .ok (.iload 5, 2) := by decide +kernel
theorem d_RepairPlan_isBetter_77 : decode b_RepairPlan_isBetter 77 = .ok (.iand, 1) := by decide +kernel
theorem d_RepairPlan_isBetter_78 : decode b_RepairPlan_isBetter 78 = .ok (.ifCond .eq 7, 3) := by decide +kernel
theorem d_RepairPlan_isBetter_81 : decode b_RepairPlan_isBetter 81 = .ok (.iconst 1, 1) := by decide +kernel
theorem d_RepairPlan_isBetter_82 : decode b_RepairPlan_isBetter 82 = .ok (.goto 4, 3) := by decide +kernel
theorem d_RepairPlan_isBetter_85 : decode b_RepairPlan_isBetter 85 = .ok (.iconst 0, 1) := by decide +kernel
theorem d_RepairPlan_isBetter_86 : decode b_RepairPlan_isBetter 86 = .ok (.ireturn, 1) := by decide +kernel
theorem d_RepairPlan_make_0 : decode b_RepairPlan_make 0 = .ok (.aload_n 0, 1) := by decide +kernel
theorem d_RepairPlan_make_1 : decode b_RepairPlan_make 1 = .ok (.aload_n 1, 1) := by decide +kernel
theorem d_RepairPlan_make_2 : decode b_RepairPlan_make 2 = .ok (.invokevirtual 31, 3) := by decide +kernel
theorem d_RepairPlan_make_5 : decode b_RepairPlan_make 5 = .ok (.aload_n 0, 1) := by decide +kernel
theorem d_RepairPlan_make_6 : decode b_RepairPlan_make 6 = .ok (.iconst 0, 1) := by decide +kernel
theorem d_RepairPlan_make_7 : decode b_RepairPlan_make 7 = .ok (.putfield 35, 3) := by decide +kernel
theorem d_RepairPlan_make_10 : decode b_RepairPlan_make 10 = .ok (.aload_n 0, 1) := by decide +kernel
theorem d_RepairPlan_make_11 : decode b_RepairPlan_make 11 = .ok (.iconst 0, 1) := by decide +kernel
theorem d_RepairPlan_make_12 : decode b_RepairPlan_make 12 = .ok (.putfield 39, 3) := by decide +kernel
theorem d_RepairPlan_make_15 : decode b_RepairPlan_make 15 = .ok (.aload_n 0, 1) := by decide +kernel
theorem d_RepairPlan_make_16 : decode b_RepairPlan_make 16 = .ok (.iconst 0, 1) := by decide +kernel
theorem d_RepairPlan_make_17 : decode b_RepairPlan_make 17 = .ok (.putfield 42, 3) := by decide +kernel
theorem d_RepairPlan_make_20 : decode b_RepairPlan_make 20 = .ok (.aload_n 0, 1) := by decide +kernel
theorem d_RepairPlan_make_21 : decode b_RepairPlan_make 21 = .ok (.aload_n 0, 1) := by decide +kernel
theorem d_RepairPlan_make_22 : decode b_RepairPlan_make 22 = .ok (.iconst 0, 1) := by decide +kernel
theorem d_RepairPlan_make_23 : decode b_RepairPlan_make 23 = .ok (.invokevirtual 45, 3) := by decide +kernel
theorem d_RepairPlan_make_26 : decode b_RepairPlan_make 26 = .ok (.invokestatic 49, 3) := by decide +kernel
theorem d_RepairPlan_make_29 : decode b_RepairPlan_make 29 = .ok (.i2l, 1) := by decide +kernel
theorem d_RepairPlan_make_30 : decode b_RepairPlan_make 30 = .ok (.lload 4, 2) := by decide +kernel
theorem d_RepairPlan_make_32 : decode b_RepairPlan_make 32 = .ok (.lcmp, 1) := by decide +kernel
theorem d_RepairPlan_make_33 : decode b_RepairPlan_make 33 = .ok (.ifCond .gt 7, 3) := by decide +kernel
theorem d_RepairPlan_make_36 : decode b_RepairPlan_make 36 = .ok (.iconst 1, 1) := by decide +kernel
theorem d_RepairPlan_make_37 : decode b_RepairPlan_make 37 = .ok (.goto 4, 3) := by decide +kernel
theorem d_RepairPlan_make_40 : decode b_RepairPlan_make 40 = .ok (.iconst 0, 1) := by decide +kernel
theorem d_RepairPlan_make_41 : decode b_RepairPlan_make 41 = .ok (.putfield 54, 3) := by decide +kernel
theorem d_RepairPlan_make_44 : decode b_RepairPlan_make 44 = .ok (.aload_n 0, 1) := by decide +kernel
theorem d_RepairPlan_make_45 : decode b_RepairPlan_make 45 = .ok (.getfield 54, 3) := by decide +kernel
theorem d_RepairPlan_make_48 : decode b_RepairPlan_make 48 = .ok (.ifCond .ne 6, 3) := by decide +kernel
theorem d_RepairPlan_make_51 : decode b_RepairPlan_make 51 = .ok (.bipush (-2), 2) := by decide +kernel
theorem d_RepairPlan_make_53 : decode b_RepairPlan_make 53 = .ok (.ireturn, 1) := by decide +kernel
theorem d_RepairPlan_make_54 : decode b_RepairPlan_make 54 = .ok (.iconst 0, 1) := by decide +kernel
theorem d_RepairPlan_make_55 : decode b_RepairPlan_make 55 = .ok (.istore 6, 2) := by decide +kernel
theorem d_RepairPlan_make_57 : decode b_RepairPlan_make 57 = .ok (.iload 6, 2) := by decide +kernel
theorem d_RepairPlan_make_59 : decode b_RepairPlan_make 59 = .ok (.aload_n 0, 1) := by decide +kernel
theorem d_RepairPlan_make_60 : decode b_RepairPlan_make 60 = .ok (.getfield 24, 3) := by decide +kernel
theorem d_RepairPlan_make_63 : decode b_RepairPlan_make 63 = .ok (.if_icmp .ge 63, 3) := by decide +kernel
theorem d_RepairPlan_make_66 : decode b_RepairPlan_make 66 = .ok (.aload_n 0, 1) := by decide +kernel
theorem d_RepairPlan_make_67 : decode b_RepairPlan_make 67 = .ok (.iload 6, 2) := by decide +kernel
theorem d_RepairPlan_make_69 : decode b_RepairPlan_make 69 = .ok (.invokevirtual 45, 3) := by decide +kernel
theorem d_RepairPlan_make_72 : decode b_RepairPlan_make 72 = .ok (.istore 7, 2) := by decide +kernel
theorem d_RepairPlan_make_74 : decode b_RepairPlan_make 74 = .ok (.iload 6, 2) := by decide +kernel
theorem d_RepairPlan_make_76 : decode b_RepairPlan_make 76 = .ok (.invokestatic 49, 3) := by decide +kernel
theorem d_RepairPlan_make_79 : decode b_RepairPlan_make 79 = .ok (.iload_n 3, 1) := by decide +kernel
theorem d_RepairPlan_make_80 : decode b_RepairPlan_make 80 = .ok (.if_icmp .gt 40, 3) := by decide +kernel
theorem d_RepairPlan_make_83 : decode b_RepairPlan_make 83 = .ok (.iload 7, 2) := by decide +kernel
theorem d_RepairPlan_make_85 : decode b_RepairPlan_make 85 = .ok (.invokestatic 49, 3) := by decide +kernel
theorem d_RepairPlan_make_88 : decode b_RepairPlan_make 88 = .ok (.iload_n 2, 1) := by decide +kernel
theorem d_RepairPlan_make_89 : decode b_RepairPlan_make 89 = .ok (.if_icmp .gt 31, 3) := by decide +kernel
theorem d_RepairPlan_make_92 : decode b_RepairPlan_make 92 = .ok (.aload_n 0, 1) := by decide +kernel
theorem d_RepairPlan_make_93 : decode b_RepairPlan_make 93 = .ok (.iload 7, 2) := by decide +kernel
theorem d_RepairPlan_make_95 : decode b_RepairPlan_make 95 = .ok (.iload 6, 2) := by decide +kernel
theorem d_RepairPlan_make_97 : decode b_RepairPlan_make 97 = .ok (.invokevirtual 57, 3) := by decide +kernel
theorem d_RepairPlan_make_100 : decode b_RepairPlan_make 100 = .ok (.ifCond .eq 20, 3) := by decide +kernel
theorem d_RepairPlan_make_103 : decode b_RepairPlan_make 103 = .ok (.aload_n 0, 1) := by decide +kernel
theorem d_RepairPlan_make_104 : decode b_RepairPlan_make 104 = .ok (.iconst 1, 1) := by decide +kernel
theorem d_RepairPlan_make_105 : decode b_RepairPlan_make 105 = .ok (.putfield 35, 3) := by decide +kernel
theorem d_RepairPlan_make_108 : decode b_RepairPlan_make 108 = .ok (.aload_n 0, 1) := by decide +kernel
theorem d_RepairPlan_make_109 : decode b_RepairPlan_make 109 = .ok (.iload 7, 2) := by decide +kernel
theorem d_RepairPlan_make_111 : decode b_RepairPlan_make 111 = .ok (.putfield 39, 3) := by decide +kernel
theorem d_RepairPlan_make_114 : decode b_RepairPlan_make 114 = .ok (.aload_n 0, 1) := by decide +kernel
theorem d_RepairPlan_make_115 : decode b_RepairPlan_make 115 = .ok (.iload 6, 2) := by decide +kernel
theorem d_RepairPlan_make_117 : decode b_RepairPlan_make 117 = .ok (.putfield 42, 3) := by decide +kernel
theorem d_RepairPlan_make_120 : decode b_RepairPlan_make 120 = .ok (.iinc 6 1, 3) := by decide +kernel
theorem d_RepairPlan_make_123 : decode b_RepairPlan_make 123 = .ok (.goto (-66), 3) := by decide +kernel
theorem d_RepairPlan_make_126 : decode b_RepairPlan_make 126 = .ok (.aload_n 0, 1) := by decide +kernel
theorem d_RepairPlan_make_127 : decode b_RepairPlan_make 127 = .ok (.getfield 35, 3) := by decide +kernel
theorem d_RepairPlan_make_130 : decode b_RepairPlan_make 130 = .ok (.ifCond .eq 17, 3) := by decide +kernel
theorem d_RepairPlan_make_133 : decode b_RepairPlan_make 133 = .ok (.aload_n 0, 1) := by decide +kernel
theorem d_RepairPlan_make_134 : decode b_RepairPlan_make 134 = .ok (.getfield 39, 3) := by decide +kernel
theorem d_RepairPlan_make_137 : decode b_RepairPlan_make 137 = .ok (.aload_n 0, 1) := by decide +kernel
theorem d_RepairPlan_make_138 : decode b_RepairPlan_make 138 = .ok (.getfield 42, 3) := by decide +kernel
theorem d_RepairPlan_make_141 : decode b_RepairPlan_make 141 = .ok (.invokestatic 61, 3) := by decide +kernel
theorem d_RepairPlan_make_144 : decode b_RepairPlan_make 144 = .ok (.goto 4, 3) := by decide +kernel
theorem d_RepairPlan_make_147 : decode b_RepairPlan_make 147 = .ok (.iconst (-1), 1) := by decide +kernel
theorem d_RepairPlan_make_148 : decode b_RepairPlan_make 148 = .ok (.ireturn, 1) := by decide +kernel
theorem d_MT_repair_0 : decode b_MT_repair 0 = .ok (.iload_n 1, 1) := by decide +kernel
theorem d_MT_repair_1 : decode b_MT_repair 1 = .ok (.invokestatic 173, 3) := by decide +kernel
theorem d_MT_repair_4 : decode b_MT_repair 4 = .ok (.ifCond .eq 10, 3) := by decide +kernel
theorem d_MT_repair_7 : decode b_MT_repair 7 = .ok (.iload_n 2, 1) := by decide +kernel
theorem d_MT_repair_8 : decode b_MT_repair 8 = .ok (.invokestatic 173, 3) := by decide +kernel
theorem d_MT_repair_11 : decode b_MT_repair 11 = .ok (.ifCond .ne 13, 3) := by decide +kernel
theorem d_MT_repair_14 : decode b_MT_repair 14 = .ok (.new 116, 3) := by decide +kernel
theorem d_MT_repair_17 : decode b_MT_repair 17 = .ok (.dup, 1) := by decide +kernel
theorem d_MT_repair_18 : decode b_MT_repair 18 = .ok (.ldc 176, 2) := by decide +kernel
theorem d_MT_repair_20 : decode b_MT_repair 20 = .ok (.invokespecial 120, 3) := by decide +kernel
theorem d_MT_repair_23 : decode b_MT_repair 23 = .ok (.athrow, 1) := by decide +kernel
theorem d_MT_repair_24 : decode b_MT_repair 24 = .ok (.lload_n 3, 1) := by decide +kernel
theorem d_MT_repair_25 : decode b_MT_repair 25 = .ok (.lconst 0, 1) := by decide +kernel
theorem d_MT_repair_26 : decode b_MT_repair 26 = .ok (.lcmp, 1) := by decide +kernel
theorem d_MT_repair_27 : decode b_MT_repair 27 = .ok (.ifCond .ge 13, 3) := by decide +kernel
theorem d_MT_repair_30 : decode b_MT_repair 30 = .ok (.new 116, 3) := by decide +kernel
theorem d_MT_repair_33 : decode b_MT_repair 33 = .ok (.dup, 1) := by decide +kernel
theorem d_MT_repair_34 : decode b_MT_repair 34 = .ok (.ldc 178, 2) := by decide +kernel
theorem d_MT_repair_36 : decode b_MT_repair 36 = .ok (.invokespecial 120, 3) := by decide +kernel
theorem d_MT_repair_39 : decode b_MT_repair 39 = .ok (.athrow, 1) := by decide +kernel
theorem d_MT_repair_40 : decode b_MT_repair 40 = .ok (.aload_n 0, 1) := by decide +kernel
theorem d_MT_repair_41 : decode b_MT_repair 41 = .ok (.getfield 63, 3) := by decide +kernel
theorem d_MT_repair_44 : decode b_MT_repair 44 = .ok (.aload_n 0, 1) := by decide +kernel
theorem d_MT_repair_45 : decode b_MT_repair 45 = .ok (.getfield 56, 3) := by decide +kernel
theorem d_MT_repair_48 : decode b_MT_repair 48 = .ok (.getfield 134, 3) := by decide +kernel
theorem d_MT_repair_51 : decode b_MT_repair 51 = .ok (.iload_n 1, 1) := by decide +kernel
theorem d_MT_repair_52 : decode b_MT_repair 52 = .ok (.iload_n 2, 1) := by decide +kernel
theorem d_MT_repair_53 : decode b_MT_repair 53 = .ok (.lload_n 3, 1) := by decide +kernel
theorem d_MT_repair_54 : decode b_MT_repair 54 = .ok (.invokevirtual 180, 3) := by decide +kernel
theorem d_MT_repair_57 : decode b_MT_repair 57 = .ok (.ireturn, 1) := by decide +kernel
theorem d_RepairPlan_isBlown_0 : decode b_RepairPlan_isBlown 0 = .ok (.aload_n 0, 1) := by decide +kernel
theorem d_RepairPlan_isBlown_1 : decode b_RepairPlan_isBlown 1 = .ok (.getfield 39, 3) := by decide +kernel
theorem d_RepairPlan_isBlown_4 : decode b_RepairPlan_isBlown 4 = .ok (.aload_n 0, 1) := by decide +kernel
theorem d_RepairPlan_isBlown_5 : decode b_RepairPlan_isBlown 5 = .ok (.getfield 42, 3) := by decide +kernel
theorem d_RepairPlan_isBlown_8 : decode b_RepairPlan_isBlown 8 = .ok (.aload_n 0, 1) := by decide +kernel
theorem d_RepairPlan_isBlown_9 : decode b_RepairPlan_isBlown 9 = .ok (.getfield 15, 3) := by decide +kernel
theorem d_RepairPlan_isBlown_12 : decode b_RepairPlan_isBlown 12 = .ok (.ishl, 1) := by decide +kernel
theorem d_RepairPlan_isBlown_13 : decode b_RepairPlan_isBlown 13 = .ok (.ior, 1) := by decide +kernel
theorem d_RepairPlan_isBlown_14 : decode b_RepairPlan_isBlown 14 = .ok (.istore_n 2, 1) := by decide +kernel
theorem d_RepairPlan_isBlown_15 : decode b_RepairPlan_isBlown 15 = .ok (.iload_n 2, 1) := by decide +kernel
theorem d_RepairPlan_isBlown_16 : decode b_RepairPlan_isBlown 16 = .ok (.iload_n 1, 1) := by decide +kernel
theorem d_RepairPlan_isBlown_17 : decode b_RepairPlan_isBlown 17 = .ok (.ishr, 1) := by decide +kernel
theorem d_RepairPlan_isBlown_18 : decode b_RepairPlan_isBlown 18 = .ok (.iconst 1, 1) := by decide +kernel
theorem d_RepairPlan_isBlown_19 : decode b_RepairPlan_isBlown 19 = .ok (.iand, 1) := by decide +kernel
theorem d_RepairPlan_isBlown_20 : decode b_RepairPlan_isBlown 20 = .ok (.ifCond .eq 7, 3) := by decide +kernel
theorem d_RepairPlan_isBlown_23 : decode b_RepairPlan_isBlown 23 = .ok (.iconst 1, 1) := by decide +kernel
theorem d_RepairPlan_isBlown_24 : decode b_RepairPlan_isBlown 24 = .ok (.goto 4, 3) := by decide +kernel
theorem d_RepairPlan_isBlown_27 : decode b_RepairPlan_isBlown 27 = .ok (.iconst 0, 1) := by decide +kernel
theorem d_RepairPlan_isBlown_28 : decode b_RepairPlan_isBlown 28 = .ok (.ireturn, 1) := by decide +kernel
theorem d_RepairPlan_fuseOfSpare_0 : decode b_RepairPlan_fuseOfSpare 0 = .ok (.iconst 0, 1) := by decide +kernel
theorem d_RepairPlan_fuseOfSpare_1 : decode b_RepairPlan_fuseOfSpare 1 = .ok (.istore_n 2, 1) := by decide +kernel
theorem d_RepairPlan_fuseOfSpare_2 : decode b_RepairPlan_fuseOfSpare 2 = .ok (.iconst 0, 1) := by decide +kernel
theorem d_RepairPlan_fuseOfSpare_3 : decode b_RepairPlan_fuseOfSpare 3 = .ok (.istore_n 3, 1) := by decide +kernel
theorem d_RepairPlan_fuseOfSpare_4 : decode b_RepairPlan_fuseOfSpare 4 = .ok (.iload_n 3, 1) := by decide +kernel
theorem d_RepairPlan_fuseOfSpare_5 : decode b_RepairPlan_fuseOfSpare 5 = .ok (.aload_n 0, 1) := by decide +kernel
theorem d_RepairPlan_fuseOfSpare_6 : decode b_RepairPlan_fuseOfSpare 6 = .ok (.getfield 21, 3) := by decide +kernel
theorem d_RepairPlan_fuseOfSpare_9 : decode b_RepairPlan_fuseOfSpare 9 = .ok (.if_icmp .ge 27, 3) := by decide +kernel
theorem d_RepairPlan_fuseOfSpare_12 : decode b_RepairPlan_fuseOfSpare 12 = .ok (.aload_n 0, 1) := by decide +kernel
theorem d_RepairPlan_fuseOfSpare_13 : decode b_RepairPlan_fuseOfSpare 13 = .ok (.iload_n 3, 1) := by decide +kernel
theorem d_RepairPlan_fuseOfSpare_14 : decode b_RepairPlan_fuseOfSpare 14 = .ok (.invokevirtual 64, 3) := by decide +kernel
theorem d_RepairPlan_fuseOfSpare_17 : decode b_RepairPlan_fuseOfSpare 17 = .ok (.ifCond .eq 13, 3) := by decide +kernel
theorem d_RepairPlan_fuseOfSpare_20 : decode b_RepairPlan_fuseOfSpare 20 = .ok (.iload_n 2, 1) := by decide +kernel
theorem d_RepairPlan_fuseOfSpare_21 : decode b_RepairPlan_fuseOfSpare 21 = .ok (.iload_n 1, 1) := by decide +kernel
theorem d_RepairPlan_fuseOfSpare_22 : decode b_RepairPlan_fuseOfSpare 22 = .ok (.if_icmp .ne 5, 3) := by decide +kernel
theorem d_RepairPlan_fuseOfSpare_25 : decode b_RepairPlan_fuseOfSpare 25 = .ok (.iload_n 3, 1) := by decide +kernel
theorem d_RepairPlan_fuseOfSpare_26 : decode b_RepairPlan_fuseOfSpare 26 = .ok (.ireturn, 1) := by decide +kernel
theorem d_RepairPlan_fuseOfSpare_27 : decode b_RepairPlan_fuseOfSpare 27 = .ok (.iinc 2 1, 3) := by decide +kernel
theorem d_RepairPlan_fuseOfSpare_30 : decode b_RepairPlan_fuseOfSpare 30 = .ok (.iinc 3 1, 3) := by decide +kernel
theorem d_RepairPlan_fuseOfSpare_33 : decode b_RepairPlan_fuseOfSpare 33 = .ok (.goto (-29), 3) := by decide +kernel
theorem d_RepairPlan_fuseOfSpare_36 : decode b_RepairPlan_fuseOfSpare 36 = .ok (.iconst (-1), 1) := by decide +kernel
theorem d_RepairPlan_fuseOfSpare_37 : decode b_RepairPlan_fuseOfSpare 37 = .ok (.ireturn, 1) := by decide +kernel
theorem d_MT_spare_0 : decode b_MT_spare 0 = .ok (.iload_n 2, 1) := by decide +kernel
theorem d_MT_spare_1 : decode b_MT_spare 1 = .ok (.ifCond .eq 18, 3) := by decide +kernel
theorem d_MT_spare_4 : decode b_MT_spare 4 = .ok (.iload_n 2, 1) := by decide +kernel
theorem d_MT_spare_5 : decode b_MT_spare 5 = .ok (.iconst 1, 1) := by decide +kernel
theorem d_MT_spare_6 : decode b_MT_spare 6 = .ok (.if_icmp .eq 13, 3) := by decide +kernel
theorem d_MT_spare_9 : decode b_MT_spare 9 = .ok (.new 98, 3) := by decide +kernel
theorem d_MT_spare_12 : decode b_MT_spare 12 = .ok (.dup, 1) := by decide +kernel
theorem d_MT_spare_13 : decode b_MT_spare 13 = .ok (.ldc 184, 2) := by decide +kernel
theorem d_MT_spare_15 : decode b_MT_spare 15 = .ok (.invokespecial 102, 3) := by decide +kernel
theorem d_MT_spare_18 : decode b_MT_spare 18 = .ok (.athrow, 1) := by decide +kernel
theorem d_MT_spare_19 : decode b_MT_spare 19 = .ok (.aload_n 0, 1) := by decide +kernel
theorem d_MT_spare_20 : decode b_MT_spare 20 = .ok (.getfield 63, 3) := by decide +kernel
theorem d_MT_spare_23 : decode b_MT_spare 23 = .ok (.iload_n 1, 1) := by decide +kernel
theorem d_MT_spare_24 : decode b_MT_spare 24 = .ok (.invokevirtual 186, 3) := by decide +kernel
theorem d_MT_spare_27 : decode b_MT_spare 27 = .ok (.istore_n 3, 1) := by decide +kernel
theorem d_MT_spare_28 : decode b_MT_spare 28 = .ok (.iload_n 3, 1) := by decide +kernel
theorem d_MT_spare_29 : decode b_MT_spare 29 = .ok (.iconst (-1), 1) := by decide +kernel
theorem d_MT_spare_30 : decode b_MT_spare 30 = .ok (.if_icmp .ne 13, 3) := by decide +kernel
theorem d_MT_spare_33 : decode b_MT_spare 33 = .ok (.new 98, 3) := by decide +kernel
theorem d_MT_spare_36 : decode b_MT_spare 36 = .ok (.dup, 1) := by decide +kernel
theorem d_MT_spare_37 : decode b_MT_spare 37 = .ok (.ldc 190, 2) := by decide +kernel
theorem d_MT_spare_39 : decode b_MT_spare 39 = .ok (.invokespecial 102, 3) := by decide +kernel
theorem d_MT_spare_42 : decode b_MT_spare 42 = .ok (.athrow, 1) := by decide +kernel
theorem d_MT_spare_43 : decode b_MT_spare 43 = .ok (.iload_n 3, 1) := by decide +kernel
theorem d_MT_spare_44 : decode b_MT_spare 44 = .ok (.aload_n 0, 1) := by decide +kernel
theorem d_MT_spare_45 : decode b_MT_spare 45 = .ok (.getfield 18, 3) := by decide +kernel
theorem d_MT_spare_48 : decode b_MT_spare 48 = .ok (.if_icmp .lt 7, 3) := by decide +kernel
theorem d_MT_spare_51 : decode b_MT_spare 51 = .ok (.iconst 1, 1) := by decide +kernel
theorem d_MT_spare_52 : decode b_MT_spare 52 = .ok (.goto 4, 3) := by decide +kernel
theorem d_MT_spare_55 : decode b_MT_spare 55 = .ok (.iconst 0, 1) := by decide +kernel
theorem d_MT_spare_56 : decode b_MT_spare 56 = .ok (.istore 4, 2) := by decide +kernel
theorem d_MT_spare_58 : decode b_MT_spare 58 = .ok (.iload_n 2, 1) := by decide +kernel
theorem d_MT_spare_59 : decode b_MT_spare 59 = .ok (.ifCond .ne 14, 3) := by decide +kernel
theorem d_MT_spare_62 : decode b_MT_spare 62 = .ok (.iload 4, 2) := by decide +kernel
theorem d_MT_spare_64 : decode b_MT_spare 64 = .ok (.ifCond .eq 7, 3) := by decide +kernel
theorem d_MT_spare_67 : decode b_MT_spare 67 = .ok (.iconst 1, 1) := by decide +kernel
theorem d_MT_spare_68 : decode b_MT_spare 68 = .ok (.goto 4, 3) := by decide +kernel
theorem d_MT_spare_71 : decode b_MT_spare 71 = .ok (.iconst 0, 1) := by decide +kernel
theorem d_MT_spare_72 : decode b_MT_spare 72 = .ok (.ireturn, 1) := by decide +kernel
theorem d_MT_spare_73 : decode b_MT_spare 73 = .ok (.iload 4, 2) := by decide +kernel
theorem d_MT_spare_75 : decode b_MT_spare 75 = .ok (.ifCond .eq 12, 3) := by decide +kernel
theorem d_MT_spare_78 : decode b_MT_spare 78 = .ok (.iload_n 3, 1) := by decide +kernel
theorem d_MT_spare_79 : decode b_MT_spare 79 = .ok (.aload_n 0, 1) := by decide +kernel
theorem d_MT_spare_80 : decode b_MT_spare 80 = .ok (.getfield 18, 3) := by decide +kernel
theorem d_MT_spare_83 : decode b_MT_spare 83 = .ok (.isub, 1) := by decide +kernel
theorem d_MT_spare_84 : decode b_MT_spare 84 = .ok (.goto 4, 3) := by decide +kernel
theorem d_MT_spare_87 : decode b_MT_spare 87 = .ok (.iload_n 3, 1) := by decide +kernel
theorem d_MT_spare_88 : decode b_MT_spare 88 = .ok (.ireturn, 1) := by decide +kernel
theorem d_MT_proved_0 : decode b_MT_proved 0 = .ok (.aload_n 0, 1) := by decide +kernel
theorem d_MT_proved_1 : decode b_MT_proved 1 = .ok (.getfield 63, 3) := by decide +kernel
theorem d_MT_proved_4 : decode b_MT_proved 4 = .ok (.getfield 192, 3) := by decide +kernel
theorem d_MT_proved_7 : decode b_MT_proved 7 = .ok (.ireturn, 1) := by decide +kernel
theorem d_MT_fuse_0 : decode b_MT_fuse 0 = .ok (.iload_n 1, 1) := by decide +kernel
theorem d_MT_fuse_1 : decode b_MT_fuse 1 = .ok (.ifCond .lt 14, 3) := by decide +kernel
theorem d_MT_fuse_4 : decode b_MT_fuse 4 = .ok (.iload_n 1, 1) := by decide +kernel
theorem d_MT_fuse_5 : decode b_MT_fuse 5 = .ok (.aload_n 0, 1) := by decide +kernel
theorem d_MT_fuse_6 : decode b_MT_fuse 6 = .ok (.getfield 63, 3) := by decide +kernel
theorem d_MT_fuse_9 : decode b_MT_fuse 9 = .ok (.getfield 196, 3) := by decide +kernel
theorem d_MT_fuse_12 : decode b_MT_fuse 12 = .ok (.if_icmp .lt 13, 3) := by decide +kernel
theorem d_MT_fuse_15 : decode b_MT_fuse 15 = .ok (.new 98, 3) := by decide +kernel
theorem d_MT_fuse_18 : decode b_MT_fuse 18 = .ok (.dup, 1) := by decide +kernel
theorem d_MT_fuse_19 : decode b_MT_fuse 19 = .ok (.ldc 199, 2) := by decide +kernel
theorem d_MT_fuse_21 : decode b_MT_fuse 21 = .ok (.invokespecial 102, 3) := by decide +kernel
theorem d_MT_fuse_24 : decode b_MT_fuse 24 = .ok (.athrow, 1) := by decide +kernel
theorem d_MT_fuse_25 : decode b_MT_fuse 25 = .ok (.aload_n 0, 1) := by decide +kernel
theorem d_MT_fuse_26 : decode b_MT_fuse 26 = .ok (.getfield 63, 3) := by decide +kernel
theorem d_MT_fuse_29 : decode b_MT_fuse 29 = .ok (.iload_n 1, 1) := by decide +kernel
theorem d_MT_fuse_30 : decode b_MT_fuse 30 = .ok (.invokevirtual 201, 3) := by decide +kernel
theorem d_MT_fuse_33 : decode b_MT_fuse 33 = .ok (.ifCond .eq 7, 3) := by decide +kernel
theorem d_MT_fuse_36 : decode b_MT_fuse 36 = .ok (.iconst 1, 1) := by decide +kernel
theorem d_MT_fuse_37 : decode b_MT_fuse 37 = .ok (.goto 4, 3) := by decide +kernel
theorem d_MT_fuse_40 : decode b_MT_fuse 40 = .ok (.iconst 0, 1) := by decide +kernel
theorem d_MT_fuse_41 : decode b_MT_fuse 41 = .ok (.ireturn, 1) := by decide +kernel
theorem d_MT_port_0 : decode b_MT_port 0 = .ok (.iload_n 1, 1) := by decide +kernel
theorem d_MT_port_1 : decode b_MT_port 1 = .ok (.iconst 1, 1) := by decide +kernel
theorem d_MT_port_2 : decode b_MT_port 2 = .ok (.if_icmp .eq 18, 3) := by decide +kernel
theorem d_MT_port_5 : decode b_MT_port 5 = .ok (.iload_n 1, 1) := by decide +kernel
theorem d_MT_port_6 : decode b_MT_port 6 = .ok (.iconst 2, 1) := by decide +kernel
theorem d_MT_port_7 : decode b_MT_port 7 = .ok (.if_icmp .eq 13, 3) := by decide +kernel
theorem d_MT_port_10 : decode b_MT_port 10 = .ok (.new 116, 3) := by decide +kernel
theorem d_MT_port_13 : decode b_MT_port 13 = .ok (.dup, 1) := by decide +kernel
theorem d_MT_port_14 : decode b_MT_port 14 = .ok (.ldc 204, 2) := by decide +kernel
theorem d_MT_port_16 : decode b_MT_port 16 = .ok (.invokespecial 120, 3) := by decide +kernel
theorem d_MT_port_19 : decode b_MT_port 19 = .ok (.athrow, 1) := by decide +kernel
theorem d_MT_port_20 : decode b_MT_port 20 = .ok (.aload_n 0, 1) := by decide +kernel
theorem d_MT_port_21 : decode b_MT_port 21 = .ok (.getfield 56, 3) := by decide +kernel
theorem d_MT_port_24 : decode b_MT_port 24 = .ok (.getfield 206, 3) := by decide +kernel
theorem d_MT_port_27 : decode b_MT_port 27 = .ok (.istore_n 2, 1) := by decide +kernel
theorem d_MT_port_28 : decode b_MT_port 28 = .ok (.aload_n 0, 1) := by decide +kernel
theorem d_MT_port_29 : decode b_MT_port 29 = .ok (.getfield 56, 3) := by decide +kernel
theorem d_MT_port_32 : decode b_MT_port 32 = .ok (.iload_n 1, 1) := by decide +kernel
theorem d_MT_port_33 : decode b_MT_port 33 = .ok (.putfield 206, 3) := by decide +kernel
theorem d_MT_port_36 : decode b_MT_port 36 = .ok (.iload_n 2, 1) := by decide +kernel
theorem d_MT_port_37 : decode b_MT_port 37 = .ok (.ireturn, 1) := by decide +kernel
theorem d_MT_ground_0 : decode b_MT_ground 0 = .ok (.iload_n 1, 1) := by decide +kernel
theorem d_MT_ground_1 : decode b_MT_ground 1 = .ok (.ifCond .lt 8, 3) := by decide +kernel
theorem d_MT_ground_4 : decode b_MT_ground 4 = .ok (.iload_n 1, 1) := by decide +kernel
theorem d_MT_ground_5 : decode b_MT_ground 5 = .ok (.iconst 4, 1) := by decide +kernel
theorem d_MT_ground_6 : decode b_MT_ground 6 = .ok (.if_icmp .lt 13, 3) := by decide +kernel
theorem d_MT_ground_9 : decode b_MT_ground 9 = .ok (.new 116, 3) := by decide +kernel
theorem d_MT_ground_12 : decode b_MT_ground 12 = .ok (.dup, 1) := by decide +kernel
theorem d_MT_ground_13 : decode b_MT_ground 13 = .ok (.ldc 209, 2) := by decide +kernel
theorem d_MT_ground_15 : decode b_MT_ground 15 = .ok (.invokespecial 120, 3) := by decide +kernel
theorem d_MT_ground_18 : decode b_MT_ground 18 = .ok (.athrow, 1) := by decide +kernel
theorem d_MT_ground_19 : decode b_MT_ground 19 = .ok (.aload_n 0, 1) := by decide +kernel
theorem d_MT_ground_20 : decode b_MT_ground 20 = .ok (.getfield 56, 3) := by decide +kernel
theorem d_MT_ground_23 : decode b_MT_ground 23 = .ok (.getfield 211, 3) := by decide +kernel
theorem d_MT_ground_26 : decode b_MT_ground 26 = .ok (.iload_n 1, 1) := by decide +kernel
theorem d_MT_ground_27 : decode b_MT_ground 27 = .ok (.if_icmp .eq 7, 3) := by decide +kernel
theorem d_MT_ground_30 : decode b_MT_ground 30 = .ok (.iconst 1, 1) := by decide +kernel
theorem d_MT_ground_31 : decode b_MT_ground 31 = .ok (.goto 4, 3) := by decide +kernel
theorem d_MT_ground_34 : decode b_MT_ground 34 = .ok (.iconst 0, 1) := by decide +kernel
theorem d_MT_ground_35 : decode b_MT_ground 35 = .ok (.istore_n 2, 1) := by decide +kernel
theorem d_MT_ground_36 : decode b_MT_ground 36 = .ok (.aload_n 0, 1) := by decide +kernel
theorem d_MT_ground_37 : decode b_MT_ground 37 = .ok (.getfield 56, 3) := by decide +kernel
theorem d_MT_ground_40 : decode b_MT_ground 40 = .ok (.iload_n 1, 1) := by decide +kernel
theorem d_MT_ground_41 : decode b_MT_ground 41 = .ok (.putfield 211, 3) := by decide +kernel
theorem d_MT_ground_44 : decode b_MT_ground 44 = .ok (.iload_n 2, 1) := by decide +kernel
theorem d_MT_ground_45 : decode b_MT_ground 45 = .ok (.ireturn, 1) := by decide +kernel
theorem d_RF_init_0 : decode b_RF_init 0 = .ok (.aload_n 0, 1) := by decide +kernel
theorem d_RF_init_1 : decode b_RF_init 1 = .ok (.invokespecial 1, 3) := by decide +kernel
theorem d_RF_init_4 : decode b_RF_init 4 = .ok (.aload_n 0, 1) := by decide +kernel
theorem d_RF_init_5 : decode b_RF_init 5 = .ok (.bipush 64, 2) := by decide +kernel
theorem d_RF_init_7 : decode b_RF_init 7 = .ok (.newarray .int, 2) := by decide +kernel
theorem d_RF_init_9 : decode b_RF_init 9 = .ok (.putfield 7, 3) := by decide +kernel
theorem d_RF_init_12 : decode b_RF_init 12 = .ok (.aload_n 0, 1) := by decide +kernel
theorem d_RF_init_13 : decode b_RF_init 13 = .ok (.iconst 4, 1) := by decide +kernel
theorem d_RF_init_14 : decode b_RF_init 14 = .ok (.newarray .int, 2) := by decide +kernel
theorem d_RF_init_16 : decode b_RF_init 16 = .ok (.putfield 13, 3) := by decide +kernel
theorem d_RF_init_19 : decode b_RF_init 19 = .ok (.aload_n 0, 1) := by decide +kernel
theorem d_RF_init_20 : decode b_RF_init 20 = .ok (.iconst 4, 1) := by decide +kernel
theorem d_RF_init_21 : decode b_RF_init 21 = .ok (.newarray .int, 2) := by decide +kernel
theorem d_RF_init_23 : decode b_RF_init 23 = .ok (.putfield 16, 3) := by decide +kernel
theorem d_RF_init_26 : decode b_RF_init 26 = .ok (.aload_n 0, 1) := by decide +kernel
theorem d_RF_init_27 : decode b_RF_init 27 = .ok (.iconst 4, 1) := by decide +kernel
theorem d_RF_init_28 : decode b_RF_init 28 = .ok (.newarray .int, 2) := by decide +kernel
theorem d_RF_init_30 : decode b_RF_init 30 = .ok (.putfield 19, 3) := by decide +kernel
theorem d_RF_init_33 : decode b_RF_init 33 = .ok (.aload_n 0, 1) := by decide +kernel
theorem d_RF_init_34 : decode b_RF_init 34 = .ok (.iconst 4, 1) := by decide +kernel
theorem d_RF_init_35 : decode b_RF_init 35 = .ok (.newarray .int, 2) := by decide +kernel
theorem d_RF_init_37 : decode b_RF_init 37 = .ok (.putfield 22, 3) := by decide +kernel
theorem d_RF_init_40 : decode b_RF_init 40 = .ok (.aload_n 0, 1) := by decide +kernel
theorem d_RF_init_41 : decode b_RF_init 41 = .ok (.iconst 4, 1) := by decide +kernel
theorem d_RF_init_42 : decode b_RF_init 42 = .ok (.newarray .int, 2) := by decide +kernel
theorem d_RF_init_44 : decode b_RF_init 44 = .ok (.putfield 25, 3) := by decide +kernel
theorem d_RF_init_47 : decode b_RF_init 47 = .ok (.aload_n 0, 1) := by decide +kernel
theorem d_RF_init_48 : decode b_RF_init 48 = .ok (.iconst 4, 1) := by decide +kernel
theorem d_RF_init_49 : decode b_RF_init 49 = .ok (.newarray .int, 2) := by decide +kernel
theorem d_RF_init_51 : decode b_RF_init 51 = .ok (.putfield 28, 3) := by decide +kernel
theorem d_RF_init_54 : decode b_RF_init 54 = .ok (.aload_n 0, 1) := by decide +kernel
theorem d_RF_init_55 : decode b_RF_init 55 = .ok (.iconst 4, 1) := by decide +kernel
theorem d_RF_init_56 : decode b_RF_init 56 = .ok (.newarray .int, 2) := by decide +kernel
theorem d_RF_init_58 : decode b_RF_init 58 = .ok (.putfield 31, 3) := by decide +kernel
theorem d_RF_init_61 : decode b_RF_init 61 = .ok (.aload_n 0, 1) := by decide +kernel
theorem d_RF_init_62 : decode b_RF_init 62 = .ok (.bipush 16, 2) := by decide +kernel
theorem d_RF_init_64 : decode b_RF_init 64 = .ok (.newarray .int, 2) := by decide +kernel
theorem d_RF_init_66 : decode b_RF_init 66 = .ok (.putfield 34, 3) := by decide +kernel
theorem d_RF_init_69 : decode b_RF_init 69 = .ok (.aload_n 0, 1) := by decide +kernel
theorem d_RF_init_70 : decode b_RF_init 70 = .ok (.bipush 16, 2) := by decide +kernel
theorem d_RF_init_72 : decode b_RF_init 72 = .ok (.newarray .int, 2) := by decide +kernel
theorem d_RF_init_74 : decode b_RF_init 74 = .ok (.putfield 37, 3) := by decide +kernel
theorem d_RF_init_77 : decode b_RF_init 77 = .ok (.aload_n 0, 1) := by decide +kernel
theorem d_RF_init_78 : decode b_RF_init 78 = .ok (.bipush 16, 2) := by decide +kernel
theorem d_RF_init_80 : decode b_RF_init 80 = .ok (.newarray .int, 2) := by decide +kernel
theorem d_RF_init_82 : decode b_RF_init 82 = .ok (.putfield 40, 3) := by decide +kernel
theorem d_RF_init_85 : decode b_RF_init 85 = .ok (.aload_n 0, 1) := by decide +kernel
theorem d_RF_init_86 : decode b_RF_init 86 = .ok (.bipush 16, 2) := by decide +kernel
theorem d_RF_init_88 : decode b_RF_init 88 = .ok (.newarray .int, 2) := by decide +kernel
theorem d_RF_init_90 : decode b_RF_init 90 = .ok (.putfield 43, 3) := by decide +kernel
theorem d_RF_init_93 : decode b_RF_init 93 = .ok (.aload_n 0, 1) := by decide +kernel
theorem d_RF_init_94 : decode b_RF_init 94 = .ok (.sipush 128, 3) := by decide +kernel
theorem d_RF_init_97 : decode b_RF_init 97 = .ok (.newarray .int, 2) := by decide +kernel
theorem d_RF_init_99 : decode b_RF_init 99 = .ok (.putfield 46, 3) := by decide +kernel
theorem d_RF_init_102 : decode b_RF_init 102 = .ok (.aload_n 0, 1) := by decide +kernel
theorem d_RF_init_103 : decode b_RF_init 103 = .ok (.bipush 16, 2) := by decide +kernel
theorem d_RF_init_105 : decode b_RF_init 105 = .ok (.newarray .int, 2) := by decide +kernel
theorem d_RF_init_107 : decode b_RF_init 107 = .ok (.putfield 49, 3) := by decide +kernel
theorem d_RF_init_110 : decode b_RF_init 110 = .ok (.aload_n 0, 1) := by decide +kernel
theorem d_RF_init_111 : decode b_RF_init 111 = .ok (.bipush 16, 2) := by decide +kernel
theorem d_RF_init_113 : decode b_RF_init 113 = .ok (.newarray .int, 2) := by decide +kernel
theorem d_RF_init_115 : decode b_RF_init 115 = .ok (.putfield 52, 3) := by decide +kernel
theorem d_RF_init_118 : decode b_RF_init 118 = .ok (.aload_n 0, 1) := by decide +kernel
theorem d_RF_init_119 : decode b_RF_init 119 = .ok (.sipush 128, 3) := by decide +kernel
theorem d_RF_init_122 : decode b_RF_init 122 = .ok (.newarray .int, 2) := by decide +kernel
theorem d_RF_init_124 : decode b_RF_init 124 = .ok (.putfield 55, 3) := by decide +kernel
theorem d_RF_init_127 : decode b_RF_init 127 = .ok (.aload_n 0, 1) := by decide +kernel
theorem d_RF_init_128 : decode b_RF_init 128 = .ok (.sipush 400, 3) := by decide +kernel
theorem d_RF_init_131 : decode b_RF_init 131 = .ok (.newarray .int, 2) := by decide +kernel
theorem d_RF_init_133 : decode b_RF_init 133 = .ok (.putfield 58, 3) := by decide +kernel
theorem d_RF_init_136 : decode b_RF_init 136 = .ok (.aload_n 0, 1) := by decide +kernel
theorem d_RF_init_137 : decode b_RF_init 137 = .ok (.sipush 1200, 3) := by decide +kernel
theorem d_RF_init_140 : decode b_RF_init 140 = .ok (.newarray .int, 2) := by decide +kernel
theorem d_RF_init_142 : decode b_RF_init 142 = .ok (.putfield 61, 3) := by decide +kernel
theorem d_RF_init_145 : decode b_RF_init 145 = .ok (.aload_n 0, 1) := by decide +kernel
theorem d_RF_init_146 : decode b_RF_init 146 = .ok (.iload_n 1, 1) := by decide +kernel
theorem d_RF_init_147 : decode b_RF_init 147 = .ok (.iconst 1, 1) := by decide +kernel
theorem d_RF_init_148 : decode b_RF_init 148 = .ok (.if_icmp .ge 7, 3) := by decide +kernel
theorem d_RF_init_151 : decode b_RF_init 151 = .ok (.iconst 1, 1) := by decide +kernel
theorem d_RF_init_152 : decode b_RF_init 152 = .ok (.goto 15, 3) := by decide +kernel
theorem d_RF_init_155 : decode b_RF_init 155 = .ok (.iload_n 1, 1) := by decide +kernel
theorem d_RF_init_156 : decode b_RF_init 156 = .ok (.bipush 16, 2) := by decide +kernel
theorem d_RF_init_158 : decode b_RF_init 158 = .ok (.if_icmp .le 8, 3) := by decide +kernel
theorem d_RF_init_161 : decode b_RF_init 161 = .ok (.bipush 16, 2) := by decide +kernel
theorem d_RF_init_163 : decode b_RF_init 163 = .ok (.goto 4, 3) := by decide +kernel
theorem d_RF_init_166 : decode b_RF_init 166 = .ok (.iload_n 1, 1) := by decide +kernel
theorem d_RF_init_167 : decode b_RF_init 167 = .ok (.putfield 64, 3) := by decide +kernel
theorem d_RF_init_170 : decode b_RF_init 170 = .ok (.aload_n 0, 1) := by decide +kernel
theorem d_RF_init_171 : decode b_RF_init 171 = .ok (.iload_n 2, 1) := by decide +kernel
theorem d_RF_init_172 : decode b_RF_init 172 = .ok (.iconst 1, 1) := by decide +kernel
theorem d_RF_init_173 : decode b_RF_init 173 = .ok (.if_icmp .ge 7, 3) := by decide +kernel
theorem d_RF_init_176 : decode b_RF_init 176 = .ok (.iconst 1, 1) := by decide +kernel
theorem d_RF_init_177 : decode b_RF_init 177 = .ok (.goto 13, 3) := by decide +kernel
theorem d_RF_init_180 : decode b_RF_init 180 = .ok (.iload_n 2, 1) := by decide +kernel
theorem d_RF_init_181 : decode b_RF_init 181 = .ok (.iconst 4, 1) := by decide +kernel
theorem d_RF_init_182 : decode b_RF_init 182 = .ok (.if_icmp .le 7, 3) := by decide +kernel
theorem d_RF_init_185 : decode b_RF_init 185 = .ok (.iconst 4, 1) := by decide +kernel
theorem d_RF_init_186 : decode b_RF_init 186 = .ok (.goto 4, 3) := by decide +kernel
theorem d_RF_init_189 : decode b_RF_init 189 = .ok (.iload_n 2, 1) := by decide +kernel
theorem d_RF_init_190 : decode b_RF_init 190 = .ok (.putfield 68, 3) := by decide +kernel
theorem d_RF_init_193 : decode b_RF_init 193 = .ok (.aload_n 0, 1) := by decide +kernel
theorem d_RF_init_194 : decode b_RF_init 194 = .ok (.iconst 1, 1) := by decide +kernel
theorem d_RF_init_195 : decode b_RF_init 195 = .ok (.putfield 71, 3) := by decide +kernel
theorem d_RF_init_198 : decode b_RF_init 198 = .ok (.iconst 0, 1) := by decide +kernel
theorem d_RF_init_199 : decode b_RF_init 199 = .ok (.istore_n 3, 1) := by decide +kernel
theorem d_RF_init_200 : decode b_RF_init 200 = .ok (.iload_n 3, 1) := by decide +kernel
theorem d_RF_init_201 : decode b_RF_init 201 = .ok (.bipush 16, 2) := by decide +kernel
theorem d_RF_init_203 : decode b_RF_init 203 = .ok (.if_icmp .ge 16, 3) := by decide +kernel
theorem d_RF_init_206 : decode b_RF_init 206 = .ok (.aload_n 0, 1) := by decide +kernel
theorem d_RF_init_207 : decode b_RF_init 207 = .ok (.getfield 34, 3) := by decide +kernel
theorem d_RF_init_210 : decode b_RF_init 210 = .ok (.iload_n 3, 1) := by decide +kernel
theorem d_RF_init_211 : decode b_RF_init 211 = .ok (.iload_n 3, 1) := by decide +kernel
theorem d_RF_init_212 : decode b_RF_init 212 = .ok (.iastore, 1) := by decide +kernel
theorem d_RF_init_213 : decode b_RF_init 213 = .ok (.iinc 3 1, 3) := by decide +kernel
theorem d_RF_init_216 : decode b_RF_init 216 = .ok (.goto (-16), 3) := by decide +kernel
theorem d_RF_init_219 : decode b_RF_init 219 = .ok (.return_, 1) := by decide +kernel
theorem d_RF_thrown_0 : decode b_RF_thrown 0 = .ok (.aload_n 0, 1) := by decide +kernel
theorem d_RF_thrown_1 : decode b_RF_thrown 1 = .ok (.getfield 74, 3) := by decide +kernel
theorem d_RF_thrown_4 : decode b_RF_thrown 4 = .ok (.ireturn, 1) := by decide +kernel
theorem d_RF_unit_0 : decode b_RF_unit 0 = .ok (.aload_n 0, 1) := by decide +kernel
theorem d_RF_unit_1 : decode b_RF_unit 1 = .ok (.iconst 0, 1) := by decide +kernel
theorem d_RF_unit_2 : decode b_RF_unit 2 = .ok (.putfield 74, 3) := by decide +kernel
theorem d_RF_unit_5 : decode b_RF_unit 5 = .ok (.aload_n 0, 1) := by decide +kernel
theorem d_RF_unit_6 : decode b_RF_unit 6 = .ok (.getfield 77, 3) := by decide +kernel
theorem d_RF_unit_9 : decode b_RF_unit 9 = .ok (.sipush 400, 3) := by decide +kernel
theorem d_RF_unit_12 : decode b_RF_unit 12 = .ok (.if_icmp .ge 7, 3) := by decide +kernel
theorem d_RF_unit_15 : decode b_RF_unit 15 = .ok (.iconst 1, 1) := by decide +kernel
theorem d_RF_unit_16 : decode b_RF_unit 16 = .ok (.goto 4, 3) := by decide +kernel
theorem d_RF_unit_19 : decode b_RF_unit 19 = .ok (.iconst 0, 1) := by decide +kernel
theorem d_RF_unit_20 : decode b_RF_unit 20 = .ok (.istore_n 2, 1) := by decide +kernel
theorem d_RF_unit_21 : decode b_RF_unit 21 = .ok (.iload_n 2, 1) := by decide +kernel
theorem d_RF_unit_22 : decode b_RF_unit 22 = .ok (.ifCond .eq 27, 3) := by decide +kernel
theorem d_RF_unit_25 : decode b_RF_unit 25 = .ok (.aload_n 0, 1) := by decide +kernel
theorem d_RF_unit_26 : decode b_RF_unit 26 = .ok (.getfield 58, 3) := by decide +kernel
theorem d_RF_unit_29 : decode b_RF_unit 29 = .ok (.aload_n 0, 1) := by decide +kernel
theorem d_RF_unit_30 : decode b_RF_unit 30 = .ok (.getfield 77, 3) := by decide +kernel
theorem d_RF_unit_33 : decode b_RF_unit 33 = .ok (.iload_n 1, 1) := by decide +kernel
theorem d_RF_unit_34 : decode b_RF_unit 34 = .ok (.sipush 255, 3) := by decide +kernel
theorem d_RF_unit_37 : decode b_RF_unit 37 = .ok (.iand, 1) := by decide +kernel
theorem d_RF_unit_38 : decode b_RF_unit 38 = .ok (.iastore, 1) := by decide +kernel
theorem d_RF_unit_39 : decode b_RF_unit 39 = .ok (.aload_n 0, 1) := by decide +kernel
theorem d_RF_unit_40 : decode b_RF_unit 40 = .ok (.dup, 1) := by decide +kernel
theorem d_RF_unit_41 : decode b_RF_unit 41 = .ok (.getfield 77, 3) := by decide +kernel
theorem d_RF_unit_44 : decode b_RF_unit 44 = .ok (.iconst 1, 1) := by decide +kernel
theorem d_RF_unit_45 : decode b_RF_unit 45 = .ok (.iadd, 1) := by decide +kernel
theorem d_RF_unit_46 : decode b_RF_unit 46 = .ok (.putfield 77, 3) := by decide +kernel
theorem d_RF_unit_49 : decode b_RF_unit 49 = .ok (.iload_n 2, 1) := by decide +kernel
theorem d_RF_unit_50 : decode b_RF_unit 50 = .ok (.ireturn, 1) := by decide +kernel
theorem d_RF_next_0 : decode b_RF_next 0 = .ok (.aload_n 0, 1) := by decide +kernel
theorem d_RF_next_1 : decode b_RF_next 1 = .ok (.getfield 80, 3) := by decide +kernel
theorem d_RF_next_4 : decode b_RF_next 4 = .ok (.aload_n 0, 1) := by decide +kernel
theorem d_RF_next_5 : decode b_RF_next 5 = .ok (.getfield 77, 3) := by decide +kernel
theorem d_RF_next_8 : decode b_RF_next 8 = .ok (.if_icmp .ge 72, 3) := by decide +kernel
theorem d_RF_next_11 : decode b_RF_next 11 = .ok (.aload_n 0, 1) := by decide +kernel
theorem d_RF_next_12 : decode b_RF_next 12 = .ok (.getfield 58, 3) := by decide +kernel
theorem d_RF_next_15 : decode b_RF_next 15 = .ok (.aload_n 0, 1) := by decide +kernel
theorem d_RF_next_16 : decode b_RF_next 16 = .ok (.getfield 80, 3) := by decide +kernel
theorem d_RF_next_19 : decode b_RF_next 19 = .ok (.iaload, 1) := by decide +kernel
theorem d_RF_next_20 : decode b_RF_next 20 = .ok (.bipush 32, 2) := by decide +kernel
theorem d_RF_next_22 : decode b_RF_next 22 = .ok (.if_icmp .eq 45, 3) := by decide +kernel
theorem d_RF_next_25 : decode b_RF_next 25 = .ok (.aload_n 0, 1) := by decide +kernel
theorem d_RF_next_26 : decode b_RF_next 26 = .ok (.getfield 58, 3) := by decide +kernel
theorem d_RF_next_29 : decode b_RF_next 29 = .ok (.aload_n 0, 1) := by decide +kernel
theorem d_RF_next_30 : decode b_RF_next 30 = .ok (.getfield 80, 3) := by decide +kernel
theorem d_RF_next_33 : decode b_RF_next 33 = .ok (.iaload, 1) := by decide +kernel
theorem d_RF_next_34 : decode b_RF_next 34 = .ok (.bipush 9, 2) := by decide +kernel
theorem d_RF_next_36 : decode b_RF_next 36 = .ok (.if_icmp .eq 31, 3) := by decide +kernel
theorem d_RF_next_39 : decode b_RF_next 39 = .ok (.aload_n 0, 1) := by decide +kernel
theorem d_RF_next_40 : decode b_RF_next 40 = .ok (.getfield 58, 3) := by decide +kernel
theorem d_RF_next_43 : decode b_RF_next 43 = .ok (.aload_n 0, 1) := by decide +kernel
theorem d_RF_next_44 : decode b_RF_next 44 = .ok (.getfield 80, 3) := by decide +kernel
theorem d_RF_next_47 : decode b_RF_next 47 = .ok (.iaload, 1) := by decide +kernel
theorem d_RF_next_48 : decode b_RF_next 48 = .ok (.bipush 10, 2) := by decide +kernel
theorem d_RF_next_50 : decode b_RF_next 50 = .ok (.if_icmp .eq 17, 3) := by decide +kernel
theorem d_RF_next_53 : decode b_RF_next 53 = .ok (.aload_n 0, 1) := by decide +kernel
theorem d_RF_next_54 : decode b_RF_next 54 = .ok (.getfield 58, 3) := by decide +kernel
theorem d_RF_next_57 : decode b_RF_next 57 = .ok (.aload_n 0, 1) := by decide +kernel
theorem d_RF_next_58 : decode b_RF_next 58 = .ok (.getfield 80, 3) := by decide +kernel
theorem d_RF_next_61 : decode b_RF_next 61 = .ok (.iaload, 1) := by decide +kernel
theorem d_RF_next_62 : decode b_RF_next 62 = .ok (.bipush 13, 2) := by decide +kernel
theorem d_RF_next_64 : decode b_RF_next 64 = .ok (.if_icmp .ne 16, 3) := by decide +kernel
theorem d_RF_next_67 : decode b_RF_next 67 = .ok (.aload_n 0, 1) := by decide +kernel
theorem d_RF_next_68 : decode b_RF_next 68 = .ok (.dup, 1) := by decide +kernel
theorem d_RF_next_69 : decode b_RF_next 69 = .ok (.getfield 80, 3) := by decide +kernel
theorem d_RF_next_72 : decode b_RF_next 72 = .ok (.iconst 1, 1) := by decide +kernel
theorem d_RF_next_73 : decode b_RF_next 73 = .ok (.iadd, 1) := by decide +kernel
theorem d_RF_next_74 : decode b_RF_next 74 = .ok (.putfield 80, 3) := by decide +kernel
theorem d_RF_next_77 : decode b_RF_next 77 = .ok (.goto (-77), 3) := by decide +kernel
theorem d_RF_next_80 : decode b_RF_next 80 = .ok (.aload_n 0, 1) := by decide +kernel
theorem d_RF_next_81 : decode b_RF_next 81 = .ok (.getfield 80, 3) := by decide +kernel
theorem d_RF_next_84 : decode b_RF_next 84 = .ok (.aload_n 0, 1) := by decide +kernel
theorem d_RF_next_85 : decode b_RF_next 85 = .ok (.getfield 77, 3) := by decide +kernel
theorem d_RF_next_88 : decode b_RF_next 88 = .ok (.if_icmp .ge 15, 3) := by decide +kernel
theorem d_RF_next_91 : decode b_RF_next 91 = .ok (.aload_n 0, 1) := by decide +kernel
theorem d_RF_next_92 : decode b_RF_next 92 = .ok (.getfield 58, 3) := by decide +kernel
theorem d_RF_next_95 : decode b_RF_next 95 = .ok (.aload_n 0, 1) := by decide +kernel
theorem d_RF_next_96 : decode b_RF_next 96 = .ok (.getfield 80, 3) := by decide +kernel
theorem d_RF_next_99 : decode b_RF_next 99 = .ok (.iaload, 1) := by decide +kernel
theorem d_RF_next_100 : decode b_RF_next 100 = .ok (.goto 4, 3) := by decide +kernel
theorem d_RF_next_103 : decode b_RF_next 103 = .ok (.iconst (-1), 1) := by decide +kernel
theorem d_RF_next_104 : decode b_RF_next 104 = .ok (.ireturn, 1) := by decide +kernel
theorem d_RF_readOperations_0 : decode b_RF_readOperations 0 = .ok (.aload_n 0, 1) := by decide +kernel
theorem d_RF_readOperations_1 : decode b_RF_readOperations 1 = .ok (.invokevirtual 83, 3) := by decide +kernel
theorem d_RF_readOperations_4 : decode b_RF_readOperations 4 = .ok (.bipush 40, 2) := by decide +kernel
theorem d_RF_readOperations_6 : decode b_RF_readOperations 6 = .ok (.if_icmp .ne 7, 3) := by decide +kernel
theorem d_RF_readOperations_9 : decode b_RF_readOperations 9 = .ok (.iconst 1, 1) := by decide +kernel
theorem d_RF_readOperations_10 : decode b_RF_readOperations 10 = .ok (.goto 4, 3) := by decide +kernel
theorem d_RF_readOperations_13 : decode b_RF_readOperations 13 = .ok (.iconst 0, 1) := by decide +kernel
theorem d_RF_readOperations_14 : decode b_RF_readOperations 14 = .ok (.istore_n 2, 1) := by decide +kernel
theorem d_RF_readOperations_15 : decode b_RF_readOperations 15 = .ok (.iload_n 2, 1) := by decide +kernel
theorem d_RF_readOperations_16 : decode b_RF_readOperations 16 = .ok (.istore_n 3, 1) := by decide +kernel
theorem d_RF_readOperations_17 : decode b_RF_readOperations 17 = .ok (.aload_n 0, 1) := by decide +kernel
theorem d_RF_readOperations_18 : decode b_RF_readOperations 18 = .ok (.getfield 52, 3) := by decide +kernel
theorem d_RF_readOperations_21 : decode b_RF_readOperations 21 = .ok (.iload_n 1, 1) := by decide +kernel
theorem d_RF_readOperations_22 : decode b_RF_readOperations 22 = .ok (.iconst 0, 1) := by decide +kernel
theorem d_RF_readOperations_23 : decode b_RF_readOperations 23 = .ok (.iastore, 1) := by decide +kernel
theorem d_RF_readOperations_24 : decode b_RF_readOperations 24 = .ok (.aload_n 0, 1) := by decide +kernel
theorem d_RF_readOperations_25 : decode b_RF_readOperations 25 = .ok (.iload_n 3, 1) := by decide +kernel
theorem d_RF_readOperations_26 : decode b_RF_readOperations 26 = .ok (.ifCond .eq 12, 3) := by decide +kernel
theorem d_RF_readOperations_29 : decode b_RF_readOperations 29 = .ok (.aload_n 0, 1) := by decide +kernel
theorem d_RF_readOperations_30 : decode b_RF_readOperations 30 = .ok (.getfield 80, 3) := by decide +kernel
theorem d_RF_readOperations_33 : decode b_RF_readOperations 33 = .ok (.iconst 1, 1) := by decide +kernel
theorem d_RF_readOperations_34 : decode b_RF_readOperations 34 = .ok (.iadd, 1) := by decide +kernel
theorem d_RF_readOperations_35 : decode b_RF_readOperations 35 = .ok (.goto 7, 3) := by decide +kernel
theorem d_RF_readOperations_38 : decode b_RF_readOperations 38 = .ok (.aload_n 0, 1) := by decide +kernel
theorem d_RF_readOperations_39 : decode b_RF_readOperations 39 = .ok (.getfield 80, 3) := by decide +kernel
theorem d_RF_readOperations_42 : decode b_RF_readOperations 42 = .ok (.putfield 80, 3) := by decide +kernel
theorem d_RF_readOperations_45 : decode b_RF_readOperations 45 = .ok (.iload_n 2, 1) := by decide +kernel
theorem d_RF_readOperations_46 : decode b_RF_readOperations 46 = .ok (.ifCond .eq 223, 3) := by decide +kernel
theorem d_RF_readOperations_49 : decode b_RF_readOperations 49 = .ok (.aload_n 0, 1) := by decide +kernel
theorem d_RF_readOperations_50 : decode b_RF_readOperations 50 = .ok (.invokevirtual 83, 3) := by decide +kernel
theorem d_RF_readOperations_53 : decode b_RF_readOperations 53 = .ok (.istore 4, 2) := by decide +kernel
theorem d_RF_readOperations_55 : decode b_RF_readOperations 55 = .ok (.iload 4, 2) := by decide +kernel
theorem d_RF_readOperations_57 : decode b_RF_readOperations 57 = .ok (.bipush 119, 2) := by decide +kernel
theorem d_RF_readOperations_59 : decode b_RF_readOperations 59 = .ok (.if_icmp .eq 10, 3) := by decide +kernel
theorem d_RF_readOperations_62 : decode b_RF_readOperations 62 = .ok (.iload 4, 2) := by decide +kernel
theorem d_RF_readOperations_64 : decode b_RF_readOperations 64 = .ok (.bipush 114, 2) := by decide +kernel
theorem d_RF_readOperations_66 : decode b_RF_readOperations 66 = .ok (.if_icmp .ne 18, 3) := by decide +kernel
theorem d_RF_readOperations_69 : decode b_RF_readOperations 69 = .ok (.aload_n 0, 1) := by decide +kernel
theorem d_RF_readOperations_70 : decode b_RF_readOperations 70 = .ok (.getfield 52, 3) := by decide +kernel
theorem d_RF_readOperations_73 : decode b_RF_readOperations 73 = .ok (.iload_n 1, 1) := by decide +kernel
theorem d_RF_readOperations_74 : decode b_RF_readOperations 74 = .ok (.iaload, 1) := by decide +kernel
theorem d_RF_readOperations_75 : decode b_RF_readOperations 75 = .ok (.bipush 8, 2) := by decide +kernel
theorem d_RF_readOperations_77 : decode b_RF_readOperations 77 = .ok (.if_icmp .ge 7, 3) := by decide +kernel
theorem d_RF_readOperations_80 : decode b_RF_readOperations 80 = .ok (.iconst 1, 1) := by decide +kernel
theorem d_RF_readOperations_81 : decode b_RF_readOperations 81 = .ok (.goto 4, 3) := by decide +kernel
theorem d_RF_readOperations_84 : decode b_RF_readOperations 84 = .ok (.iconst 0, 1) := by decide +kernel
theorem d_RF_readOperations_85 : decode b_RF_readOperations 85 = .ok (.istore_n 3, 1) := by decide +kernel
theorem d_RF_readOperations_86 : decode b_RF_readOperations 86 = .ok (.aload_n 0, 1) := by decide +kernel
theorem d_RF_readOperations_87 : decode b_RF_readOperations 87 = .ok (.iload_n 3, 1) := by decide +kernel
theorem d_RF_readOperations_88 : decode b_RF_readOperations 88 = .ok (.ifCond .eq 12, 3) := by decide +kernel
theorem d_RF_readOperations_91 : decode b_RF_readOperations 91 = .ok (.aload_n 0, 1) := by decide +kernel
theorem d_RF_readOperations_92 : decode b_RF_readOperations 92 = .ok (.getfield 80, 3) := by decide +kernel
theorem d_RF_readOperations_95 : decode b_RF_readOperations 95 = .ok (.iconst 1, 1) := by decide +kernel
theorem d_RF_readOperations_96 : decode b_RF_readOperations 96 = .ok (.iadd, 1) := by decide +kernel
theorem d_RF_readOperations_97 : decode b_RF_readOperations 97 = .ok (.goto 7, 3) := by decide +kernel
theorem d_RF_readOperations_100 : decode b_RF_readOperations 100 = .ok (.aload_n 0, 1) := by decide +kernel
theorem d_RF_readOperations_101 : decode b_RF_readOperations 101 = .ok (.getfield 80, 3) := by decide +kernel
theorem d_RF_readOperations_104 : decode b_RF_readOperations 104 = .ok (.putfield 80, 3) := by decide +kernel
theorem d_RF_readOperations_107 : decode b_RF_readOperations 107 = .ok (.iload_n 3, 1) := by decide +kernel
theorem d_RF_readOperations_108 : decode b_RF_readOperations 108 = .ok (.ifCond .eq 10, 3) := by decide +kernel
theorem d_RF_readOperations_111 : decode b_RF_readOperations 111 = .ok (.aload_n 0, 1) := by decide +kernel
theorem d_RF_readOperations_112 : decode b_RF_readOperations 112 = .ok (.invokevirtual 83, 3) := by decide +kernel
theorem d_RF_readOperations_115 : decode b_RF_readOperations 115 = .ok (.goto 4, 3) := by decide +kernel
theorem d_RF_readOperations_118 : decode b_RF_readOperations 118 = .ok (.iconst 0, 1) := by decide +kernel
theorem d_RF_readOperations_119 : decode b_RF_readOperations 119 = .ok (.istore 5, 2) := by decide +kernel
theorem d_RF_readOperations_121 : decode b_RF_readOperations 121 = .ok (.iload 5, 2) := by decide +kernel
theorem d_RF_readOperations_123 : decode b_RF_readOperations 123 = .ok (.bipush 48, 2) := by decide +kernel
theorem d_RF_readOperations_125 : decode b_RF_readOperations 125 = .ok (.if_icmp .eq 10, 3) := by decide +kernel
theorem d_RF_readOperations_128 : decode b_RF_readOperations 128 = .ok (.iload 5, 2) := by decide +kernel
theorem d_RF_readOperations_130 : decode b_RF_readOperations 130 = .ok (.bipush 49, 2) := by decide +kernel
theorem d_RF_readOperations_132 : decode b_RF_readOperations 132 = .ok (.if_icmp .ne 7, 3) := by decide +kernel
theorem d_RF_readOperations_135 : decode b_RF_readOperations 135 = .ok (.iconst 1, 1) := by decide +kernel
theorem d_RF_readOperations_136 : decode b_RF_readOperations 136 = .ok (.goto 4, 3) := by decide +kernel
theorem d_RF_readOperations_139 : decode b_RF_readOperations 139 = .ok (.iconst 0, 1) := by decide +kernel
theorem d_RF_readOperations_140 : decode b_RF_readOperations 140 = .ok (.istore 6, 2) := by decide +kernel
theorem d_RF_readOperations_142 : decode b_RF_readOperations 142 = .ok (.iload_n 3, 1) := by decide +kernel
theorem d_RF_readOperations_143 : decode b_RF_readOperations 143 = .ok (.ifCond .eq 12, 3) := by decide +kernel
theorem d_RF_readOperations_146 : decode b_RF_readOperations 146 = .ok (.iload 6, 2) := by decide +kernel
theorem d_RF_readOperations_148 : decode b_RF_readOperations 148 = .ok (.ifCond .eq 7, 3) := by decide +kernel
theorem d_RF_readOperations_151 : decode b_RF_readOperations 151 = .ok (.iconst 1, 1) := by decide +kernel
theorem d_RF_readOperations_152 : decode b_RF_readOperations 152 = .ok (.goto 4, 3) := by decide +kernel
theorem d_RF_readOperations_155 : decode b_RF_readOperations 155 = .ok (.iconst 0, 1) := by decide +kernel
theorem d_RF_readOperations_156 : decode b_RF_readOperations 156 = .ok (.istore_n 3, 1) := by decide +kernel
theorem d_RF_readOperations_157 : decode b_RF_readOperations 157 = .ok (.aload_n 0, 1) := by decide +kernel
theorem d_RF_readOperations_158 : decode b_RF_readOperations 158 = .ok (.iload_n 3, 1) := by decide +kernel
theorem d_RF_readOperations_159 : decode b_RF_readOperations 159 = .ok (.ifCond .eq 12, 3) := by decide +kernel
theorem d_RF_readOperations_162 : decode b_RF_readOperations 162 = .ok (.aload_n 0, 1) := by decide +kernel
theorem d_RF_readOperations_163 : decode b_RF_readOperations 163 = .ok (.getfield 80, 3) := by decide +kernel
theorem d_RF_readOperations_166 : decode b_RF_readOperations 166 = .ok (.iconst 1, 1) := by decide +kernel
theorem d_RF_readOperations_167 : decode b_RF_readOperations 167 = .ok (.iadd, 1) := by decide +kernel
theorem d_RF_readOperations_168 : decode b_RF_readOperations 168 = .ok (.goto 7, 3) := by decide +kernel
theorem d_RF_readOperations_171 : decode b_RF_readOperations 171 = .ok (.aload_n 0, 1) := by decide +kernel
theorem d_RF_readOperations_172 : decode b_RF_readOperations 172 = .ok (.getfield 80, 3) := by decide +kernel
theorem d_RF_readOperations_175 : decode b_RF_readOperations 175 = .ok (.putfield 80, 3) := by decide +kernel
theorem d_RF_readOperations_178 : decode b_RF_readOperations 178 = .ok (.iload_n 3, 1) := by decide +kernel
theorem d_RF_readOperations_179 : decode b_RF_readOperations 179 = .ok (.ifCond .eq 47, 3) := by decide +kernel
theorem d_RF_readOperations_182 : decode b_RF_readOperations 182 = .ok (.aload_n 0, 1) := by decide +kernel
theorem d_RF_readOperations_183 : decode b_RF_readOperations 183 = .ok (.getfield 55, 3) := by decide +kernel
theorem d_RF_readOperations_186 : decode b_RF_readOperations 186 = .ok (.bipush 8, 2) := by decide +kernel
theorem d_RF_readOperations_188 : decode b_RF_readOperations 188 = .ok (.iload_n 1, 1) := by decide +kernel
theorem d_RF_readOperations_189 : decode b_RF_readOperations 189 = .ok (.imul, 1) := by decide +kernel
theorem d_RF_readOperations_190 : decode b_RF_readOperations 190 = .ok (.aload_n 0, 1) := by decide +kernel
theorem d_RF_readOperations_191 : decode b_RF_readOperations 191 = .ok (.getfield 52, 3) := by decide +kernel
theorem d_RF_readOperations_194 : decode b_RF_readOperations 194 = .ok (.iload_n 1, 1) := by decide +kernel
theorem d_RF_readOperations_195 : decode b_RF_readOperations 195 = .ok (.iaload, 1) := by decide +kernel
theorem d_RF_readOperations_196 : decode b_RF_readOperations 196 = .ok (.iadd, 1) := by decide +kernel
theorem d_RF_readOperations_197 : decode b_RF_readOperations 197 = .ok (.iload 4, 2) := by decide +kernel
theorem d_RF_readOperations_199 : decode b_RF_readOperations 199 = .ok (.bipush 114, 2) := by decide +kernel
theorem d_RF_readOperations_201 : decode b_RF_readOperations 201 = .ok (.if_icmp .ne 7, 3) := by decide +kernel
theorem d_RF_readOperations_204 : decode b_RF_readOperations 204 = .ok (.iconst 2, 1) := by decide +kernel
theorem d_RF_readOperations_205 : decode b_RF_readOperations 205 = .ok (.goto 4, 3) := by decide +kernel
theorem d_RF_readOperations_208 : decode b_RF_readOperations 208 = .ok (.iconst 0, 1) := by decide +kernel
theorem d_RF_readOperations_209 : decode b_RF_readOperations 209 = .ok (.iload 5, 2) := by decide +kernel
theorem d_RF_readOperations_211 : decode b_RF_readOperations 211 = .ok (.iadd, 1) := by decide +kernel
theorem d_RF_readOperations_212 : decode b_RF_readOperations 212 = .ok (.bipush 48, 2) := by decide +kernel
theorem d_RF_readOperations_214 : decode b_RF_readOperations 214 = .ok (.isub, 1) := by decide +kernel
theorem d_RF_readOperations_215 : decode b_RF_readOperations 215 = .ok (.iastore, 1) := by decide +kernel
theorem d_RF_readOperations_216 : decode b_RF_readOperations 216 = .ok (.aload_n 0, 1) := by decide +kernel
theorem d_RF_readOperations_217 : decode b_RF_readOperations 217 = .ok (.getfield 52, 3) := by decide +kernel
theorem d_RF_readOperations_220 : decode b_RF_readOperations 220 = .ok (.iload_n 1, 1) := by decide +kernel
theorem d_RF_readOperations_221 : decode b_RF_readOperations 221 = .ok (.dup2, 1) := by decide +kernel
theorem d_RF_readOperations_222 : decode b_RF_readOperations 222 = .ok (.iaload, 1) := by decide +kernel
theorem d_RF_readOperations_223 : decode b_RF_readOperations 223 = .ok (.iconst 1, 1) := by decide +kernel
theorem d_RF_readOperations_224 : decode b_RF_readOperations 224 = .ok (.iadd, 1) := by decide +kernel
theorem d_RF_readOperations_225 : decode b_RF_readOperations 225 = .ok (.iastore, 1) := by decide +kernel
theorem d_RF_readOperations_226 : decode b_RF_readOperations 226 = .ok (.iload_n 3, 1) := by decide +kernel
theorem d_RF_readOperations_227 : decode b_RF_readOperations 227 = .ok (.ifCond .eq 16, 3) := by decide +kernel
theorem d_RF_readOperations_230 : decode b_RF_readOperations 230 = .ok (.aload_n 0, 1) := by decide +kernel
theorem d_RF_readOperations_231 : decode b_RF_readOperations 231 = .ok (.invokevirtual 83, 3) := by decide +kernel
theorem d_RF_readOperations_234 : decode b_RF_readOperations 234 = .ok (.bipush 44, 2) := by decide +kernel
theorem d_RF_readOperations_236 : decode b_RF_readOperations 236 = .ok (.if_icmp .ne 7, 3) := by decide +kernel
theorem d_RF_readOperations_239 : decode b_RF_readOperations 239 = .ok (.iconst 1, 1) := by decide +kernel
theorem d_RF_readOperations_240 : decode b_RF_readOperations 240 = .ok (.goto 4, 3) := by decide +kernel
theorem d_RF_readOperations_243 : decode b_RF_readOperations 243 = .ok (.iconst 0, 1) := by decide +kernel
theorem d_RF_readOperations_244 : decode b_RF_readOperations 244 = .ok (.istore_n 2, 1) := by decide +kernel
theorem d_RF_readOperations_245 : decode b_RF_readOperations 245 = .ok (.aload_n 0, 1) := by decide +kernel
theorem d_RF_readOperations_246 : decode b_RF_readOperations 246 = .ok (.iload_n 2, 1) := by decide +kernel
theorem d_RF_readOperations_247 : decode b_RF_readOperations 247 = .ok (.ifCond .eq 12, 3) := by decide +kernel
theorem d_RF_readOperations_250 : decode b_RF_readOperations 250 = .ok (.aload_n 0, 1) := by decide +kernel
theorem d_RF_readOperations_251 : decode b_RF_readOperations 251 = .ok (.getfield 80, 3) := by decide +kernel
theorem d_RF_readOperations_254 : decode b_RF_readOperations 254 = .ok (.iconst 1, 1) := by decide +kernel
theorem d_RF_readOperations_255 : decode b_RF_readOperations 255 = .ok (.iadd, 1) := by decide +kernel
theorem d_RF_readOperations_256 : decode b_RF_readOperations 256 = .ok (.goto 7, 3) := by decide +kernel
theorem d_RF_readOperations_259 : decode b_RF_readOperations 259 = .ok (.aload_n 0, 1) := by decide +kernel
theorem d_RF_readOperations_260 : decode b_RF_readOperations 260 = .ok (.getfield 80, 3) := by decide +kernel
theorem d_RF_readOperations_263 : decode b_RF_readOperations 263 = .ok (.putfield 80, 3) := by decide +kernel
theorem d_RF_readOperations_266 : decode b_RF_readOperations 266 = .ok (.goto (-221), 3) := by decide +kernel
theorem d_RF_readOperations_269 : decode b_RF_readOperations 269 = .ok (.iload_n 3, 1) := by decide +kernel
theorem d_RF_readOperations_270 : decode b_RF_readOperations 270 = .ok (.ifCond .eq 16, 3) := by decide +kernel
theorem d_RF_readOperations_273 : decode b_RF_readOperations 273 = .ok (.aload_n 0, 1) := by decide +kernel
theorem d_RF_readOperations_274 : decode b_RF_readOperations 274 = .ok (.invokevirtual 83, 3) := by decide +kernel
theorem d_RF_readOperations_277 : decode b_RF_readOperations 277 = .ok (.bipush 41, 2) := by decide +kernel
theorem d_RF_readOperations_279 : decode b_RF_readOperations 279 = .ok (.if_icmp .ne 7, 3) := by decide +kernel
theorem d_RF_readOperations_282 : decode b_RF_readOperations 282 = .ok (.iconst 1, 1) := by decide +kernel
theorem d_RF_readOperations_283 : decode b_RF_readOperations 283 = .ok (.goto 4, 3) := by decide +kernel
theorem d_RF_readOperations_286 : decode b_RF_readOperations 286 = .ok (.iconst 0, 1) := by decide +kernel
theorem d_RF_readOperations_287 : decode b_RF_readOperations 287 = .ok (.istore_n 3, 1) := by decide +kernel
theorem d_RF_readOperations_288 : decode b_RF_readOperations 288 = .ok (.aload_n 0, 1) := by decide +kernel
theorem d_RF_readOperations_289 : decode b_RF_readOperations 289 = .ok (.iload_n 3, 1) := by decide +kernel
theorem d_RF_readOperations_290 : decode b_RF_readOperations 290 = .ok (.ifCond .eq 12, 3) := by decide +kernel
theorem d_RF_readOperations_293 : decode b_RF_readOperations 293 = .ok (.aload_n 0, 1) := by decide +kernel
theorem d_RF_readOperations_294 : decode b_RF_readOperations 294 = .ok (.getfield 80, 3) := by decide +kernel
theorem d_RF_readOperations_297 : decode b_RF_readOperations 297 = .ok (.iconst 1, 1) := by decide +kernel
theorem d_RF_readOperations_298 : decode b_RF_readOperations 298 = .ok (.iadd, 1) := by decide +kernel
theorem d_RF_readOperations_299 : decode b_RF_readOperations 299 = .ok (.goto 7, 3) := by decide +kernel
theorem d_RF_readOperations_302 : decode b_RF_readOperations 302 = .ok (.aload_n 0, 1) := by decide +kernel
theorem d_RF_readOperations_303 : decode b_RF_readOperations 303 = .ok (.getfield 80, 3) := by decide +kernel
theorem d_RF_readOperations_306 : decode b_RF_readOperations 306 = .ok (.putfield 80, 3) := by decide +kernel
theorem d_RF_readOperations_309 : decode b_RF_readOperations 309 = .ok (.iload_n 3, 1) := by decide +kernel
theorem d_RF_readOperations_310 : decode b_RF_readOperations 310 = .ok (.ireturn, 1) := by decide +kernel
theorem d_RF_read_0 : decode b_RF_read 0 = .ok (.aload_n 0, 1) := by decide +kernel
theorem d_RF_read_1 : decode b_RF_read 1 = .ok (.iconst 0, 1) := by decide +kernel
theorem d_RF_read_2 : decode b_RF_read 2 = .ok (.putfield 74, 3) := by decide +kernel
theorem d_RF_read_5 : decode b_RF_read 5 = .ok (.aload_n 0, 1) := by decide +kernel
theorem d_RF_read_6 : decode b_RF_read 6 = .ok (.iconst 0, 1) := by decide +kernel
theorem d_RF_read_7 : decode b_RF_read 7 = .ok (.putfield 80, 3) := by decide +kernel
theorem d_RF_read_10 : decode b_RF_read 10 = .ok (.iconst 0, 1) := by decide +kernel
theorem d_RF_read_11 : decode b_RF_read 11 = .ok (.istore_n 1, 1) := by decide +kernel
theorem d_RF_read_12 : decode b_RF_read 12 = .ok (.iconst 1, 1) := by decide +kernel
theorem d_RF_read_13 : decode b_RF_read 13 = .ok (.istore_n 2, 1) := by decide +kernel
theorem d_RF_read_14 : decode b_RF_read 14 = .ok (.iconst 1, 1) := by decide +kernel
theorem d_RF_read_15 : decode b_RF_read 15 = .ok (.istore_n 3, 1) := by decide +kernel
theorem d_RF_read_16 : decode b_RF_read 16 = .ok (.iload_n 3, 1) := by decide +kernel
theorem d_RF_read_17 : decode b_RF_read 17 = .ok (.ifCond .eq 179, 3) := by decide +kernel
theorem d_RF_read_20 : decode b_RF_read 20 = .ok (.aload_n 0, 1) := by decide +kernel
theorem d_RF_read_21 : decode b_RF_read 21 = .ok (.invokevirtual 83, 3) := by decide +kernel
theorem d_RF_read_24 : decode b_RF_read 24 = .ok (.istore 4, 2) := by decide +kernel
theorem d_RF_read_26 : decode b_RF_read 26 = .ok (.iload 4, 2) := by decide +kernel
theorem d_RF_read_28 : decode b_RF_read 28 = .ok (.bipush 94, 2) := by decide +kernel
theorem d_RF_read_30 : decode b_RF_read 30 = .ok (.if_icmp .eq 17, 3) := by decide +kernel
theorem d_RF_read_33 : decode b_RF_read 33 = .ok (.iload 4, 2) := by decide +kernel
theorem d_RF_read_35 : decode b_RF_read 35 = .ok (.bipush 118, 2) := by decide +kernel
theorem d_RF_read_37 : decode b_RF_read 37 = .ok (.if_icmp .eq 10, 3) := by decide +kernel
theorem d_RF_read_40 : decode b_RF_read 40 = .ok (.iload 4, 2) := by decide +kernel
theorem d_RF_read_42 : decode b_RF_read 42 = .ok (.bipush 42, 2) := by decide +kernel
theorem d_RF_read_44 : decode b_RF_read 44 = .ok (.if_icmp .ne 7, 3) := by decide +kernel
theorem d_RF_read_47 : decode b_RF_read 47 = .ok (.iconst 1, 1) := by decide +kernel
theorem d_RF_read_48 : decode b_RF_read 48 = .ok (.goto 4, 3) := by decide +kernel
theorem d_RF_read_51 : decode b_RF_read 51 = .ok (.iconst 0, 1) := by decide +kernel
theorem d_RF_read_52 : decode b_RF_read 52 = .ok (.istore 5, 2) := by decide +kernel
theorem d_RF_read_54 : decode b_RF_read 54 = .ok (.iload 5, 2) := by decide +kernel
theorem d_RF_read_56 : decode b_RF_read 56 = .ok (.ifCond .ne 10, 3) := by decide +kernel
theorem d_RF_read_59 : decode b_RF_read 59 = .ok (.iload 4, 2) := by decide +kernel
theorem d_RF_read_61 : decode b_RF_read 61 = .ok (.bipush 100, 2) := by decide +kernel
theorem d_RF_read_63 : decode b_RF_read 63 = .ok (.if_icmp .ne 13, 3) := by decide +kernel
theorem d_RF_read_66 : decode b_RF_read 66 = .ok (.iload_n 1, 1) := by decide +kernel
theorem d_RF_read_67 : decode b_RF_read 67 = .ok (.bipush 16, 2) := by decide +kernel
theorem d_RF_read_69 : decode b_RF_read 69 = .ok (.if_icmp .ge 7, 3) := by decide +kernel
theorem d_RF_read_72 : decode b_RF_read 72 = .ok (.iconst 1, 1) := by decide +kernel
theorem d_RF_read_73 : decode b_RF_read 73 = .ok (.goto 4, 3) := by decide +kernel
theorem d_RF_read_76 : decode b_RF_read 76 = .ok (.iconst 0, 1) := by decide +kernel
theorem d_RF_read_77 : decode b_RF_read 77 = .ok (.istore_n 2, 1) := by decide +kernel
theorem d_RF_read_78 : decode b_RF_read 78 = .ok (.iload_n 2, 1) := by decide +kernel
theorem d_RF_read_79 : decode b_RF_read 79 = .ok (.ifCond .eq 73, 3) := by decide +kernel
