theorem d_FaultList_add_30 : decode b_FaultList_add 30 = .ok (.iconst 1, 1) := by decide +kernel
theorem d_FaultList_add_31 : decode b_FaultList_add 31 = .ok (.iload_n 3, 1) := by decide +kernel
theorem d_FaultList_add_32 : decode b_FaultList_add 32 = .ok (.aload_n 0, 1) := by decide +kernel
theorem d_FaultList_add_33 : decode b_FaultList_add 33 = .ok (.getfield 33, 3) := by decide +kernel
theorem d_FaultList_add_36 : decode b_FaultList_add 36 = .ok (.irem, 1) := by decide +kernel
theorem d_FaultList_add_37 : decode b_FaultList_add 37 = .ok (.ishl, 1) := by decide +kernel
theorem d_FaultList_add_38 : decode b_FaultList_add 38 = .ok (.goto 4, 3) := by decide +kernel
theorem d_FaultList_add_41 : decode b_FaultList_add 41 = .ok (.iconst 0, 1) := by decide +kernel
theorem d_FaultList_add_42 : decode b_FaultList_add 42 = .ok (.istore 5, 2) := by decide +kernel
theorem d_FaultList_add_44 : decode b_FaultList_add 44 = .ok (.aload_n 0, 1) := by decide +kernel
theorem d_FaultList_add_45 : decode b_FaultList_add 45 = .ok (.getfield 9, 3) := by decide +kernel
theorem d_FaultList_add_48 : decode b_FaultList_add 48 = .ok (.aload_n 0, 1) := by decide +kernel
theorem d_FaultList_add_49 : decode b_FaultList_add 49 = .ok (.getfield 37, 3) := by decide +kernel
theorem d_FaultList_add_52 : decode b_FaultList_add 52 = .ok (.iload_n 1, 1) := by decide +kernel
theorem d_FaultList_add_53 : decode b_FaultList_add 53 = .ok (.iastore, 1) := by decide +kernel
theorem d_FaultList_add_54 : decode b_FaultList_add 54 = .ok (.aload_n 0, 1) := by decide +kernel
theorem d_FaultList_add_55 : decode b_FaultList_add 55 = .ok (.getfield 15, 3) := by decide +kernel
theorem d_FaultList_add_58 : decode b_FaultList_add 58 = .ok (.aload_n 0, 1) := by decide +kernel
theorem d_FaultList_add_59 : decode b_FaultList_add 59 = .ok (.getfield 37, 3) := by decide +kernel
theorem d_FaultList_add_62 : decode b_FaultList_add 62 = .ok (.iload_n 2, 1) := by decide +kernel
theorem d_FaultList_add_63 : decode b_FaultList_add 63 = .ok (.aload_n 0, 1) := by decide +kernel
theorem d_FaultList_add_64 : decode b_FaultList_add 64 = .ok (.getfield 33, 3) := by decide +kernel
theorem d_FaultList_add_67 : decode b_FaultList_add 67 = .ok (.idiv, 1) := by decide +kernel
theorem d_FaultList_add_68 : decode b_FaultList_add 68 = .ok (.iastore, 1) := by decide +kernel
theorem d_FaultList_add_69 : decode b_FaultList_add 69 = .ok (.aload_n 0, 1) := by decide +kernel
theorem d_FaultList_add_70 : decode b_FaultList_add 70 = .ok (.getfield 18, 3) := by decide +kernel
theorem d_FaultList_add_73 : decode b_FaultList_add 73 = .ok (.aload_n 0, 1) := by decide +kernel
theorem d_FaultList_add_74 : decode b_FaultList_add 74 = .ok (.getfield 37, 3) := by decide +kernel
theorem d_FaultList_add_77 : decode b_FaultList_add 77 = .ok (.iconst 1, 1) := by decide +kernel
theorem d_FaultList_add_78 : decode b_FaultList_add 78 = .ok (.iload_n 2, 1) := by decide +kernel
theorem d_FaultList_add_79 : decode b_FaultList_add 79 = .ok (.aload_n 0, 1) := by decide +kernel
theorem d_FaultList_add_80 : decode b_FaultList_add 80 = .ok (.getfield 33, 3) := by decide +kernel
theorem d_FaultList_add_83 : decode b_FaultList_add 83 = .ok (.irem, 1) := by decide +kernel
theorem d_FaultList_add_84 : decode b_FaultList_add 84 = .ok (.ishl, 1) := by decide +kernel
theorem d_FaultList_add_85 : decode b_FaultList_add 85 = .ok (.iastore, 1) := by decide +kernel
theorem d_FaultList_add_86 : decode b_FaultList_add 86 = .ok (.aload_n 0, 1) := by decide +kernel
theorem d_FaultList_add_87 : decode b_FaultList_add 87 = .ok (.getfield 21, 3) := by decide +kernel
theorem d_FaultList_add_90 : decode b_FaultList_add 90 = .ok (.aload_n 0, 1) := by decide +kernel
theorem d_FaultList_add_91 : decode b_FaultList_add 91 = .ok (.getfield 37, 3) := by decide +kernel
theorem d_FaultList_add_94 : decode b_FaultList_add 94 = .ok (.iload 4, 2) := by decide +kernel
theorem d_FaultList_add_96 : decode b_FaultList_add 96 = .ok (.aload_n 0, 1) := by decide +kernel
theorem d_FaultList_add_97 : decode b_FaultList_add 97 = .ok (.getfield 33, 3) := by decide +kernel
theorem d_FaultList_add_100 : decode b_FaultList_add 100 = .ok (.idiv, 1) := by decide +kernel
theorem d_FaultList_add_101 : decode b_FaultList_add 101 = .ok (.iastore, 1) := by decide +kernel
theorem d_FaultList_add_102 : decode b_FaultList_add 102 = .ok (.aload_n 0, 1) := by decide +kernel
theorem d_FaultList_add_103 : decode b_FaultList_add 103 = .ok (.getfield 24, 3) := by decide +kernel
theorem d_FaultList_add_106 : decode b_FaultList_add 106 = .ok (.aload_n 0, 1) := by decide +kernel
theorem d_FaultList_add_107 : decode b_FaultList_add 107 = .ok (.getfield 37, 3) := by decide +kernel
theorem d_FaultList_add_110 : decode b_FaultList_add 110 = .ok (.iload 5, 2) := by decide +kernel
theorem d_FaultList_add_112 : decode b_FaultList_add 112 = .ok (.iastore, 1) := by decide +kernel
theorem d_FaultList_add_113 : decode b_FaultList_add 113 = .ok (.aload_n 0, 1) := by decide +kernel
theorem d_FaultList_add_114 : decode b_FaultList_add 114 = .ok (.dup, 1) := by decide +kernel
theorem d_FaultList_add_115 : decode b_FaultList_add 115 = .ok (.getfield 40, 3) := by decide +kernel
theorem d_FaultList_add_118 : decode b_FaultList_add 118 = .ok (.iconst 1, 1) := by decide +kernel
theorem d_FaultList_add_119 : decode b_FaultList_add 119 = .ok (.aload_n 0, 1) := by decide +kernel
theorem d_FaultList_add_120 : decode b_FaultList_add 120 = .ok (.getfield 15, 3) := by decide +kernel
theorem d_FaultList_add_123 : decode b_FaultList_add 123 = .ok (.aload_n 0, 1) := by decide +kernel
theorem d_FaultList_add_124 : decode b_FaultList_add 124 = .ok (.getfield 37, 3) := by decide +kernel
theorem d_FaultList_add_127 : decode b_FaultList_add 127 = .ok (.iaload, 1) := by decide +kernel
theorem d_FaultList_add_128 : decode b_FaultList_add 128 = .ok (.ishl, 1) := by decide +kernel
theorem d_FaultList_add_129 : decode b_FaultList_add 129 = .ok (.iconst 1, 1) := by decide +kernel
theorem d_FaultList_add_130 : decode b_FaultList_add 130 = .ok (.aload_n 0, 1) := by decide +kernel
theorem d_FaultList_add_131 : decode b_FaultList_add 131 = .ok (.getfield 21, 3) := by decide +kernel
theorem d_FaultList_add_134 : decode b_FaultList_add 134 = .ok (.aload_n 0, 1) := by decide +kernel
theorem d_FaultList_add_135 : decode b_FaultList_add 135 = .ok (.getfield 37, 3) := by decide +kernel
theorem d_FaultList_add_138 : decode b_FaultList_add 138 = .ok (.iaload, 1) := by decide +kernel
theorem d_FaultList_add_139 : decode b_FaultList_add 139 = .ok (.ishl, 1) := by decide +kernel
theorem d_FaultList_add_140 : decode b_FaultList_add 140 = .ok (.ior, 1) := by decide +kernel
theorem d_FaultList_add_141 : decode b_FaultList_add 141 = .ok (.ior, 1) := by decide +kernel
theorem d_FaultList_add_142 : decode b_FaultList_add 142 = .ok (.putfield 40, 3) := by decide +kernel
theorem d_FaultList_add_145 : decode b_FaultList_add 145 = .ok (.aload_n 0, 1) := by decide +kernel
theorem d_FaultList_add_146 : decode b_FaultList_add 146 = .ok (.dup, 1) := by decide +kernel
theorem d_FaultList_add_147 : decode b_FaultList_add 147 = .ok (.getfield 37, 3) := by decide +kernel
theorem d_FaultList_add_150 : decode b_FaultList_add 150 = .ok (.iconst 1, 1) := by decide +kernel
theorem d_FaultList_add_151 : decode b_FaultList_add 151 = .ok (.iadd, 1) := by decide +kernel
theorem d_FaultList_add_152 : decode b_FaultList_add 152 = .ok (.putfield 37, 3) := by decide +kernel
theorem d_FaultList_add_155 : decode b_FaultList_add 155 = .ok (.return_, 1) := by decide +kernel
theorem d_MT_fault_0 : decode b_MT_fault 0 = .ok (.iload_n 1, 1) := by decide +kernel
theorem d_MT_fault_1 : decode b_MT_fault 1 = .ok (.iconst (-1), 1) := by decide +kernel
theorem d_MT_fault_2 : decode b_MT_fault 2 = .ok (.if_icmp .ne 12, 3) := by decide +kernel
theorem d_MT_fault_5 : decode b_MT_fault 5 = .ok (.aload_n 0, 1) := by decide +kernel
theorem d_MT_fault_6 : decode b_MT_fault 6 = .ok (.getfield 44, 3) := by decide +kernel
theorem d_MT_fault_9 : decode b_MT_fault 9 = .ok (.invokevirtual 91, 3) := by decide +kernel
theorem d_MT_fault_12 : decode b_MT_fault 12 = .ok (.iconst 0, 1) := by decide +kernel
theorem d_MT_fault_13 : decode b_MT_fault 13 = .ok (.ireturn, 1) := by decide +kernel
theorem d_MT_fault_14 : decode b_MT_fault 14 = .ok (.aload_n 0, 1) := by decide +kernel
theorem d_MT_fault_15 : decode b_MT_fault 15 = .ok (.iload_n 2, 1) := by decide +kernel
theorem d_MT_fault_16 : decode b_MT_fault 16 = .ok (.invokevirtual 92, 3) := by decide +kernel
theorem d_MT_fault_19 : decode b_MT_fault 19 = .ok (.ifCond .eq 18, 3) := by decide +kernel
theorem d_MT_fault_22 : decode b_MT_fault 22 = .ok (.iload_n 1, 1) := by decide +kernel
theorem d_MT_fault_23 : decode b_MT_fault 23 = .ok (.invokestatic 95, 3) := by decide +kernel
theorem d_MT_fault_26 : decode b_MT_fault 26 = .ok (.ifCond .eq 21, 3) := by decide +kernel
theorem d_MT_fault_29 : decode b_MT_fault 29 = .ok (.aload_n 0, 1) := by decide +kernel
theorem d_MT_fault_30 : decode b_MT_fault 30 = .ok (.iload_n 3, 1) := by decide +kernel
theorem d_MT_fault_31 : decode b_MT_fault 31 = .ok (.invokevirtual 92, 3) := by decide +kernel
theorem d_MT_fault_34 : decode b_MT_fault 34 = .ok (.ifCond .ne 13, 3) := by decide +kernel
theorem d_MT_fault_37 : decode b_MT_fault 37 = .ok (.new 98, 3) := by decide +kernel
theorem d_MT_fault_40 : decode b_MT_fault 40 = .ok (.dup, 1) := by decide +kernel
theorem d_MT_fault_41 : decode b_MT_fault 41 = .ok (.ldc 100, 2) := by decide +kernel
theorem d_MT_fault_43 : decode b_MT_fault 43 = .ok (.invokespecial 102, 3) := by decide +kernel
theorem d_MT_fault_46 : decode b_MT_fault 46 = .ok (.athrow, 1) := by decide +kernel
theorem d_MT_fault_47 : decode b_MT_fault 47 = .ok (.aload_n 0, 1) := by decide +kernel
theorem d_MT_fault_48 : decode b_MT_fault 48 = .ok (.getfield 44, 3) := by decide +kernel
theorem d_MT_fault_51 : decode b_MT_fault 51 = .ok (.getfield 105, 3) := by decide +kernel
theorem d_MT_fault_54 : decode b_MT_fault 54 = .ok (.iconst 4, 1) := by decide +kernel
theorem d_MT_fault_55 : decode b_MT_fault 55 = .ok (.if_icmp .lt 13, 3) := by decide +kernel
theorem d_MT_fault_58 : decode b_MT_fault 58 = .ok (.new 108, 3) := by decide +kernel
theorem d_MT_fault_61 : decode b_MT_fault 61 = .ok (.dup, 1) := by decide +kernel
theorem d_MT_fault_62 : decode b_MT_fault 62 = .ok (.ldc 110, 2) := by decide +kernel
theorem d_MT_fault_64 : decode b_MT_fault 64 = .ok (.invokespecial 112, 3) := by decide +kernel
theorem d_MT_fault_67 : decode b_MT_fault 67 = .ok (.athrow, 1) := by decide +kernel
theorem d_MT_fault_68 : decode b_MT_fault 68 = .ok (.iload_n 1, 1) := by decide +kernel
theorem d_MT_fault_69 : decode b_MT_fault 69 = .ok (.invokestatic 113, 3) := by decide +kernel
theorem d_MT_fault_72 : decode b_MT_fault 72 = .ok (.ifCond .ne 13, 3) := by decide +kernel
theorem d_MT_fault_75 : decode b_MT_fault 75 = .ok (.new 116, 3) := by decide +kernel
theorem d_MT_fault_78 : decode b_MT_fault 78 = .ok (.dup, 1) := by decide +kernel
theorem d_MT_fault_79 : decode b_MT_fault 79 = .ok (.ldc 118, 2) := by decide +kernel
theorem d_MT_fault_81 : decode b_MT_fault 81 = .ok (.invokespecial 120, 3) := by decide +kernel
theorem d_MT_fault_84 : decode b_MT_fault 84 = .ok (.athrow, 1) := by decide +kernel
theorem d_MT_fault_85 : decode b_MT_fault 85 = .ok (.iload_n 1, 1) := by decide +kernel
theorem d_MT_fault_86 : decode b_MT_fault 86 = .ok (.invokestatic 95, 3) := by decide +kernel
theorem d_MT_fault_89 : decode b_MT_fault 89 = .ok (.ifCond .eq 18, 3) := by decide +kernel
theorem d_MT_fault_92 : decode b_MT_fault 92 = .ok (.iload_n 2, 1) := by decide +kernel
theorem d_MT_fault_93 : decode b_MT_fault 93 = .ok (.iload_n 3, 1) := by decide +kernel
theorem d_MT_fault_94 : decode b_MT_fault 94 = .ok (.if_icmp .ne 13, 3) := by decide +kernel
theorem d_MT_fault_97 : decode b_MT_fault 97 = .ok (.new 116, 3) := by decide +kernel
theorem d_MT_fault_100 : decode b_MT_fault 100 = .ok (.dup, 1) := by decide +kernel
theorem d_MT_fault_101 : decode b_MT_fault 101 = .ok (.ldc 121, 2) := by decide +kernel
theorem d_MT_fault_103 : decode b_MT_fault 103 = .ok (.invokespecial 120, 3) := by decide +kernel
theorem d_MT_fault_106 : decode b_MT_fault 106 = .ok (.athrow, 1) := by decide +kernel
theorem d_MT_fault_107 : decode b_MT_fault 107 = .ok (.aload_n 0, 1) := by decide +kernel
theorem d_MT_fault_108 : decode b_MT_fault 108 = .ok (.getfield 44, 3) := by decide +kernel
theorem d_MT_fault_111 : decode b_MT_fault 111 = .ok (.iload_n 1, 1) := by decide +kernel
theorem d_MT_fault_112 : decode b_MT_fault 112 = .ok (.iload_n 2, 1) := by decide +kernel
theorem d_MT_fault_113 : decode b_MT_fault 113 = .ok (.iload_n 3, 1) := by decide +kernel
theorem d_MT_fault_114 : decode b_MT_fault 114 = .ok (.invokevirtual 123, 3) := by decide +kernel
theorem d_MT_fault_117 : decode b_MT_fault 117 = .ok (.aload_n 0, 1) := by decide +kernel
theorem d_MT_fault_118 : decode b_MT_fault 118 = .ok (.getfield 44, 3) := by decide +kernel
theorem d_MT_fault_121 : decode b_MT_fault 121 = .ok (.getfield 105, 3) := by decide +kernel
theorem d_MT_fault_124 : decode b_MT_fault 124 = .ok (.ireturn, 1) := by decide +kernel
theorem d_MT_hasMarch_0 : decode b_MT_hasMarch 0 = .ok (.aload_n 0, 1) := by decide +kernel
theorem d_MT_hasMarch_1 : decode b_MT_hasMarch 1 = .ok (.getfield 70, 3) := by decide +kernel
theorem d_MT_hasMarch_4 : decode b_MT_hasMarch 4 = .ok (.getfield 88, 3) := by decide +kernel
theorem d_MT_hasMarch_7 : decode b_MT_hasMarch 7 = .ok (.ifCond .le 7, 3) := by decide +kernel
theorem d_MT_hasMarch_10 : decode b_MT_hasMarch 10 = .ok (.iconst 1, 1) := by decide +kernel
theorem d_MT_hasMarch_11 : decode b_MT_hasMarch 11 = .ok (.goto 4, 3) := by decide +kernel
theorem d_MT_hasMarch_14 : decode b_MT_hasMarch 14 = .ok (.iconst 0, 1) := by decide +kernel
theorem d_MT_hasMarch_15 : decode b_MT_hasMarch 15 = .ok (.ireturn, 1) := by decide +kernel
theorem d_Failures_clear_0 : decode b_Failures_clear 0 = .ok (.aload_n 0, 1) := by decide +kernel
theorem d_Failures_clear_1 : decode b_Failures_clear 1 = .ok (.iconst 0, 1) := by decide +kernel
theorem d_Failures_clear_2 : decode b_Failures_clear 2 = .ok (.putfield 15, 3) := by decide +kernel
theorem d_Failures_clear_5 : decode b_Failures_clear 5 = .ok (.return_, 1) := by decide +kernel
theorem d_Tester_reversed_0 : decode b_Tester_reversed 0 = .ok (.iload_n 0, 1) := by decide +kernel
theorem d_Tester_reversed_1 : decode b_Tester_reversed 1 = .ok (.iconst 1, 1) := by decide +kernel
theorem d_Tester_reversed_2 : decode b_Tester_reversed 2 = .ok (.iand, 1) := by decide +kernel
theorem d_Tester_reversed_3 : decode b_Tester_reversed 3 = .ok (.iconst 3, 1) := by decide +kernel
theorem d_Tester_reversed_4 : decode b_Tester_reversed 4 = .ok (.ishl, 1) := by decide +kernel
theorem d_Tester_reversed_5 : decode b_Tester_reversed 5 = .ok (.iload_n 0, 1) := by decide +kernel
theorem d_Tester_reversed_6 : decode b_Tester_reversed 6 = .ok (.iconst 2, 1) := by decide +kernel
theorem d_Tester_reversed_7 : decode b_Tester_reversed 7 = .ok (.iand, 1) := by decide +kernel
theorem d_Tester_reversed_8 : decode b_Tester_reversed 8 = .ok (.iconst 1, 1) := by decide +kernel
theorem d_Tester_reversed_9 : decode b_Tester_reversed 9 = .ok (.ishl, 1) := by decide +kernel
theorem d_Tester_reversed_10 : decode b_Tester_reversed 10 = .ok (.ior, 1) := by decide +kernel
theorem d_Tester_reversed_11 : decode b_Tester_reversed 11 = .ok (.iload_n 0, 1) := by decide +kernel
theorem d_Tester_reversed_12 : decode b_Tester_reversed 12 = .ok (.iconst 4, 1) := by decide +kernel
theorem d_Tester_reversed_13 : decode b_Tester_reversed 13 = .ok (.iand, 1) := by decide +kernel
theorem d_Tester_reversed_14 : decode b_Tester_reversed 14 = .ok (.iconst 1, 1) := by decide +kernel
theorem d_Tester_reversed_15 : decode b_Tester_reversed 15 = .ok (.ishr, 1) := by decide +kernel
theorem d_Tester_reversed_16 : decode b_Tester_reversed 16 = .ok (.ior, 1) := by decide +kernel
theorem d_Tester_reversed_17 : decode b_Tester_reversed 17 = .ok (.iload_n 0, 1) := by decide +kernel
theorem d_Tester_reversed_18 : decode b_Tester_reversed 18 = .ok (.bipush 8, 2) := by decide +kernel
theorem d_Tester_reversed_20 : decode b_Tester_reversed 20 = .ok (.iand, 1) := by decide +kernel
theorem d_Tester_reversed_21 : decode b_Tester_reversed 21 = .ok (.iconst 3, 1) := by decide +kernel
theorem d_Tester_reversed_22 : decode b_Tester_reversed 22 = .ok (.ishr, 1) := by decide +kernel
theorem d_Tester_reversed_23 : decode b_Tester_reversed 23 = .ok (.ior, 1) := by decide +kernel
theorem d_Tester_reversed_24 : decode b_Tester_reversed 24 = .ok (.ireturn, 1) := by decide +kernel
theorem d_Tester_zeroIn_0 : decode b_Tester_zeroIn 0 = .ok (.iload_n 1, 1) := by decide +kernel
theorem d_Tester_zeroIn_1 : decode b_Tester_zeroIn 1 = .ok (.iconst 1, 1) := by decide +kernel
theorem d_Tester_zeroIn_2 : decode b_Tester_zeroIn 2 = .ok (.iand, 1) := by decide +kernel
theorem d_Tester_zeroIn_3 : decode b_Tester_zeroIn 3 = .ok (.ifCond .eq 7, 3) := by decide +kernel
theorem d_Tester_zeroIn_6 : decode b_Tester_zeroIn 6 = .ok (.iconst 1, 1) := by decide +kernel
theorem d_Tester_zeroIn_7 : decode b_Tester_zeroIn 7 = .ok (.goto 4, 3) := by decide +kernel
theorem d_Tester_zeroIn_10 : decode b_Tester_zeroIn 10 = .ok (.iconst 0, 1) := by decide +kernel
theorem d_Tester_zeroIn_11 : decode b_Tester_zeroIn 11 = .ok (.istore_n 2, 1) := by decide +kernel
theorem d_Tester_zeroIn_12 : decode b_Tester_zeroIn 12 = .ok (.aload_n 0, 1) := by decide +kernel
theorem d_Tester_zeroIn_13 : decode b_Tester_zeroIn 13 = .ok (.getfield 60, 3) := by decide +kernel
theorem d_Tester_zeroIn_16 : decode b_Tester_zeroIn 16 = .ok (.tableswitch 53 1 3 #[28, 40, 50], 28) := by decide +kernel
theorem d_Tester_zeroIn_44 : decode b_Tester_zeroIn 44 = .ok (.iload_n 2, 1) := by decide +kernel
theorem d_Tester_zeroIn_45 : decode b_Tester_zeroIn 45 = .ok (.ifCond .eq 8, 3) := by decide +kernel
theorem d_Tester_zeroIn_48 : decode b_Tester_zeroIn 48 = .ok (.bipush (-11), 2) := by decide +kernel
theorem d_Tester_zeroIn_50 : decode b_Tester_zeroIn 50 = .ok (.goto 5, 3) := by decide +kernel
theorem d_Tester_zeroIn_53 : decode b_Tester_zeroIn 53 = .ok (.bipush 10, 2) := by decide +kernel
theorem d_Tester_zeroIn_55 : decode b_Tester_zeroIn 55 = .ok (.ireturn, 1) := by decide +kernel
theorem d_Tester_zeroIn_56 : decode b_Tester_zeroIn 56 = .ok (.iload_n 2, 1) := by decide +kernel
theorem d_Tester_zeroIn_57 : decode b_Tester_zeroIn 57 = .ok (.ifCond .eq 7, 3) := by decide +kernel
theorem d_Tester_zeroIn_60 : decode b_Tester_zeroIn 60 = .ok (.iconst (-1), 1) := by decide +kernel
theorem d_Tester_zeroIn_61 : decode b_Tester_zeroIn 61 = .ok (.goto 4, 3) := by decide +kernel
theorem d_Tester_zeroIn_64 : decode b_Tester_zeroIn 64 = .ok (.iconst 0, 1) := by decide +kernel
theorem d_Tester_zeroIn_65 : decode b_Tester_zeroIn 65 = .ok (.ireturn, 1) := by decide +kernel
theorem d_Tester_zeroIn_66 : decode b_Tester_zeroIn 66 = .ok (.bipush 10, 2) := by decide +kernel
theorem d_Tester_zeroIn_68 : decode b_Tester_zeroIn 68 = .ok (.ireturn, 1) := by decide +kernel
theorem d_Tester_zeroIn_69 : decode b_Tester_zeroIn 69 = .ok (.iconst 0, 1) := by decide +kernel
theorem d_Tester_zeroIn_70 : decode b_Tester_zeroIn 70 = .ok (.ireturn, 1) := by decide +kernel
theorem d_Tester_prepare_0 : decode b_Tester_prepare 0 = .ok (.iconst 0, 1) := by decide +kernel
theorem d_Tester_prepare_1 : decode b_Tester_prepare 1 = .ok (.istore_n 2, 1) := by decide +kernel
theorem d_Tester_prepare_2 : decode b_Tester_prepare 2 = .ok (.iconst 0, 1) := by decide +kernel
theorem d_Tester_prepare_3 : decode b_Tester_prepare 3 = .ok (.istore_n 3, 1) := by decide +kernel
theorem d_Tester_prepare_4 : decode b_Tester_prepare 4 = .ok (.iload_n 3, 1) := by decide +kernel
theorem d_Tester_prepare_5 : decode b_Tester_prepare 5 = .ok (.bipush 16, 2) := by decide +kernel
theorem d_Tester_prepare_7 : decode b_Tester_prepare 7 = .ok (.if_icmp .ge 77, 3) := by decide +kernel
theorem d_Tester_prepare_10 : decode b_Tester_prepare 10 = .ok (.iload_n 1, 1) := by decide +kernel
theorem d_Tester_prepare_11 : decode b_Tester_prepare 11 = .ok (.ifCond .ne 7, 3) := by decide +kernel
theorem d_Tester_prepare_14 : decode b_Tester_prepare 14 = .ok (.iload_n 3, 1) := by decide +kernel
theorem d_Tester_prepare_15 : decode b_Tester_prepare 15 = .ok (.goto 23, 3) := by decide +kernel
theorem d_Tester_prepare_18 : decode b_Tester_prepare 18 = .ok (.iload_n 1, 1) := by decide +kernel
theorem d_Tester_prepare_19 : decode b_Tester_prepare 19 = .ok (.iconst 1, 1) := by decide +kernel
theorem d_Tester_prepare_20 : decode b_Tester_prepare 20 = .ok (.if_icmp .ne 10, 3) := by decide +kernel
theorem d_Tester_prepare_23 : decode b_Tester_prepare 23 = .ok (.iload_n 3, 1) := by decide +kernel
theorem d_Tester_prepare_24 : decode b_Tester_prepare 24 = .ok (.invokestatic 53, 3) := by decide +kernel
theorem d_Tester_prepare_27 : decode b_Tester_prepare 27 = .ok (.goto 11, 3) := by decide +kernel
theorem d_Tester_prepare_30 : decode b_Tester_prepare 30 = .ok (.aload_n 0, 1) := by decide +kernel
theorem d_Tester_prepare_31 : decode b_Tester_prepare 31 = .ok (.getfield 15, 3) := by decide +kernel
theorem d_Tester_prepare_34 : decode b_Tester_prepare 34 = .ok (.iconst 1, 1) := by decide +kernel
theorem d_Tester_prepare_35 : decode b_Tester_prepare 35 = .ok (.isub, 1) := by decide +kernel
theorem d_Tester_prepare_36 : decode b_Tester_prepare 36 = .ok (.iload_n 3, 1) := by decide +kernel
theorem d_Tester_prepare_37 : decode b_Tester_prepare 37 = .ok (.isub, 1) := by decide +kernel
theorem d_Tester_prepare_38 : decode b_Tester_prepare 38 = .ok (.istore 4, 2) := by decide +kernel
theorem d_Tester_prepare_40 : decode b_Tester_prepare 40 = .ok (.iload 4, 2) := by decide +kernel
theorem d_Tester_prepare_42 : decode b_Tester_prepare 42 = .ok (.ifCond .lt 36, 3) := by decide +kernel
theorem d_Tester_prepare_45 : decode b_Tester_prepare 45 = .ok (.iload 4, 2) := by decide +kernel
theorem d_Tester_prepare_47 : decode b_Tester_prepare 47 = .ok (.aload_n 0, 1) := by decide +kernel
theorem d_Tester_prepare_48 : decode b_Tester_prepare 48 = .ok (.getfield 15, 3) := by decide +kernel
theorem d_Tester_prepare_51 : decode b_Tester_prepare 51 = .ok (.if_icmp .ge 27, 3) := by decide +kernel
theorem d_Tester_prepare_54 : decode b_Tester_prepare 54 = .ok (.iload_n 2, 1) := by decide +kernel
theorem d_Tester_prepare_55 : decode b_Tester_prepare 55 = .ok (.aload_n 0, 1) := by decide +kernel
theorem d_Tester_prepare_56 : decode b_Tester_prepare 56 = .ok (.getfield 15, 3) := by decide +kernel
theorem d_Tester_prepare_59 : decode b_Tester_prepare 59 = .ok (.if_icmp .ge 19, 3) := by decide +kernel
theorem d_Tester_prepare_62 : decode b_Tester_prepare 62 = .ok (.aload_n 0, 1) := by decide +kernel
theorem d_Tester_prepare_63 : decode b_Tester_prepare 63 = .ok (.getfield 44, 3) := by decide +kernel
theorem d_Tester_prepare_66 : decode b_Tester_prepare 66 = .ok (.iload_n 2, 1) := by decide +kernel
theorem d_Tester_prepare_67 : decode b_Tester_prepare 67 = .ok (.aload_n 0, 1) := by decide +kernel
theorem d_Tester_prepare_68 : decode b_Tester_prepare 68 = .ok (.getfield 40, 3) := by decide +kernel
theorem d_Tester_prepare_71 : decode b_Tester_prepare 71 = .ok (.iload 4, 2) := by decide +kernel
theorem d_Tester_prepare_73 : decode b_Tester_prepare 73 = .ok (.iaload, 1) := by decide +kernel
theorem d_Tester_prepare_74 : decode b_Tester_prepare 74 = .ok (.iastore, 1) := by decide +kernel
theorem d_Tester_prepare_75 : decode b_Tester_prepare 75 = .ok (.iinc 2 1, 3) := by decide +kernel
theorem d_Tester_prepare_78 : decode b_Tester_prepare 78 = .ok (.iinc 3 1, 3) := by decide +kernel
theorem d_Tester_prepare_81 : decode b_Tester_prepare 81 = .ok (.goto (-77), 3) := by decide +kernel
theorem d_Tester_prepare_84 : decode b_Tester_prepare 84 = .ok (.iconst 0, 1) := by decide +kernel
theorem d_Tester_prepare_85 : decode b_Tester_prepare 85 = .ok (.istore_n 3, 1) := by decide +kernel
theorem d_Tester_prepare_86 : decode b_Tester_prepare 86 = .ok (.iload_n 3, 1) := by decide +kernel
theorem d_Tester_prepare_87 : decode b_Tester_prepare 87 = .ok (.aload_n 0, 1) := by decide +kernel
theorem d_Tester_prepare_88 : decode b_Tester_prepare 88 = .ok (.getfield 15, 3) := by decide +kernel
theorem d_Tester_prepare_91 : decode b_Tester_prepare 91 = .ok (.if_icmp .ge 25, 3) := by decide +kernel
theorem d_Tester_prepare_94 : decode b_Tester_prepare 94 = .ok (.aload_n 0, 1) := by decide +kernel
theorem d_Tester_prepare_95 : decode b_Tester_prepare 95 = .ok (.getfield 47, 3) := by decide +kernel
theorem d_Tester_prepare_98 : decode b_Tester_prepare 98 = .ok (.iload_n 3, 1) := by decide +kernel
theorem d_Tester_prepare_99 : decode b_Tester_prepare 99 = .ok (.aload_n 0, 1) := by decide +kernel
theorem d_Tester_prepare_100 : decode b_Tester_prepare 100 = .ok (.iload_n 3, 1) := by decide +kernel
theorem d_Tester_prepare_101 : decode b_Tester_prepare 101 = .ok (.invokevirtual 57, 3) := by decide +kernel
theorem d_Tester_prepare_104 : decode b_Tester_prepare 104 = .ok (.aload_n 0, 1) := by decide +kernel
theorem d_Tester_prepare_105 : decode b_Tester_prepare 105 = .ok (.getfield 21, 3) := by decide +kernel
theorem d_Tester_prepare_108 : decode b_Tester_prepare 108 = .ok (.iand, 1) := by decide +kernel
theorem d_Tester_prepare_109 : decode b_Tester_prepare 109 = .ok (.iastore, 1) := by decide +kernel
theorem d_Tester_prepare_110 : decode b_Tester_prepare 110 = .ok (.iinc 3 1, 3) := by decide +kernel
theorem d_Tester_prepare_113 : decode b_Tester_prepare 113 = .ok (.goto (-27), 3) := by decide +kernel
theorem d_Tester_prepare_116 : decode b_Tester_prepare 116 = .ok (.return_, 1) := by decide +kernel
theorem d_Memory_settle_0 : decode b_Memory_settle 0 = .ok (.iconst 0, 1) := by decide +kernel
theorem d_Memory_settle_1 : decode b_Memory_settle 1 = .ok (.istore_n 1, 1) := by decide +kernel
theorem d_Memory_settle_2 : decode b_Memory_settle 2 = .ok (.iload_n 1, 1) := by decide +kernel
theorem d_Memory_settle_3 : decode b_Memory_settle 3 = .ok (.aload_n 0, 1) := by decide +kernel
theorem d_Memory_settle_4 : decode b_Memory_settle 4 = .ok (.getfield 33, 3) := by decide +kernel
theorem d_Memory_settle_7 : decode b_Memory_settle 7 = .ok (.getfield 58, 3) := by decide +kernel
theorem d_Memory_settle_10 : decode b_Memory_settle 10 = .ok (.if_icmp .ge 142, 3) := by decide +kernel
theorem d_Memory_settle_13 : decode b_Memory_settle 13 = .ok (.aload_n 0, 1) := by decide +kernel
theorem d_Memory_settle_14 : decode b_Memory_settle 14 = .ok (.getfield 33, 3) := by decide +kernel
theorem d_Memory_settle_17 : decode b_Memory_settle 17 = .ok (.getfield 64, 3) := by decide +kernel
theorem d_Memory_settle_20 : decode b_Memory_settle 20 = .ok (.iload_n 1, 1) := by decide +kernel
theorem d_Memory_settle_21 : decode b_Memory_settle 21 = .ok (.iaload, 1) := by decide +kernel
theorem d_Memory_settle_22 : decode b_Memory_settle 22 = .ok (.istore_n 2, 1) := by decide +kernel
theorem d_Memory_settle_23 : decode b_Memory_settle 23 = .ok (.aload_n 0, 1) := by decide +kernel
theorem d_Memory_settle_24 : decode b_Memory_settle 24 = .ok (.getfield 33, 3) := by decide +kernel
theorem d_Memory_settle_27 : decode b_Memory_settle 27 = .ok (.getfield 67, 3) := by decide +kernel
theorem d_Memory_settle_30 : decode b_Memory_settle 30 = .ok (.iload_n 1, 1) := by decide +kernel
theorem d_Memory_settle_31 : decode b_Memory_settle 31 = .ok (.iaload, 1) := by decide +kernel
theorem d_Memory_settle_32 : decode b_Memory_settle 32 = .ok (.istore_n 3, 1) := by decide +kernel
theorem d_Memory_settle_33 : decode b_Memory_settle 33 = .ok (.aload_n 0, 1) := by decide +kernel
theorem d_Memory_settle_34 : decode b_Memory_settle 34 = .ok (.getfield 33, 3) := by decide +kernel
theorem d_Memory_settle_37 : decode b_Memory_settle 37 = .ok (.getfield 61, 3) := by decide +kernel
theorem d_Memory_settle_40 : decode b_Memory_settle 40 = .ok (.iload_n 1, 1) := by decide +kernel
theorem d_Memory_settle_41 : decode b_Memory_settle 41 = .ok (.iaload, 1) := by decide +kernel
theorem d_Memory_settle_42 : decode b_Memory_settle 42 = .ok (.lookupswitch 104 #[(0, 34), (1, 49), (12, 62)], 34) := by decide +kernel
theorem d_Memory_settle_76 : decode b_Memory_settle 76 = .ok (.aload_n 0, 1) := by decide +kernel
theorem d_Memory_settle_77 : decode b_Memory_settle 77 = .ok (.getfield 24, 3) := by decide +kernel
theorem d_Memory_settle_80 : decode b_Memory_settle 80 = .ok (.iload_n 2, 1) := by decide +kernel
theorem d_Memory_settle_81 : decode b_Memory_settle 81 = .ok (.dup2, 1) := by decide +kernel
theorem d_Memory_settle_82 : decode b_Memory_settle 82 = .ok (.iaload, 1) := by decide +kernel
theorem d_Memory_settle_83 : decode b_Memory_settle 83 = .ok (.iload_n 3, 1) := by decide +kernel
theorem d_Memory_settle_84 : decode b_Memory_settle 84 = .ok (.iconst (-1), 1) := by decide +kernel
theorem d_Memory_settle_85 : decode b_Memory_settle 85 = .ok (.ixor, 1) := by decide +kernel
theorem d_Memory_settle_86 : decode b_Memory_settle 86 = .ok (.iand, 1) := by decide +kernel
theorem d_Memory_settle_87 : decode b_Memory_settle 87 = .ok (.iastore, 1) := by decide +kernel
theorem d_Memory_settle_88 : decode b_Memory_settle 88 = .ok (.goto 58, 3) := by decide +kernel
theorem d_Memory_settle_91 : decode b_Memory_settle 91 = .ok (.aload_n 0, 1) := by decide +kernel
theorem d_Memory_settle_92 : decode b_Memory_settle 92 = .ok (.getfield 24, 3) := by decide +kernel
theorem d_Memory_settle_95 : decode b_Memory_settle 95 = .ok (.iload_n 2, 1) := by decide +kernel
theorem d_Memory_settle_96 : decode b_Memory_settle 96 = .ok (.dup2, 1) := by decide +kernel
theorem d_Memory_settle_97 : decode b_Memory_settle 97 = .ok (.iaload, 1) := by decide +kernel
theorem d_Memory_settle_98 : decode b_Memory_settle 98 = .ok (.iload_n 3, 1) := by decide +kernel
theorem d_Memory_settle_99 : decode b_Memory_settle 99 = .ok (.ior, 1) := by decide +kernel
theorem d_Memory_settle_100 : decode b_Memory_settle 100 = .ok (.iastore, 1) := by decide +kernel
theorem d_Memory_settle_101 : decode b_Memory_settle 101 = .ok (.goto 45, 3) := by decide +kernel
theorem d_Memory_settle_104 : decode b_Memory_settle 104 = .ok (.aload_n 0, 1) := by decide +kernel
theorem d_Memory_settle_105 : decode b_Memory_settle 105 = .ok (.getfield 24, 3) := by decide +kernel
theorem d_Memory_settle_108 : decode b_Memory_settle 108 = .ok (.aload_n 0, 1) := by decide +kernel
theorem d_Memory_settle_109 : decode b_Memory_settle 109 = .ok (.getfield 33, 3) := by decide +kernel
theorem d_Memory_settle_112 : decode b_Memory_settle 112 = .ok (.getfield 81, 3) := by decide +kernel
theorem d_Memory_settle_115 : decode b_Memory_settle 115 = .ok (.iload_n 1, 1) := by decide +kernel
theorem d_Memory_settle_116 : decode b_Memory_settle 116 = .ok (.iaload, 1) := by decide +kernel
theorem d_Memory_settle_117 : decode b_Memory_settle 117 = .ok (.iaload, 1) := by decide +kernel
theorem d_Memory_settle_118 : decode b_Memory_settle 118 = .ok (.aload_n 0, 1) := by decide +kernel
theorem d_Memory_settle_119 : decode b_Memory_settle 119 = .ok (.getfield 33, 3) := by decide +kernel
theorem d_Memory_settle_122 : decode b_Memory_settle 122 = .ok (.getfield 84, 3) := by decide +kernel
theorem d_Memory_settle_125 : decode b_Memory_settle 125 = .ok (.iload_n 1, 1) := by decide +kernel
theorem d_Memory_settle_126 : decode b_Memory_settle 126 = .ok (.iaload, 1) := by decide +kernel
theorem d_Memory_settle_127 : decode b_Memory_settle 127 = .ok (.iand, 1) := by decide +kernel
theorem d_Memory_settle_128 : decode b_Memory_settle 128 = .ok (.ifCond .eq 18, 3) := by decide +kernel
theorem d_Memory_settle_131 : decode b_Memory_settle 131 = .ok (.aload_n 0, 1) := by decide +kernel
theorem d_Memory_settle_132 : decode b_Memory_settle 132 = .ok (.getfield 24, 3) := by decide +kernel
theorem d_Memory_settle_135 : decode b_Memory_settle 135 = .ok (.iload_n 2, 1) := by decide +kernel
theorem d_Memory_settle_136 : decode b_Memory_settle 136 = .ok (.dup2, 1) := by decide +kernel
theorem d_Memory_settle_137 : decode b_Memory_settle 137 = .ok (.iaload, 1) := by decide +kernel
theorem d_Memory_settle_138 : decode b_Memory_settle 138 = .ok (.iload_n 3, 1) := by decide +kernel
theorem d_Memory_settle_139 : decode b_Memory_settle 139 = .ok (.iconst (-1), 1) := by decide +kernel
theorem d_Memory_settle_140 : decode b_Memory_settle 140 = .ok (.ixor, 1) := by decide +kernel
theorem d_Memory_settle_141 : decode b_Memory_settle 141 = .ok (.iand, 1) := by decide +kernel
theorem d_Memory_settle_142 : decode b_Memory_settle 142 = .ok (.iastore, 1) := by decide +kernel
theorem d_Memory_settle_143 : decode b_Memory_settle 143 = .ok (.goto 3, 3) := by decide +kernel
theorem d_Memory_settle_146 : decode b_Memory_settle 146 = .ok (.iinc 1 1, 3) := by decide +kernel
theorem d_Memory_settle_149 : decode b_Memory_settle 149 = .ok (.goto (-147), 3) := by decide +kernel
theorem d_Memory_settle_152 : decode b_Memory_settle 152 = .ok (.return_, 1) := by decide +kernel
theorem d_Memory_begin_0 : decode b_Memory_begin 0 = .ok (.aload_n 0, 1) := by decide +kernel
theorem d_Memory_begin_1 : decode b_Memory_begin 1 = .ok (.aload_n 1, 1) := by decide +kernel
theorem d_Memory_begin_2 : decode b_Memory_begin 2 = .ok (.putfield 33, 3) := by decide +kernel
theorem d_Memory_begin_5 : decode b_Memory_begin 5 = .ok (.aload_n 0, 1) := by decide +kernel
theorem d_Memory_begin_6 : decode b_Memory_begin 6 = .ok (.iconst 0, 1) := by decide +kernel
theorem d_Memory_begin_7 : decode b_Memory_begin 7 = .ok (.putfield 37, 3) := by decide +kernel
theorem d_Memory_begin_10 : decode b_Memory_begin 10 = .ok (.iconst 0, 1) := by decide +kernel
theorem d_Memory_begin_11 : decode b_Memory_begin 11 = .ok (.istore_n 2, 1) := by decide +kernel
theorem d_Memory_begin_12 : decode b_Memory_begin 12 = .ok (.iload_n 2, 1) := by decide +kernel
theorem d_Memory_begin_13 : decode b_Memory_begin 13 = .ok (.aload_n 0, 1) := by decide +kernel
theorem d_Memory_begin_14 : decode b_Memory_begin 14 = .ok (.getfield 15, 3) := by decide +kernel
theorem d_Memory_begin_17 : decode b_Memory_begin 17 = .ok (.if_icmp .ge 16, 3) := by decide +kernel
theorem d_Memory_begin_20 : decode b_Memory_begin 20 = .ok (.aload_n 0, 1) := by decide +kernel
theorem d_Memory_begin_21 : decode b_Memory_begin 21 = .ok (.getfield 24, 3) := by decide +kernel
theorem d_Memory_begin_24 : decode b_Memory_begin 24 = .ok (.iload_n 2, 1) := by decide +kernel
theorem d_Memory_begin_25 : decode b_Memory_begin 25 = .ok (.iconst 0, 1) := by decide +kernel
theorem d_Memory_begin_26 : decode b_Memory_begin 26 = .ok (.iastore, 1) := by decide +kernel
theorem d_Memory_begin_27 : decode b_Memory_begin 27 = .ok (.iinc 2 1, 3) := by decide +kernel
theorem d_Memory_begin_30 : decode b_Memory_begin 30 = .ok (.goto (-18), 3) := by decide +kernel
theorem d_Memory_begin_33 : decode b_Memory_begin 33 = .ok (.aload_n 0, 1) := by decide +kernel
theorem d_Memory_begin_34 : decode b_Memory_begin 34 = .ok (.invokevirtual 40, 3) := by decide +kernel
theorem d_Memory_begin_37 : decode b_Memory_begin 37 = .ok (.return_, 1) := by decide +kernel
theorem d_Memory_rest_0 : decode b_Memory_rest 0 = .ok (.iconst 0, 1) := by decide +kernel
theorem d_Memory_rest_1 : decode b_Memory_rest 1 = .ok (.istore_n 1, 1) := by decide +kernel
theorem d_Memory_rest_2 : decode b_Memory_rest 2 = .ok (.iload_n 1, 1) := by decide +kernel
theorem d_Memory_rest_3 : decode b_Memory_rest 3 = .ok (.aload_n 0, 1) := by decide +kernel
theorem d_Memory_rest_4 : decode b_Memory_rest 4 = .ok (.getfield 33, 3) := by decide +kernel
theorem d_Memory_rest_7 : decode b_Memory_rest 7 = .ok (.getfield 58, 3) := by decide +kernel
theorem d_Memory_rest_10 : decode b_Memory_rest 10 = .ok (.if_icmp .ge 50, 3) := by decide +kernel
theorem d_Memory_rest_13 : decode b_Memory_rest 13 = .ok (.aload_n 0, 1) := by decide +kernel
theorem d_Memory_rest_14 : decode b_Memory_rest 14 = .ok (.getfield 33, 3) := by decide +kernel
theorem d_Memory_rest_17 : decode b_Memory_rest 17 = .ok (.getfield 61, 3) := by decide +kernel
theorem d_Memory_rest_20 : decode b_Memory_rest 20 = .ok (.iload_n 1, 1) := by decide +kernel
theorem d_Memory_rest_21 : decode b_Memory_rest 21 = .ok (.iaload, 1) := by decide +kernel
theorem d_Memory_rest_22 : decode b_Memory_rest 22 = .ok (.iconst 5, 1) := by decide +kernel
theorem d_Memory_rest_23 : decode b_Memory_rest 23 = .ok (.if_icmp .ne 31, 3) := by decide +kernel
theorem d_Memory_rest_26 : decode b_Memory_rest 26 = .ok (.aload_n 0, 1) := by decide +kernel
theorem d_Memory_rest_27 : decode b_Memory_rest 27 = .ok (.getfield 24, 3) := by decide +kernel
theorem d_Memory_rest_30 : decode b_Memory_rest 30 = .ok (.aload_n 0, 1) := by decide +kernel
theorem d_Memory_rest_31 : decode b_Memory_rest 31 = .ok (.getfield 33, 3) := by decide +kernel
theorem d_Memory_rest_34 : decode b_Memory_rest 34 = .ok (.getfield 64, 3) := by decide +kernel
theorem d_Memory_rest_37 : decode b_Memory_rest 37 = .ok (.iload_n 1, 1) := by decide +kernel
theorem d_Memory_rest_38 : decode b_Memory_rest 38 = .ok (.iaload, 1) := by decide +kernel
theorem d_Memory_rest_39 : decode b_Memory_rest 39 = .ok (.dup2, 1) := by decide +kernel
theorem d_Memory_rest_40 : decode b_Memory_rest 40 = .ok (.iaload, 1) := by decide +kernel
theorem d_Memory_rest_41 : decode b_Memory_rest 41 = .ok (.aload_n 0, 1) := by decide +kernel
theorem d_Memory_rest_42 : decode b_Memory_rest 42 = .ok (.getfield 33, 3) := by decide +kernel
theorem d_Memory_rest_45 : decode b_Memory_rest 45 = .ok (.getfield 67, 3) := by decide +kernel
theorem d_Memory_rest_48 : decode b_Memory_rest 48 = .ok (.iload_n 1, 1) := by decide +kernel
theorem d_Memory_rest_49 : decode b_Memory_rest 49 = .ok (.iaload, 1) := by decide +kernel
theorem d_Memory_rest_50 : decode b_Memory_rest 50 = .ok (.iconst (-1), 1) := by decide +kernel
theorem d_Memory_rest_51 : decode b_Memory_rest 51 = .ok (.ixor, 1) := by decide +kernel
theorem d_Memory_rest_52 : decode b_Memory_rest 52 = .ok (.iand, 1) := by decide +kernel
theorem d_Memory_rest_53 : decode b_Memory_rest 53 = .ok (.iastore, 1) := by decide +kernel
theorem d_Memory_rest_54 : decode b_Memory_rest 54 = .ok (.iinc 1 1, 3) := by decide +kernel
theorem d_Memory_rest_57 : decode b_Memory_rest 57 = .ok (.goto (-55), 3) := by decide +kernel
theorem d_Memory_rest_60 : decode b_Memory_rest 60 = .ok (.aload_n 0, 1) := by decide +kernel
theorem d_Memory_rest_61 : decode b_Memory_rest 61 = .ok (.invokevirtual 40, 3) := by decide +kernel
theorem d_Memory_rest_64 : decode b_Memory_rest 64 = .ok (.return_, 1) := by decide +kernel
theorem d_FaultList_touches_0 : decode b_FaultList_touches 0 = .ok (.aload_n 0, 1) := by decide +kernel
theorem d_FaultList_touches_1 : decode b_FaultList_touches 1 = .ok (.getfield 40, 3) := by decide +kernel
theorem d_FaultList_touches_4 : decode b_FaultList_touches 4 = .ok (.iload_n 1, 1) := by decide +kernel
theorem d_FaultList_touches_5 : decode b_FaultList_touches 5 = .ok (.ishr, 1) := by decide +kernel
theorem d_FaultList_touches_6 : decode b_FaultList_touches 6 = .ok (.iconst 1, 1) := by decide +kernel
theorem d_FaultList_touches_7 : decode b_FaultList_touches 7 = .ok (.iand, 1) := by decide +kernel
theorem d_FaultList_touches_8 : decode b_FaultList_touches 8 = .ok (.ifCond .eq 7, 3) := by decide +kernel
theorem d_FaultList_touches_11 : decode b_FaultList_touches 11 = .ok (.iconst 1, 1) := by decide +kernel
theorem d_FaultList_touches_12 : decode b_FaultList_touches 12 = .ok (.goto 4, 3) := by decide +kernel
theorem d_FaultList_touches_15 : decode b_FaultList_touches 15 = .ok (.iconst 0, 1) := by decide +kernel
theorem d_FaultList_touches_16 : decode b_FaultList_touches 16 = .ok (.ireturn, 1) := by decide +kernel
theorem d_FaultList_isVictim_0 : decode b_FaultList_isVictim 0 = .ok (.aload_n 0, 1) := by decide +kernel
theorem d_FaultList_isVictim_1 : decode b_FaultList_isVictim 1 = .ok (.getfield 15, 3) := by decide +kernel
theorem d_FaultList_isVictim_4 : decode b_FaultList_isVictim 4 = .ok (.iload_n 1, 1) := by decide +kernel
theorem d_FaultList_isVictim_5 : decode b_FaultList_isVictim 5 = .ok (.iaload, 1) := by decide +kernel
theorem d_FaultList_isVictim_6 : decode b_FaultList_isVictim 6 = .ok (.iload_n 2, 1) := by decide +kernel
theorem d_FaultList_isVictim_7 : decode b_FaultList_isVictim 7 = .ok (.if_icmp .ne 17, 3) := by decide +kernel
theorem d_FaultList_isVictim_10 : decode b_FaultList_isVictim 10 = .ok (.aload_n 0, 1) := by decide +kernel
theorem d_FaultList_isVictim_11 : decode b_FaultList_isVictim 11 = .ok (.getfield 18, 3) := by decide +kernel
theorem d_FaultList_isVictim_14 : decode b_FaultList_isVictim 14 = .ok (.iload_n 1, 1) := by decide +kernel
theorem d_FaultList_isVictim_15 : decode b_FaultList_isVictim 15 = .ok (.iaload, 1) := by decide +kernel
theorem d_FaultList_isVictim_16 : decode b_FaultList_isVictim 16 = .ok (.iload_n 3, 1) := by decide +kernel
theorem d_FaultList_isVictim_17 : decode b_FaultList_isVictim 17 = .ok (.if_icmp .ne 7, 3) := by decide +kernel
theorem d_FaultList_isVictim_20 : decode b_FaultList_isVictim 20 = .ok (.iconst 1, 1) := by decide +kernel
theorem d_FaultList_isVictim_21 : decode b_FaultList_isVictim 21 = .ok (.goto 4, 3) := by decide +kernel
theorem d_FaultList_isVictim_24 : decode b_FaultList_isVictim 24 = .ok (.iconst 0, 1) := by decide +kernel
theorem d_FaultList_isVictim_25 : decode b_FaultList_isVictim 25 = .ok (.ireturn, 1) := by decide +kernel
theorem d_Memory_struckValue_0 : decode b_Memory_struckValue 0 = .ok (.iload_n 0, 1) := by decide +kernel
theorem d_Memory_struckValue_1 : decode b_Memory_struckValue 1 = .ok (.tableswitch 97 0 9 #[55, 57, 59, 70, 81, 97, 97, 97, 97, 83], 55) := by decide +kernel
theorem d_Memory_struckValue_56 : decode b_Memory_struckValue 56 = .ok (.iconst 0, 1) := by decide +kernel
theorem d_Memory_struckValue_57 : decode b_Memory_struckValue 57 = .ok (.ireturn, 1) := by decide +kernel
theorem d_Memory_struckValue_58 : decode b_Memory_struckValue 58 = .ok (.iload_n 1, 1) := by decide +kernel
theorem d_Memory_struckValue_59 : decode b_Memory_struckValue 59 = .ok (.ireturn, 1) := by decide +kernel
theorem d_Memory_struckValue_60 : decode b_Memory_struckValue 60 = .ok (.iload_n 3, 1) := by decide +kernel
theorem d_Memory_struckValue_61 : decode b_Memory_struckValue 61 = .ok (.ifCond .ne 7, 3) := by decide +kernel
theorem d_Memory_struckValue_64 : decode b_Memory_struckValue 64 = .ok (.iconst 0, 1) := by decide +kernel
theorem d_Memory_struckValue_65 : decode b_Memory_struckValue 65 = .ok (.goto 5, 3) := by decide +kernel
theorem d_Memory_struckValue_68 : decode b_Memory_struckValue 68 = .ok (.iload 4, 2) := by decide +kernel
theorem d_Memory_struckValue_70 : decode b_Memory_struckValue 70 = .ok (.ireturn, 1) := by decide +kernel
theorem d_Memory_struckValue_71 : decode b_Memory_struckValue 71 = .ok (.iload_n 3, 1) := by decide +kernel
theorem d_Memory_struckValue_72 : decode b_Memory_struckValue 72 = .ok (.ifCond .eq 7, 3) := by decide +kernel
theorem d_Memory_struckValue_75 : decode b_Memory_struckValue 75 = .ok (.iload_n 1, 1) := by decide +kernel
theorem d_Memory_struckValue_76 : decode b_Memory_struckValue 76 = .ok (.goto 5, 3) := by decide +kernel
theorem d_Memory_struckValue_79 : decode b_Memory_struckValue 79 = .ok (.iload 4, 2) := by decide +kernel
theorem d_Memory_struckValue_81 : decode b_Memory_struckValue 81 = .ok (.ireturn, 1) := by decide +kernel
theorem d_Memory_struckValue_82 : decode b_Memory_struckValue 82 = .ok (.iload_n 3, 1) := by decide +kernel
theorem d_Memory_struckValue_83 : decode b_Memory_struckValue 83 = .ok (.ireturn, 1) := by decide +kernel
theorem d_Memory_struckValue_84 : decode b_Memory_struckValue 84 = .ok (.iload_n 2, 1) := by decide +kernel
theorem d_Memory_struckValue_85 : decode b_Memory_struckValue 85 = .ok (.iload_n 3, 1) := by decide +kernel
theorem d_Memory_struckValue_86 : decode b_Memory_struckValue 86 = .ok (.if_icmp .ne 9, 3) := by decide +kernel
theorem d_Memory_struckValue_89 : decode b_Memory_struckValue 89 = .ok (.iload_n 3, 1) := by decide +kernel
theorem d_Memory_struckValue_90 : decode b_Memory_struckValue 90 = .ok (.iload_n 1, 1) := by decide +kernel
theorem d_Memory_struckValue_91 : decode b_Memory_struckValue 91 = .ok (.ixor, 1) := by decide +kernel
theorem d_Memory_struckValue_92 : decode b_Memory_struckValue 92 = .ok (.goto 5, 3) := by decide +kernel
theorem d_Memory_struckValue_95 : decode b_Memory_struckValue 95 = .ok (.iload 4, 2) := by decide +kernel
theorem d_Memory_struckValue_97 : decode b_Memory_struckValue 97 = .ok (.ireturn, 1) := by decide +kernel
theorem d_Memory_struckValue_98 : decode b_Memory_struckValue 98 = .ok (.iload 4, 2) := by decide +kernel
theorem d_Memory_struckValue_100 : decode b_Memory_struckValue 100 = .ok (.ireturn, 1) := by decide +kernel
theorem d_Memory_valueToStore_0 : decode b_Memory_valueToStore 0 = .ok (.aload_n 0, 1) := by decide +kernel
theorem d_Memory_valueToStore_1 : decode b_Memory_valueToStore 1 = .ok (.getfield 24, 3) := by decide +kernel
theorem d_Memory_valueToStore_4 : decode b_Memory_valueToStore 4 = .ok (.iload_n 1, 1) := by decide +kernel
theorem d_Memory_valueToStore_5 : decode b_Memory_valueToStore 5 = .ok (.iaload, 1) := by decide +kernel
theorem d_Memory_valueToStore_6 : decode b_Memory_valueToStore 6 = .ok (.iload_n 2, 1) := by decide +kernel
theorem d_Memory_valueToStore_7 : decode b_Memory_valueToStore 7 = .ok (.iand, 1) := by decide +kernel
theorem d_Memory_valueToStore_8 : decode b_Memory_valueToStore 8 = .ok (.istore 4, 2) := by decide +kernel
theorem d_Memory_valueToStore_10 : decode b_Memory_valueToStore 10 = .ok (.iload_n 3, 1) := by decide +kernel
theorem d_Memory_valueToStore_11 : decode b_Memory_valueToStore 11 = .ok (.istore 5, 2) := by decide +kernel
theorem d_Memory_valueToStore_13 : decode b_Memory_valueToStore 13 = .ok (.iconst 0, 1) := by decide +kernel
theorem d_Memory_valueToStore_14 : decode b_Memory_valueToStore 14 = .ok (.istore 6, 2) := by decide +kernel
theorem d_Memory_valueToStore_16 : decode b_Memory_valueToStore 16 = .ok (.iload 6, 2) := by decide +kernel
theorem d_Memory_valueToStore_18 : decode b_Memory_valueToStore 18 = .ok (.aload_n 0, 1) := by decide +kernel
theorem d_Memory_valueToStore_19 : decode b_Memory_valueToStore 19 = .ok (.getfield 33, 3) := by decide +kernel
theorem d_Memory_valueToStore_22 : decode b_Memory_valueToStore 22 = .ok (.getfield 58, 3) := by decide +kernel
theorem d_Memory_valueToStore_25 : decode b_Memory_valueToStore 25 = .ok (.if_icmp .ge 44, 3) := by decide +kernel
theorem d_Memory_valueToStore_28 : decode b_Memory_valueToStore 28 = .ok (.aload_n 0, 1) := by decide +kernel
theorem d_Memory_valueToStore_29 : decode b_Memory_valueToStore 29 = .ok (.getfield 33, 3) := by decide +kernel
theorem d_Memory_valueToStore_32 : decode b_Memory_valueToStore 32 = .ok (.iload 6, 2) := by decide +kernel
theorem d_Memory_valueToStore_34 : decode b_Memory_valueToStore 34 = .ok (.iload_n 1, 1) := by decide +kernel
theorem d_Memory_valueToStore_35 : decode b_Memory_valueToStore 35 = .ok (.iload_n 2, 1) := by decide +kernel
theorem d_Memory_valueToStore_36 : decode b_Memory_valueToStore 36 = .ok (.invokevirtual 70, 3) := by decide +kernel
theorem d_Memory_valueToStore_39 : decode b_Memory_valueToStore 39 = .ok (.ifCond .eq 24, 3) := by decide +kernel
theorem d_Memory_valueToStore_42 : decode b_Memory_valueToStore 42 = .ok (.aload_n 0, 1) := by decide +kernel
theorem d_Memory_valueToStore_43 : decode b_Memory_valueToStore 43 = .ok (.getfield 33, 3) := by decide +kernel
theorem d_Memory_valueToStore_46 : decode b_Memory_valueToStore 46 = .ok (.getfield 61, 3) := by decide +kernel
theorem d_Memory_valueToStore_49 : decode b_Memory_valueToStore 49 = .ok (.iload 6, 2) := by decide +kernel
theorem d_Memory_valueToStore_51 : decode b_Memory_valueToStore 51 = .ok (.iaload, 1) := by decide +kernel
theorem d_Memory_valueToStore_52 : decode b_Memory_valueToStore 52 = .ok (.iload_n 2, 1) := by decide +kernel
theorem d_Memory_valueToStore_53 : decode b_Memory_valueToStore 53 = .ok (.iload_n 3, 1) := by decide +kernel
theorem d_Memory_valueToStore_54 : decode b_Memory_valueToStore 54 = .ok (.iload 4, 2) := by decide +kernel
theorem d_Memory_valueToStore_56 : decode b_Memory_valueToStore 56 = .ok (.iload 5, 2) := by decide +kernel
theorem d_Memory_valueToStore_58 : decode b_Memory_valueToStore 58 = .ok (.invokestatic 74, 3) := by decide +kernel
theorem d_Memory_valueToStore_61 : decode b_Memory_valueToStore 61 = .ok (.istore 5, 2) := by decide +kernel
theorem d_Memory_valueToStore_63 : decode b_Memory_valueToStore 63 = .ok (.iinc 6 1, 3) := by decide +kernel
theorem d_Memory_valueToStore_66 : decode b_Memory_valueToStore 66 = .ok (.goto (-50), 3) := by decide +kernel
theorem d_Memory_valueToStore_69 : decode b_Memory_valueToStore 69 = .ok (.iload 5, 2) := by decide +kernel
theorem d_Memory_valueToStore_71 : decode b_Memory_valueToStore 71 = .ok (.ireturn, 1) := by decide +kernel
theorem d_FaultList_isOther_0 : decode b_FaultList_isOther 0 = .ok (.aload_n 0, 1) := by decide +kernel
theorem d_FaultList_isOther_1 : decode b_FaultList_isOther 1 = .ok (.getfield 21, 3) := by decide +kernel
theorem d_FaultList_isOther_4 : decode b_FaultList_isOther 4 = .ok (.iload_n 1, 1) := by decide +kernel
theorem d_FaultList_isOther_5 : decode b_FaultList_isOther 5 = .ok (.iaload, 1) := by decide +kernel
theorem d_FaultList_isOther_6 : decode b_FaultList_isOther 6 = .ok (.iload_n 2, 1) := by decide +kernel
theorem d_FaultList_isOther_7 : decode b_FaultList_isOther 7 = .ok (.if_icmp .ne 17, 3) := by decide +kernel
theorem d_FaultList_isOther_10 : decode b_FaultList_isOther 10 = .ok (.aload_n 0, 1) := by decide +kernel
theorem d_FaultList_isOther_11 : decode b_FaultList_isOther 11 = .ok (.getfield 24, 3) := by decide +kernel
theorem d_FaultList_isOther_14 : decode b_FaultList_isOther 14 = .ok (.iload_n 1, 1) := by decide +kernel
theorem d_FaultList_isOther_15 : decode b_FaultList_isOther 15 = .ok (.iaload, 1) := by decide +kernel
theorem d_FaultList_isOther_16 : decode b_FaultList_isOther 16 = .ok (.iload_n 3, 1) := by decide +kernel
theorem d_FaultList_isOther_17 : decode b_FaultList_isOther 17 = .ok (.if_icmp .ne 7, 3) := by decide +kernel
theorem d_FaultList_isOther_20 : decode b_FaultList_isOther 20 = .ok (.iconst 1, 1) := by decide +kernel
theorem d_FaultList_isOther_21 : decode b_FaultList_isOther 21 = .ok (.goto 4, 3) := by decide +kernel
theorem d_FaultList_isOther_24 : decode b_FaultList_isOther 24 = .ok (.iconst 0, 1) := by decide +kernel
theorem d_FaultList_isOther_25 : decode b_FaultList_isOther 25 = .ok (.ireturn, 1) := by decide +kernel
theorem d_Memory_setCell_0 : decode b_Memory_setCell 0 = .ok (.aload_n 0, 1) := by decide +kernel
theorem d_Memory_setCell_1 : decode b_Memory_setCell 1 = .ok (.getfield 24, 3) := by decide +kernel
theorem d_Memory_setCell_4 : decode b_Memory_setCell 4 = .ok (.iload_n 1, 1) := by decide +kernel
theorem d_Memory_setCell_5 : decode b_Memory_setCell 5 = .ok (.iaload, 1) := by decide +kernel
theorem d_Memory_setCell_6 : decode b_Memory_setCell 6 = .ok (.iload_n 2, 1) := by decide +kernel
theorem d_Memory_setCell_7 : decode b_Memory_setCell 7 = .ok (.iand, 1) := by decide +kernel
theorem d_Memory_setCell_8 : decode b_Memory_setCell 8 = .ok (.iload_n 3, 1) := by decide +kernel
theorem d_Memory_setCell_9 : decode b_Memory_setCell 9 = .ok (.if_icmp .ne 4, 3) := by decide +kernel
theorem d_Memory_setCell_12 : decode b_Memory_setCell 12 = .ok (.return_, 1) := by decide +kernel
theorem d_Memory_setCell_13 : decode b_Memory_setCell 13 = .ok (.aload_n 0, 1) := by decide +kernel
theorem d_Memory_setCell_14 : decode b_Memory_setCell 14 = .ok (.getfield 24, 3) := by decide +kernel
theorem d_Memory_setCell_17 : decode b_Memory_setCell 17 = .ok (.iload_n 1, 1) := by decide +kernel
theorem d_Memory_setCell_18 : decode b_Memory_setCell 18 = .ok (.dup2, 1) := by decide +kernel
theorem d_Memory_setCell_19 : decode b_Memory_setCell 19 = .ok (.iaload, 1) := by decide +kernel
theorem d_Memory_setCell_20 : decode b_Memory_setCell 20 = .ok (.iload_n 2, 1) := by decide +kernel
theorem d_Memory_setCell_21 : decode b_Memory_setCell 21 = .ok (.ixor, 1) := by decide +kernel
theorem d_Memory_setCell_22 : decode b_Memory_setCell 22 = .ok (.iastore, 1) := by decide +kernel
theorem d_Memory_setCell_23 : decode b_Memory_setCell 23 = .ok (.iload_n 3, 1) := by decide +kernel
theorem d_Memory_setCell_24 : decode b_Memory_setCell 24 = .ok (.ifCond .eq 8, 3) := by decide +kernel
theorem d_Memory_setCell_27 : decode b_Memory_setCell 27 = .ok (.bipush 10, 2) := by decide +kernel
theorem d_Memory_setCell_29 : decode b_Memory_setCell 29 = .ok (.goto 5, 3) := by decide +kernel
theorem d_Memory_setCell_32 : decode b_Memory_setCell 32 = .ok (.bipush 11, 2) := by decide +kernel
theorem d_Memory_setCell_34 : decode b_Memory_setCell 34 = .ok (.istore 4, 2) := by decide +kernel
theorem d_Memory_setCell_36 : decode b_Memory_setCell 36 = .ok (.iconst 0, 1) := by decide +kernel
theorem d_Memory_setCell_37 : decode b_Memory_setCell 37 = .ok (.istore 5, 2) := by decide +kernel
theorem d_Memory_setCell_39 : decode b_Memory_setCell 39 = .ok (.iload 5, 2) := by decide +kernel
theorem d_Memory_setCell_41 : decode b_Memory_setCell 41 = .ok (.aload_n 0, 1) := by decide +kernel
theorem d_Memory_setCell_42 : decode b_Memory_setCell 42 = .ok (.getfield 33, 3) := by decide +kernel
theorem d_Memory_setCell_45 : decode b_Memory_setCell 45 = .ok (.getfield 58, 3) := by decide +kernel
theorem d_Memory_setCell_48 : decode b_Memory_setCell 48 = .ok (.if_icmp .ge 66, 3) := by decide +kernel
theorem d_Memory_setCell_51 : decode b_Memory_setCell 51 = .ok (.aload_n 0, 1) := by decide +kernel
theorem d_Memory_setCell_52 : decode b_Memory_setCell 52 = .ok (.getfield 33, 3) := by decide +kernel
theorem d_Memory_setCell_55 : decode b_Memory_setCell 55 = .ok (.getfield 61, 3) := by decide +kernel
theorem d_Memory_setCell_58 : decode b_Memory_setCell 58 = .ok (.iload 5, 2) := by decide +kernel
theorem d_Memory_setCell_60 : decode b_Memory_setCell 60 = .ok (.iaload, 1) := by decide +kernel
theorem d_Memory_setCell_61 : decode b_Memory_setCell 61 = .ok (.iload 4, 2) := by decide +kernel
theorem d_Memory_setCell_63 : decode b_Memory_setCell 63 = .ok (.if_icmp .ne 45, 3) := by decide +kernel
theorem d_Memory_setCell_66 : decode b_Memory_setCell 66 = .ok (.aload_n 0, 1) := by decide +kernel
theorem d_Memory_setCell_67 : decode b_Memory_setCell 67 = .ok (.getfield 33, 3) := by decide +kernel
theorem d_Memory_setCell_70 : decode b_Memory_setCell 70 = .ok (.iload 5, 2) := by decide +kernel
theorem d_Memory_setCell_72 : decode b_Memory_setCell 72 = .ok (.iload_n 1, 1) := by decide +kernel
theorem d_Memory_setCell_73 : decode b_Memory_setCell 73 = .ok (.iload_n 2, 1) := by decide +kernel
theorem d_Memory_setCell_74 : decode b_Memory_setCell 74 = .ok (.invokevirtual 87, 3) := by decide +kernel
theorem d_Memory_setCell_77 : decode b_Memory_setCell 77 = .ok (.ifCond .eq 31, 3) := by decide +kernel
theorem d_Memory_setCell_80 : decode b_Memory_setCell 80 = .ok (.aload_n 0, 1) := by decide +kernel
theorem d_Memory_setCell_81 : decode b_Memory_setCell 81 = .ok (.getfield 24, 3) := by decide +kernel
theorem d_Memory_setCell_84 : decode b_Memory_setCell 84 = .ok (.aload_n 0, 1) := by decide +kernel
theorem d_Memory_setCell_85 : decode b_Memory_setCell 85 = .ok (.getfield 33, 3) := by decide +kernel
theorem d_Memory_setCell_88 : decode b_Memory_setCell 88 = .ok (.getfield 64, 3) := by decide +kernel
theorem d_Memory_setCell_91 : decode b_Memory_setCell 91 = .ok (.iload 5, 2) := by decide +kernel
theorem d_Memory_setCell_93 : decode b_Memory_setCell 93 = .ok (.iaload, 1) := by decide +kernel
theorem d_Memory_setCell_94 : decode b_Memory_setCell 94 = .ok (.dup2, 1) := by decide +kernel
theorem d_Memory_setCell_95 : decode b_Memory_setCell 95 = .ok (.iaload, 1) := by decide +kernel
theorem d_Memory_setCell_96 : decode b_Memory_setCell 96 = .ok (.aload_n 0, 1) := by decide +kernel
theorem d_Memory_setCell_97 : decode b_Memory_setCell 97 = .ok (.getfield 33, 3) := by decide +kernel
theorem d_Memory_setCell_100 : decode b_Memory_setCell 100 = .ok (.getfield 67, 3) := by decide +kernel
theorem d_Memory_setCell_103 : decode b_Memory_setCell 103 = .ok (.iload 5, 2) := by decide +kernel
theorem d_Memory_setCell_105 : decode b_Memory_setCell 105 = .ok (.iaload, 1) := by decide +kernel
theorem d_Memory_setCell_106 : decode b_Memory_setCell 106 = .ok (.ixor, 1) := by decide +kernel
theorem d_Memory_setCell_107 : decode b_Memory_setCell 107 = .ok (.iastore, 1) := by decide +kernel
theorem d_Memory_setCell_108 : decode b_Memory_setCell 108 = .ok (.iinc 5 1, 3) := by decide +kernel
theorem d_Memory_setCell_111 : decode b_Memory_setCell 111 = .ok (.goto (-72), 3) := by decide +kernel
theorem d_Memory_setCell_114 : decode b_Memory_setCell 114 = .ok (.return_, 1) := by decide +kernel
theorem d_Memory_store_0 : decode b_Memory_store 0 = .ok (.aload_n 0, 1) := by decide +kernel
theorem d_Memory_store_1 : decode b_Memory_store 1 = .ok (.getfield 33, 3) := by decide +kernel
theorem d_Memory_store_4 : decode b_Memory_store 4 = .ok (.iload_n 1, 1) := by decide +kernel
theorem d_Memory_store_5 : decode b_Memory_store 5 = .ok (.invokevirtual 43, 3) := by decide +kernel
theorem d_Memory_store_8 : decode b_Memory_store 8 = .ok (.ifCond .eq 45, 3) := by decide +kernel
theorem d_Memory_store_11 : decode b_Memory_store 11 = .ok (.iconst 0, 1) := by decide +kernel
theorem d_Memory_store_12 : decode b_Memory_store 12 = .ok (.istore_n 3, 1) := by decide +kernel
theorem d_Memory_store_13 : decode b_Memory_store 13 = .ok (.iload_n 3, 1) := by decide +kernel
theorem d_Memory_store_14 : decode b_Memory_store 14 = .ok (.aload_n 0, 1) := by decide +kernel
theorem d_Memory_store_15 : decode b_Memory_store 15 = .ok (.getfield 21, 3) := by decide +kernel
theorem d_Memory_store_18 : decode b_Memory_store 18 = .ok (.if_icmp .ge 32, 3) := by decide +kernel
theorem d_Memory_store_21 : decode b_Memory_store 21 = .ok (.iconst 1, 1) := by decide +kernel
theorem d_Memory_store_22 : decode b_Memory_store 22 = .ok (.iload_n 3, 1) := by decide +kernel
theorem d_Memory_store_23 : decode b_Memory_store 23 = .ok (.ishl, 1) := by decide +kernel
theorem d_Memory_store_24 : decode b_Memory_store 24 = .ok (.istore 4, 2) := by decide +kernel
theorem d_Memory_store_26 : decode b_Memory_store 26 = .ok (.aload_n 0, 1) := by decide +kernel
theorem d_Memory_store_27 : decode b_Memory_store 27 = .ok (.iload_n 1, 1) := by decide +kernel
theorem d_Memory_store_28 : decode b_Memory_store 28 = .ok (.iload 4, 2) := by decide +kernel
theorem d_Memory_store_30 : decode b_Memory_store 30 = .ok (.aload_n 0, 1) := by decide +kernel
theorem d_Memory_store_31 : decode b_Memory_store 31 = .ok (.iload_n 1, 1) := by decide +kernel
theorem d_Memory_store_32 : decode b_Memory_store 32 = .ok (.iload 4, 2) := by decide +kernel
theorem d_Memory_store_34 : decode b_Memory_store 34 = .ok (.iload_n 2, 1) := by decide +kernel
theorem d_Memory_store_35 : decode b_Memory_store 35 = .ok (.iload 4, 2) := by decide +kernel
theorem d_Memory_store_37 : decode b_Memory_store 37 = .ok (.iand, 1) := by decide +kernel
theorem d_Memory_store_38 : decode b_Memory_store 38 = .ok (.invokevirtual 47, 3) := by decide +kernel
theorem d_Memory_store_41 : decode b_Memory_store 41 = .ok (.invokevirtual 51, 3) := by decide +kernel
theorem d_Memory_store_44 : decode b_Memory_store 44 = .ok (.iinc 3 1, 3) := by decide +kernel
theorem d_Memory_store_47 : decode b_Memory_store 47 = .ok (.goto (-34), 3) := by decide +kernel
theorem d_Memory_store_50 : decode b_Memory_store 50 = .ok (.goto 10, 3) := by decide +kernel
theorem d_Memory_store_53 : decode b_Memory_store 53 = .ok (.aload_n 0, 1) := by decide +kernel
theorem d_Memory_store_54 : decode b_Memory_store 54 = .ok (.getfield 24, 3) := by decide +kernel
theorem d_Memory_store_57 : decode b_Memory_store 57 = .ok (.iload_n 1, 1) := by decide +kernel
theorem d_Memory_store_58 : decode b_Memory_store 58 = .ok (.iload_n 2, 1) := by decide +kernel
theorem d_Memory_store_59 : decode b_Memory_store 59 = .ok (.iastore, 1) := by decide +kernel
theorem d_Memory_store_60 : decode b_Memory_store 60 = .ok (.aload_n 0, 1) := by decide +kernel
theorem d_Memory_store_61 : decode b_Memory_store 61 = .ok (.invokevirtual 40, 3) := by decide +kernel
theorem d_Memory_store_64 : decode b_Memory_store 64 = .ok (.return_, 1) := by decide +kernel
theorem d_Memory_isPulledDown_0 : decode b_Memory_isPulledDown 0 = .ok (.aload_n 0, 1) := by decide +kernel
theorem d_Memory_isPulledDown_1 : decode b_Memory_isPulledDown 1 = .ok (.getfield 33, 3) := by decide +kernel
theorem d_Memory_isPulledDown_4 : decode b_Memory_isPulledDown 4 = .ok (.iload_n 1, 1) := by decide +kernel
theorem d_Memory_isPulledDown_5 : decode b_Memory_isPulledDown 5 = .ok (.iload_n 2, 1) := by decide +kernel
theorem d_Memory_isPulledDown_6 : decode b_Memory_isPulledDown 6 = .ok (.iload_n 3, 1) := by decide +kernel
theorem d_Memory_isPulledDown_7 : decode b_Memory_isPulledDown 7 = .ok (.invokevirtual 70, 3) := by decide +kernel
theorem d_Memory_isPulledDown_10 : decode b_Memory_isPulledDown 10 = .ok (.ifCond .eq 36, 3) := by decide +kernel
theorem d_Memory_isPulledDown_13 : decode b_Memory_isPulledDown 13 = .ok (.aload_n 0, 1) := by decide +kernel
theorem d_Memory_isPulledDown_14 : decode b_Memory_isPulledDown 14 = .ok (.getfield 24, 3) := by decide +kernel
theorem d_Memory_isPulledDown_17 : decode b_Memory_isPulledDown 17 = .ok (.aload_n 0, 1) := by decide +kernel
theorem d_Memory_isPulledDown_18 : decode b_Memory_isPulledDown 18 = .ok (.getfield 33, 3) := by decide +kernel
theorem d_Memory_isPulledDown_21 : decode b_Memory_isPulledDown 21 = .ok (.getfield 81, 3) := by decide +kernel
theorem d_Memory_isPulledDown_24 : decode b_Memory_isPulledDown 24 = .ok (.iload_n 1, 1) := by decide +kernel
theorem d_Memory_isPulledDown_25 : decode b_Memory_isPulledDown 25 = .ok (.iaload, 1) := by decide +kernel
theorem d_Memory_isPulledDown_26 : decode b_Memory_isPulledDown 26 = .ok (.iaload, 1) := by decide +kernel
theorem d_Memory_isPulledDown_27 : decode b_Memory_isPulledDown 27 = .ok (.aload_n 0, 1) := by decide +kernel
theorem d_Memory_isPulledDown_28 : decode b_Memory_isPulledDown 28 = .ok (.getfield 33, 3) := by decide +kernel
theorem d_Memory_isPulledDown_31 : decode b_Memory_isPulledDown 31 = .ok (.getfield 84, 3) := by decide +kernel
theorem d_Memory_isPulledDown_34 : decode b_Memory_isPulledDown 34 = .ok (.iload_n 1, 1) := by decide +kernel
theorem d_Memory_isPulledDown_35 : decode b_Memory_isPulledDown 35 = .ok (.iaload, 1) := by decide +kernel
theorem d_Memory_isPulledDown_36 : decode b_Memory_isPulledDown 36 = .ok (.iand, 1) := by decide +kernel
theorem d_Memory_isPulledDown_37 : decode b_Memory_isPulledDown 37 = .ok (.ifCond .ne 7, 3) := by decide +kernel
theorem d_Memory_isPulledDown_40 : decode b_Memory_isPulledDown 40 = .ok (.iconst 1, 1) := by decide +kernel
theorem d_Memory_isPulledDown_41 : decode b_Memory_isPulledDown 41 = .ok (.goto 4, 3) := by decide +kernel
theorem d_Memory_isPulledDown_44 : decode b_Memory_isPulledDown 44 = .ok (.iconst 0, 1) := by decide +kernel
theorem d_Memory_isPulledDown_45 : decode b_Memory_isPulledDown 45 = .ok (.ireturn, 1) := by decide +kernel
theorem d_Memory_isPulledDown_46 : decode b_Memory_isPulledDown 46 = .ok (.aload_n 0, 1) := by decide +kernel
theorem d_Memory_isPulledDown_47 : decode b_Memory_isPulledDown 47 = .ok (.getfield 33, 3) := by decide +kernel
theorem d_Memory_isPulledDown_50 : decode b_Memory_isPulledDown 50 = .ok (.iload_n 1, 1) := by decide +kernel
theorem d_Memory_isPulledDown_51 : decode b_Memory_isPulledDown 51 = .ok (.iload_n 2, 1) := by decide +kernel
theorem d_Memory_isPulledDown_52 : decode b_Memory_isPulledDown 52 = .ok (.iload_n 3, 1) := by decide +kernel
theorem d_Memory_isPulledDown_53 : decode b_Memory_isPulledDown 53 = .ok (.invokevirtual 87, 3) := by decide +kernel
theorem d_Memory_isPulledDown_56 : decode b_Memory_isPulledDown 56 = .ok (.ifCond .eq 34, 3) := by decide +kernel
theorem d_Memory_isPulledDown_59 : decode b_Memory_isPulledDown 59 = .ok (.aload_n 0, 1) := by decide +kernel
theorem d_Memory_isPulledDown_60 : decode b_Memory_isPulledDown 60 = .ok (.getfield 24, 3) := by decide +kernel
theorem d_Memory_isPulledDown_63 : decode b_Memory_isPulledDown 63 = .ok (.aload_n 0, 1) := by decide +kernel
theorem d_Memory_isPulledDown_64 : decode b_Memory_isPulledDown 64 = .ok (.getfield 33, 3) := by decide +kernel
theorem d_Memory_isPulledDown_67 : decode b_Memory_isPulledDown 67 = .ok (.getfield 64, 3) := by decide +kernel
theorem d_Memory_isPulledDown_70 : decode b_Memory_isPulledDown 70 = .ok (.iload_n 1, 1) := by decide +kernel
theorem d_Memory_isPulledDown_71 : decode b_Memory_isPulledDown 71 = .ok (.iaload, 1) := by decide +kernel
theorem d_Memory_isPulledDown_72 : decode b_Memory_isPulledDown 72 = .ok (.iaload, 1) := by decide +kernel
theorem d_Memory_isPulledDown_73 : decode b_Memory_isPulledDown 73 = .ok (.aload_n 0, 1) := by decide +kernel
theorem d_Memory_isPulledDown_74 : decode b_Memory_isPulledDown 74 = .ok (.getfield 33, 3) := by decide +kernel
theorem d_Memory_isPulledDown_77 : decode b_Memory_isPulledDown 77 = .ok (.getfield 67, 3) := by decide +kernel
theorem d_Memory_isPulledDown_80 : decode b_Memory_isPulledDown 80 = .ok (.iload_n 1, 1) := by decide +kernel
theorem d_Memory_isPulledDown_81 : decode b_Memory_isPulledDown 81 = .ok (.iaload, 1) := by decide +kernel
theorem d_Memory_isPulledDown_82 : decode b_Memory_isPulledDown 82 = .ok (.iand, 1) := by decide +kernel
theorem d_Memory_isPulledDown_83 : decode b_Memory_isPulledDown 83 = .ok (.ifCond .ne 7, 3) := by decide +kernel
theorem d_Memory_isPulledDown_86 : decode b_Memory_isPulledDown 86 = .ok (.iconst 1, 1) := by decide +kernel
theorem d_Memory_isPulledDown_87 : decode b_Memory_isPulledDown 87 = .ok (.goto 4, 3) := by decide +kernel
theorem d_Memory_isPulledDown_90 : decode b_Memory_isPulledDown 90 = .ok (.iconst 0, 1) := by decide +kernel
theorem d_Memory_isPulledDown_91 : decode b_Memory_isPulledDown 91 = .ok (.ireturn, 1) := by decide +kernel
theorem d_Memory_fetchCell_0 : decode b_Memory_fetchCell 0 = .ok (.aload_n 0, 1) := by decide +kernel
theorem d_Memory_fetchCell_1 : decode b_Memory_fetchCell 1 = .ok (.getfield 24, 3) := by decide +kernel
theorem d_Memory_fetchCell_4 : decode b_Memory_fetchCell 4 = .ok (.iload_n 1, 1) := by decide +kernel
theorem d_Memory_fetchCell_5 : decode b_Memory_fetchCell 5 = .ok (.iaload, 1) := by decide +kernel
theorem d_Memory_fetchCell_6 : decode b_Memory_fetchCell 6 = .ok (.iload_n 2, 1) := by decide +kernel
theorem d_Memory_fetchCell_7 : decode b_Memory_fetchCell 7 = .ok (.iand, 1) := by decide +kernel
theorem d_Memory_fetchCell_8 : decode b_Memory_fetchCell 8 = .ok (.istore_n 3, 1) := by decide +kernel
theorem d_Memory_fetchCell_9 : decode b_Memory_fetchCell 9 = .ok (.iconst 0, 1) := by decide +kernel
theorem d_Memory_fetchCell_10 : decode b_Memory_fetchCell 10 = .ok (.istore 4, 2) := by decide +kernel
theorem d_Memory_fetchCell_12 : decode b_Memory_fetchCell 12 = .ok (.iload 4, 2) := by decide +kernel
theorem d_Memory_fetchCell_14 : decode b_Memory_fetchCell 14 = .ok (.aload_n 0, 1) := by decide +kernel
theorem d_Memory_fetchCell_15 : decode b_Memory_fetchCell 15 = .ok (.getfield 33, 3) := by decide +kernel
theorem d_Memory_fetchCell_18 : decode b_Memory_fetchCell 18 = .ok (.getfield 58, 3) := by decide +kernel
theorem d_Memory_fetchCell_21 : decode b_Memory_fetchCell 21 = .ok (.if_icmp .ge 140, 3) := by decide +kernel
theorem d_Memory_fetchCell_24 : decode b_Memory_fetchCell 24 = .ok (.aload_n 0, 1) := by decide +kernel
theorem d_Memory_fetchCell_25 : decode b_Memory_fetchCell 25 = .ok (.getfield 33, 3) := by decide +kernel
theorem d_Memory_fetchCell_28 : decode b_Memory_fetchCell 28 = .ok (.getfield 61, 3) := by decide +kernel
theorem d_Memory_fetchCell_31 : decode b_Memory_fetchCell 31 = .ok (.iload 4, 2) := by decide +kernel
theorem d_Memory_fetchCell_33 : decode b_Memory_fetchCell 33 = .ok (.iaload, 1) := by decide +kernel
theorem d_Memory_fetchCell_34 : decode b_Memory_fetchCell 34 = .ok (.istore 5, 2) := by decide +kernel
theorem d_Memory_fetchCell_36 : decode b_Memory_fetchCell 36 = .ok (.iload 5, 2) := by decide +kernel
theorem d_Memory_fetchCell_38 : decode b_Memory_fetchCell 38 = .ok (.bipush 13, 2) := by decide +kernel
theorem d_Memory_fetchCell_40 : decode b_Memory_fetchCell 40 = .ok (.if_icmp .ne 23, 3) := by decide +kernel
theorem d_Memory_fetchCell_43 : decode b_Memory_fetchCell 43 = .ok (.aload_n 0, 1) := by decide +kernel
theorem d_Memory_fetchCell_44 : decode b_Memory_fetchCell 44 = .ok (.iload 4, 2) := by decide +kernel
theorem d_Memory_fetchCell_46 : decode b_Memory_fetchCell 46 = .ok (.iload_n 1, 1) := by decide +kernel
theorem d_Memory_fetchCell_47 : decode b_Memory_fetchCell 47 = .ok (.iload_n 2, 1) := by decide +kernel
theorem d_Memory_fetchCell_48 : decode b_Memory_fetchCell 48 = .ok (.invokevirtual 78, 3) := by decide +kernel
theorem d_Memory_fetchCell_51 : decode b_Memory_fetchCell 51 = .ok (.ifCond .eq 7, 3) := by decide +kernel
theorem d_Memory_fetchCell_54 : decode b_Memory_fetchCell 54 = .ok (.iconst 0, 1) := by decide +kernel
theorem d_Memory_fetchCell_55 : decode b_Memory_fetchCell 55 = .ok (.goto 4, 3) := by decide +kernel
theorem d_Memory_fetchCell_58 : decode b_Memory_fetchCell 58 = .ok (.iload_n 3, 1) := by decide +kernel
theorem d_Memory_fetchCell_59 : decode b_Memory_fetchCell 59 = .ok (.istore_n 3, 1) := by decide +kernel
theorem d_Memory_fetchCell_60 : decode b_Memory_fetchCell 60 = .ok (.goto 95, 3) := by decide +kernel
theorem d_Memory_fetchCell_63 : decode b_Memory_fetchCell 63 = .ok (.aload_n 0, 1) := by decide +kernel
theorem d_Memory_fetchCell_64 : decode b_Memory_fetchCell 64 = .ok (.getfield 33, 3) := by decide +kernel
