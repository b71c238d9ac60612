theorem d_Memory_fetchCell_67 : decode b_Memory_fetchCell 67 = .ok (.iload 4, 2) := by decide +kernel
theorem d_Memory_fetchCell_69 : decode b_Memory_fetchCell 69 = .ok (.iload_n 1, 1) := by decide +kernel
theorem d_Memory_fetchCell_70 : decode b_Memory_fetchCell 70 = .ok (.iload_n 2, 1) := by decide +kernel
theorem d_Memory_fetchCell_71 : decode b_Memory_fetchCell 71 = .ok (.invokevirtual 70, 3) := by decide +kernel
theorem d_Memory_fetchCell_74 : decode b_Memory_fetchCell 74 = .ok (.ifCond .eq 81, 3) := by decide +kernel
theorem d_Memory_fetchCell_77 : decode b_Memory_fetchCell 77 = .ok (.aload_n 0, 1) := by decide +kernel
theorem d_Memory_fetchCell_78 : decode b_Memory_fetchCell 78 = .ok (.getfield 24, 3) := by decide +kernel
theorem d_Memory_fetchCell_81 : decode b_Memory_fetchCell 81 = .ok (.iload_n 1, 1) := by decide +kernel
theorem d_Memory_fetchCell_82 : decode b_Memory_fetchCell 82 = .ok (.iaload, 1) := by decide +kernel
theorem d_Memory_fetchCell_83 : decode b_Memory_fetchCell 83 = .ok (.iload_n 2, 1) := by decide +kernel
theorem d_Memory_fetchCell_84 : decode b_Memory_fetchCell 84 = .ok (.iand, 1) := by decide +kernel
theorem d_Memory_fetchCell_85 : decode b_Memory_fetchCell 85 = .ok (.iload_n 2, 1) := by decide +kernel
theorem d_Memory_fetchCell_86 : decode b_Memory_fetchCell 86 = .ok (.ixor, 1) := by decide +kernel
theorem d_Memory_fetchCell_87 : decode b_Memory_fetchCell 87 = .ok (.istore 6, 2) := by decide +kernel
theorem d_Memory_fetchCell_89 : decode b_Memory_fetchCell 89 = .ok (.iload 5, 2) := by decide +kernel
theorem d_Memory_fetchCell_91 : decode b_Memory_fetchCell 91 = .ok (.bipush 6, 2) := by decide +kernel
theorem d_Memory_fetchCell_93 : decode b_Memory_fetchCell 93 = .ok (.if_icmp .ne 17, 3) := by decide +kernel
theorem d_Memory_fetchCell_96 : decode b_Memory_fetchCell 96 = .ok (.aload_n 0, 1) := by decide +kernel
theorem d_Memory_fetchCell_97 : decode b_Memory_fetchCell 97 = .ok (.iload_n 1, 1) := by decide +kernel
theorem d_Memory_fetchCell_98 : decode b_Memory_fetchCell 98 = .ok (.iload_n 2, 1) := by decide +kernel
theorem d_Memory_fetchCell_99 : decode b_Memory_fetchCell 99 = .ok (.iload 6, 2) := by decide +kernel
theorem d_Memory_fetchCell_101 : decode b_Memory_fetchCell 101 = .ok (.invokevirtual 51, 3) := by decide +kernel
theorem d_Memory_fetchCell_104 : decode b_Memory_fetchCell 104 = .ok (.iload 6, 2) := by decide +kernel
theorem d_Memory_fetchCell_106 : decode b_Memory_fetchCell 106 = .ok (.istore_n 3, 1) := by decide +kernel
theorem d_Memory_fetchCell_107 : decode b_Memory_fetchCell 107 = .ok (.goto 48, 3) := by decide +kernel
theorem d_Memory_fetchCell_110 : decode b_Memory_fetchCell 110 = .ok (.iload 5, 2) := by decide +kernel
theorem d_Memory_fetchCell_112 : decode b_Memory_fetchCell 112 = .ok (.bipush 7, 2) := by decide +kernel
theorem d_Memory_fetchCell_114 : decode b_Memory_fetchCell 114 = .ok (.if_icmp .ne 14, 3) := by decide +kernel
theorem d_Memory_fetchCell_117 : decode b_Memory_fetchCell 117 = .ok (.aload_n 0, 1) := by decide +kernel
theorem d_Memory_fetchCell_118 : decode b_Memory_fetchCell 118 = .ok (.iload_n 1, 1) := by decide +kernel
theorem d_Memory_fetchCell_119 : decode b_Memory_fetchCell 119 = .ok (.iload_n 2, 1) := by decide +kernel
theorem d_Memory_fetchCell_120 : decode b_Memory_fetchCell 120 = .ok (.iload 6, 2) := by decide +kernel
theorem d_Memory_fetchCell_122 : decode b_Memory_fetchCell 122 = .ok (.invokevirtual 51, 3) := by decide +kernel
theorem d_Memory_fetchCell_125 : decode b_Memory_fetchCell 125 = .ok (.goto 30, 3) := by decide +kernel
theorem d_Memory_fetchCell_128 : decode b_Memory_fetchCell 128 = .ok (.iload 5, 2) := by decide +kernel
theorem d_Memory_fetchCell_130 : decode b_Memory_fetchCell 130 = .ok (.bipush 8, 2) := by decide +kernel
theorem d_Memory_fetchCell_132 : decode b_Memory_fetchCell 132 = .ok (.if_icmp .ne 10, 3) := by decide +kernel
theorem d_Memory_fetchCell_135 : decode b_Memory_fetchCell 135 = .ok (.iload_n 3, 1) := by decide +kernel
theorem d_Memory_fetchCell_136 : decode b_Memory_fetchCell 136 = .ok (.iload_n 2, 1) := by decide +kernel
theorem d_Memory_fetchCell_137 : decode b_Memory_fetchCell 137 = .ok (.ixor, 1) := by decide +kernel
theorem d_Memory_fetchCell_138 : decode b_Memory_fetchCell 138 = .ok (.istore_n 3, 1) := by decide +kernel
theorem d_Memory_fetchCell_139 : decode b_Memory_fetchCell 139 = .ok (.goto 16, 3) := by decide +kernel
theorem d_Memory_fetchCell_142 : decode b_Memory_fetchCell 142 = .ok (.iload 5, 2) := by decide +kernel
theorem d_Memory_fetchCell_144 : decode b_Memory_fetchCell 144 = .ok (.iconst 4, 1) := by decide +kernel
theorem d_Memory_fetchCell_145 : decode b_Memory_fetchCell 145 = .ok (.if_icmp .ne 10, 3) := by decide +kernel
theorem d_Memory_fetchCell_148 : decode b_Memory_fetchCell 148 = .ok (.aload_n 0, 1) := by decide +kernel
theorem d_Memory_fetchCell_149 : decode b_Memory_fetchCell 149 = .ok (.getfield 37, 3) := by decide +kernel
theorem d_Memory_fetchCell_152 : decode b_Memory_fetchCell 152 = .ok (.iload_n 2, 1) := by decide +kernel
theorem d_Memory_fetchCell_153 : decode b_Memory_fetchCell 153 = .ok (.iand, 1) := by decide +kernel
theorem d_Memory_fetchCell_154 : decode b_Memory_fetchCell 154 = .ok (.istore_n 3, 1) := by decide +kernel
theorem d_Memory_fetchCell_155 : decode b_Memory_fetchCell 155 = .ok (.iinc 4 1, 3) := by decide +kernel
theorem d_Memory_fetchCell_158 : decode b_Memory_fetchCell 158 = .ok (.goto (-146), 3) := by decide +kernel
theorem d_Memory_fetchCell_161 : decode b_Memory_fetchCell 161 = .ok (.iload_n 3, 1) := by decide +kernel
theorem d_Memory_fetchCell_162 : decode b_Memory_fetchCell 162 = .ok (.ireturn, 1) := by decide +kernel
theorem d_Memory_fetch_0 : decode b_Memory_fetch 0 = .ok (.aload_n 0, 1) := by decide +kernel
theorem d_Memory_fetch_1 : decode b_Memory_fetch 1 = .ok (.getfield 24, 3) := by decide +kernel
theorem d_Memory_fetch_4 : decode b_Memory_fetch 4 = .ok (.iload_n 1, 1) := by decide +kernel
theorem d_Memory_fetch_5 : decode b_Memory_fetch 5 = .ok (.iaload, 1) := by decide +kernel
theorem d_Memory_fetch_6 : decode b_Memory_fetch 6 = .ok (.istore_n 2, 1) := by decide +kernel
theorem d_Memory_fetch_7 : decode b_Memory_fetch 7 = .ok (.aload_n 0, 1) := by decide +kernel
theorem d_Memory_fetch_8 : decode b_Memory_fetch 8 = .ok (.getfield 33, 3) := by decide +kernel
theorem d_Memory_fetch_11 : decode b_Memory_fetch 11 = .ok (.iload_n 1, 1) := by decide +kernel
theorem d_Memory_fetch_12 : decode b_Memory_fetch 12 = .ok (.invokevirtual 43, 3) := by decide +kernel
theorem d_Memory_fetch_15 : decode b_Memory_fetch 15 = .ok (.ifCond .eq 32, 3) := by decide +kernel
theorem d_Memory_fetch_18 : decode b_Memory_fetch 18 = .ok (.iconst 0, 1) := by decide +kernel
theorem d_Memory_fetch_19 : decode b_Memory_fetch 19 = .ok (.istore_n 2, 1) := by decide +kernel
theorem d_Memory_fetch_20 : decode b_Memory_fetch 20 = .ok (.iconst 0, 1) := by decide +kernel
theorem d_Memory_fetch_21 : decode b_Memory_fetch 21 = .ok (.istore_n 3, 1) := by decide +kernel
theorem d_Memory_fetch_22 : decode b_Memory_fetch 22 = .ok (.iload_n 3, 1) := by decide +kernel
theorem d_Memory_fetch_23 : decode b_Memory_fetch 23 = .ok (.aload_n 0, 1) := by decide +kernel
theorem d_Memory_fetch_24 : decode b_Memory_fetch 24 = .ok (.getfield 21, 3) := by decide +kernel
theorem d_Memory_fetch_27 : decode b_Memory_fetch 27 = .ok (.if_icmp .ge 20, 3) := by decide +kernel
theorem d_Memory_fetch_30 : decode b_Memory_fetch 30 = .ok (.iload_n 2, 1) := by decide +kernel
theorem d_Memory_fetch_31 : decode b_Memory_fetch 31 = .ok (.aload_n 0, 1) := by decide +kernel
theorem d_Memory_fetch_32 : decode b_Memory_fetch 32 = .ok (.iload_n 1, 1) := by decide +kernel
theorem d_Memory_fetch_33 : decode b_Memory_fetch 33 = .ok (.iconst 1, 1) := by decide +kernel
theorem d_Memory_fetch_34 : decode b_Memory_fetch 34 = .ok (.iload_n 3, 1) := by decide +kernel
theorem d_Memory_fetch_35 : decode b_Memory_fetch 35 = .ok (.ishl, 1) := by decide +kernel
theorem d_Memory_fetch_36 : decode b_Memory_fetch 36 = .ok (.invokevirtual 55, 3) := by decide +kernel
theorem d_Memory_fetch_39 : decode b_Memory_fetch 39 = .ok (.ior, 1) := by decide +kernel
theorem d_Memory_fetch_40 : decode b_Memory_fetch 40 = .ok (.istore_n 2, 1) := by decide +kernel
theorem d_Memory_fetch_41 : decode b_Memory_fetch 41 = .ok (.iinc 3 1, 3) := by decide +kernel
theorem d_Memory_fetch_44 : decode b_Memory_fetch 44 = .ok (.goto (-22), 3) := by decide +kernel
theorem d_Memory_fetch_47 : decode b_Memory_fetch 47 = .ok (.aload_n 0, 1) := by decide +kernel
theorem d_Memory_fetch_48 : decode b_Memory_fetch 48 = .ok (.iload_n 2, 1) := by decide +kernel
theorem d_Memory_fetch_49 : decode b_Memory_fetch 49 = .ok (.putfield 37, 3) := by decide +kernel
theorem d_Memory_fetch_52 : decode b_Memory_fetch 52 = .ok (.aload_n 0, 1) := by decide +kernel
theorem d_Memory_fetch_53 : decode b_Memory_fetch 53 = .ok (.invokevirtual 40, 3) := by decide +kernel
theorem d_Memory_fetch_56 : decode b_Memory_fetch 56 = .ok (.iload_n 2, 1) := by decide +kernel
theorem d_Memory_fetch_57 : decode b_Memory_fetch 57 = .ok (.ireturn, 1) := by decide +kernel
theorem d_Tester_operate_0 : decode b_Tester_operate 0 = .ok (.aload_n 0, 1) := by decide +kernel
theorem d_Tester_operate_1 : decode b_Tester_operate 1 = .ok (.getfield 44, 3) := by decide +kernel
theorem d_Tester_operate_4 : decode b_Tester_operate 4 = .ok (.iload_n 2, 1) := by decide +kernel
theorem d_Tester_operate_5 : decode b_Tester_operate 5 = .ok (.iaload, 1) := by decide +kernel
theorem d_Tester_operate_6 : decode b_Tester_operate 6 = .ok (.istore_n 3, 1) := by decide +kernel
theorem d_Tester_operate_7 : decode b_Tester_operate 7 = .ok (.iload_n 1, 1) := by decide +kernel
theorem d_Tester_operate_8 : decode b_Tester_operate 8 = .ok (.iconst 4, 1) := by decide +kernel
theorem d_Tester_operate_9 : decode b_Tester_operate 9 = .ok (.iand, 1) := by decide +kernel
theorem d_Tester_operate_10 : decode b_Tester_operate 10 = .ok (.ifCond .eq 17, 3) := by decide +kernel
theorem d_Tester_operate_13 : decode b_Tester_operate 13 = .ok (.aload_n 0, 1) := by decide +kernel
theorem d_Tester_operate_14 : decode b_Tester_operate 14 = .ok (.getfield 47, 3) := by decide +kernel
theorem d_Tester_operate_17 : decode b_Tester_operate 17 = .ok (.iload_n 3, 1) := by decide +kernel
theorem d_Tester_operate_18 : decode b_Tester_operate 18 = .ok (.iaload, 1) := by decide +kernel
theorem d_Tester_operate_19 : decode b_Tester_operate 19 = .ok (.aload_n 0, 1) := by decide +kernel
theorem d_Tester_operate_20 : decode b_Tester_operate 20 = .ok (.getfield 21, 3) := by decide +kernel
theorem d_Tester_operate_23 : decode b_Tester_operate 23 = .ok (.ixor, 1) := by decide +kernel
theorem d_Tester_operate_24 : decode b_Tester_operate 24 = .ok (.goto 9, 3) := by decide +kernel
theorem d_Tester_operate_27 : decode b_Tester_operate 27 = .ok (.aload_n 0, 1) := by decide +kernel
theorem d_Tester_operate_28 : decode b_Tester_operate 28 = .ok (.getfield 47, 3) := by decide +kernel
theorem d_Tester_operate_31 : decode b_Tester_operate 31 = .ok (.iload_n 3, 1) := by decide +kernel
theorem d_Tester_operate_32 : decode b_Tester_operate 32 = .ok (.iaload, 1) := by decide +kernel
theorem d_Tester_operate_33 : decode b_Tester_operate 33 = .ok (.istore 4, 2) := by decide +kernel
theorem d_Tester_operate_35 : decode b_Tester_operate 35 = .ok (.iload_n 1, 1) := by decide +kernel
theorem d_Tester_operate_36 : decode b_Tester_operate 36 = .ok (.iconst 2, 1) := by decide +kernel
theorem d_Tester_operate_37 : decode b_Tester_operate 37 = .ok (.iand, 1) := by decide +kernel
theorem d_Tester_operate_38 : decode b_Tester_operate 38 = .ok (.ifCond .ne 15, 3) := by decide +kernel
theorem d_Tester_operate_41 : decode b_Tester_operate 41 = .ok (.aload_n 0, 1) := by decide +kernel
theorem d_Tester_operate_42 : decode b_Tester_operate 42 = .ok (.getfield 29, 3) := by decide +kernel
theorem d_Tester_operate_45 : decode b_Tester_operate 45 = .ok (.iload_n 3, 1) := by decide +kernel
theorem d_Tester_operate_46 : decode b_Tester_operate 46 = .ok (.iload 4, 2) := by decide +kernel
theorem d_Tester_operate_48 : decode b_Tester_operate 48 = .ok (.invokevirtual 92, 3) := by decide +kernel
theorem d_Tester_operate_51 : decode b_Tester_operate 51 = .ok (.iconst 0, 1) := by decide +kernel
theorem d_Tester_operate_52 : decode b_Tester_operate 52 = .ok (.ireturn, 1) := by decide +kernel
theorem d_Tester_operate_53 : decode b_Tester_operate 53 = .ok (.aload_n 0, 1) := by decide +kernel
theorem d_Tester_operate_54 : decode b_Tester_operate 54 = .ok (.getfield 29, 3) := by decide +kernel
theorem d_Tester_operate_57 : decode b_Tester_operate 57 = .ok (.iload_n 3, 1) := by decide +kernel
theorem d_Tester_operate_58 : decode b_Tester_operate 58 = .ok (.invokevirtual 95, 3) := by decide +kernel
theorem d_Tester_operate_61 : decode b_Tester_operate 61 = .ok (.iload 4, 2) := by decide +kernel
theorem d_Tester_operate_63 : decode b_Tester_operate 63 = .ok (.ixor, 1) := by decide +kernel
theorem d_Tester_operate_64 : decode b_Tester_operate 64 = .ok (.istore 5, 2) := by decide +kernel
theorem d_Tester_operate_66 : decode b_Tester_operate 66 = .ok (.aload_n 0, 1) := by decide +kernel
theorem d_Tester_operate_67 : decode b_Tester_operate 67 = .ok (.getfield 50, 3) := by decide +kernel
theorem d_Tester_operate_70 : decode b_Tester_operate 70 = .ok (.iconst 2, 1) := by decide +kernel
theorem d_Tester_operate_71 : decode b_Tester_operate 71 = .ok (.if_icmp .ne 33, 3) := by decide +kernel
theorem d_Tester_operate_74 : decode b_Tester_operate 74 = .ok (.aload_n 0, 1) := by decide +kernel
theorem d_Tester_operate_75 : decode b_Tester_operate 75 = .ok (.getfield 29, 3) := by decide +kernel
theorem d_Tester_operate_78 : decode b_Tester_operate 78 = .ok (.aload_n 0, 1) := by decide +kernel
theorem d_Tester_operate_79 : decode b_Tester_operate 79 = .ok (.getfield 44, 3) := by decide +kernel
theorem d_Tester_operate_82 : decode b_Tester_operate 82 = .ok (.iload_n 2, 1) := by decide +kernel
theorem d_Tester_operate_83 : decode b_Tester_operate 83 = .ok (.iconst 1, 1) := by decide +kernel
theorem d_Tester_operate_84 : decode b_Tester_operate 84 = .ok (.iadd, 1) := by decide +kernel
theorem d_Tester_operate_85 : decode b_Tester_operate 85 = .ok (.aload_n 0, 1) := by decide +kernel
theorem d_Tester_operate_86 : decode b_Tester_operate 86 = .ok (.getfield 15, 3) := by decide +kernel
theorem d_Tester_operate_89 : decode b_Tester_operate 89 = .ok (.if_icmp .ge 9, 3) := by decide +kernel
theorem d_Tester_operate_92 : decode b_Tester_operate 92 = .ok (.iload_n 2, 1) := by decide +kernel
theorem d_Tester_operate_93 : decode b_Tester_operate 93 = .ok (.iconst 1, 1) := by decide +kernel
theorem d_Tester_operate_94 : decode b_Tester_operate 94 = .ok (.iadd, 1) := by decide +kernel
theorem d_Tester_operate_95 : decode b_Tester_operate 95 = .ok (.goto 4, 3) := by decide +kernel
theorem d_Tester_operate_98 : decode b_Tester_operate 98 = .ok (.iconst 0, 1) := by decide +kernel
theorem d_Tester_operate_99 : decode b_Tester_operate 99 = .ok (.iaload, 1) := by decide +kernel
theorem d_Tester_operate_100 : decode b_Tester_operate 100 = .ok (.invokevirtual 95, 3) := by decide +kernel
theorem d_Tester_operate_103 : decode b_Tester_operate 103 = .ok (.pop, 1) := by decide +kernel
theorem d_Tester_operate_104 : decode b_Tester_operate 104 = .ok (.iload 5, 2) := by decide +kernel
theorem d_Tester_operate_106 : decode b_Tester_operate 106 = .ok (.ireturn, 1) := by decide +kernel
theorem d_Failures_add_0 : decode b_Failures_add 0 = .ok (.aload_n 0, 1) := by decide +kernel
theorem d_Failures_add_1 : decode b_Failures_add 1 = .ok (.getfield 15, 3) := by decide +kernel
theorem d_Failures_add_4 : decode b_Failures_add 4 = .ok (.sipush 300, 3) := by decide +kernel
theorem d_Failures_add_7 : decode b_Failures_add 7 = .ok (.if_icmp .lt 4, 3) := by decide +kernel
theorem d_Failures_add_10 : decode b_Failures_add 10 = .ok (.return_, 1) := by decide +kernel
theorem d_Failures_add_11 : decode b_Failures_add 11 = .ok (.aload_n 0, 1) := by decide +kernel
theorem d_Failures_add_12 : decode b_Failures_add 12 = .ok (.getfield 15, 3) := by decide +kernel
theorem d_Failures_add_15 : decode b_Failures_add 15 = .ok (.iconst 4, 1) := by decide +kernel
theorem d_Failures_add_16 : decode b_Failures_add 16 = .ok (.imul, 1) := by decide +kernel
theorem d_Failures_add_17 : decode b_Failures_add 17 = .ok (.istore 5, 2) := by decide +kernel
theorem d_Failures_add_19 : decode b_Failures_add 19 = .ok (.aload_n 0, 1) := by decide +kernel
theorem d_Failures_add_20 : decode b_Failures_add 20 = .ok (.getfield 11, 3) := by decide +kernel
theorem d_Failures_add_23 : decode b_Failures_add 23 = .ok (.iload 5, 2) := by decide +kernel
theorem d_Failures_add_25 : decode b_Failures_add 25 = .ok (.iload_n 1, 1) := by decide +kernel
theorem d_Failures_add_26 : decode b_Failures_add 26 = .ok (.iastore, 1) := by decide +kernel
theorem d_Failures_add_27 : decode b_Failures_add 27 = .ok (.aload_n 0, 1) := by decide +kernel
theorem d_Failures_add_28 : decode b_Failures_add 28 = .ok (.getfield 11, 3) := by decide +kernel
theorem d_Failures_add_31 : decode b_Failures_add 31 = .ok (.iload 5, 2) := by decide +kernel
theorem d_Failures_add_33 : decode b_Failures_add 33 = .ok (.iconst 1, 1) := by decide +kernel
theorem d_Failures_add_34 : decode b_Failures_add 34 = .ok (.iadd, 1) := by decide +kernel
theorem d_Failures_add_35 : decode b_Failures_add 35 = .ok (.iload_n 2, 1) := by decide +kernel
theorem d_Failures_add_36 : decode b_Failures_add 36 = .ok (.iastore, 1) := by decide +kernel
theorem d_Failures_add_37 : decode b_Failures_add 37 = .ok (.aload_n 0, 1) := by decide +kernel
theorem d_Failures_add_38 : decode b_Failures_add 38 = .ok (.getfield 11, 3) := by decide +kernel
theorem d_Failures_add_41 : decode b_Failures_add 41 = .ok (.iload 5, 2) := by decide +kernel
theorem d_Failures_add_43 : decode b_Failures_add 43 = .ok (.iconst 2, 1) := by decide +kernel
theorem d_Failures_add_44 : decode b_Failures_add 44 = .ok (.iadd, 1) := by decide +kernel
theorem d_Failures_add_45 : decode b_Failures_add 45 = .ok (.iload_n 3, 1) := by decide +kernel
theorem d_Failures_add_46 : decode b_Failures_add 46 = .ok (.iastore, 1) := by decide +kernel
theorem d_Failures_add_47 : decode b_Failures_add 47 = .ok (.aload_n 0, 1) := by decide +kernel
theorem d_Failures_add_48 : decode b_Failures_add 48 = .ok (.getfield 11, 3) := by decide +kernel
theorem d_Failures_add_51 : decode b_Failures_add 51 = .ok (.iload 5, 2) := by decide +kernel
theorem d_Failures_add_53 : decode b_Failures_add 53 = .ok (.iconst 3, 1) := by decide +kernel
theorem d_Failures_add_54 : decode b_Failures_add 54 = .ok (.iadd, 1) := by decide +kernel
theorem d_Failures_add_55 : decode b_Failures_add 55 = .ok (.iload 4, 2) := by decide +kernel
theorem d_Failures_add_57 : decode b_Failures_add 57 = .ok (.iastore, 1) := by decide +kernel
theorem d_Failures_add_58 : decode b_Failures_add 58 = .ok (.aload_n 0, 1) := by decide +kernel
theorem d_Failures_add_59 : decode b_Failures_add 59 = .ok (.dup, 1) := by decide +kernel
theorem d_Failures_add_60 : decode b_Failures_add 60 = .ok (.getfield 15, 3) := by decide +kernel
theorem d_Failures_add_63 : decode b_Failures_add 63 = .ok (.iconst 1, 1) := by decide +kernel
theorem d_Failures_add_64 : decode b_Failures_add 64 = .ok (.iadd, 1) := by decide +kernel
theorem d_Failures_add_65 : decode b_Failures_add 65 = .ok (.putfield 15, 3) := by decide +kernel
theorem d_Failures_add_68 : decode b_Failures_add 68 = .ok (.return_, 1) := by decide +kernel
theorem d_Tester_elementFails_0 : decode b_Tester_elementFails 0 = .ok (.aload_n 1, 1) := by decide +kernel
theorem d_Tester_elementFails_1 : decode b_Tester_elementFails 1 = .ok (.getfield 75, 3) := by decide +kernel
theorem d_Tester_elementFails_4 : decode b_Tester_elementFails 4 = .ok (.iload_n 2, 1) := by decide +kernel
theorem d_Tester_elementFails_5 : decode b_Tester_elementFails 5 = .ok (.iaload, 1) := by decide +kernel
theorem d_Tester_elementFails_6 : decode b_Tester_elementFails 6 = .ok (.istore 4, 2) := by decide +kernel
theorem d_Tester_elementFails_8 : decode b_Tester_elementFails 8 = .ok (.aload_n 1, 1) := by decide +kernel
theorem d_Tester_elementFails_9 : decode b_Tester_elementFails 9 = .ok (.getfield 75, 3) := by decide +kernel
theorem d_Tester_elementFails_12 : decode b_Tester_elementFails 12 = .ok (.iload_n 2, 1) := by decide +kernel
theorem d_Tester_elementFails_13 : decode b_Tester_elementFails 13 = .ok (.iconst 1, 1) := by decide +kernel
theorem d_Tester_elementFails_14 : decode b_Tester_elementFails 14 = .ok (.iadd, 1) := by decide +kernel
theorem d_Tester_elementFails_15 : decode b_Tester_elementFails 15 = .ok (.iaload, 1) := by decide +kernel
theorem d_Tester_elementFails_16 : decode b_Tester_elementFails 16 = .ok (.istore 5, 2) := by decide +kernel
theorem d_Tester_elementFails_18 : decode b_Tester_elementFails 18 = .ok (.aload_n 1, 1) := by decide +kernel
theorem d_Tester_elementFails_19 : decode b_Tester_elementFails 19 = .ok (.getfield 72, 3) := by decide +kernel
theorem d_Tester_elementFails_22 : decode b_Tester_elementFails 22 = .ok (.iload 4, 2) := by decide +kernel
theorem d_Tester_elementFails_24 : decode b_Tester_elementFails 24 = .ok (.iaload, 1) := by decide +kernel
theorem d_Tester_elementFails_25 : decode b_Tester_elementFails 25 = .ok (.iconst 1, 1) := by decide +kernel
theorem d_Tester_elementFails_26 : decode b_Tester_elementFails 26 = .ok (.iand, 1) := by decide +kernel
theorem d_Tester_elementFails_27 : decode b_Tester_elementFails 27 = .ok (.ifCond .eq 7, 3) := by decide +kernel
theorem d_Tester_elementFails_30 : decode b_Tester_elementFails 30 = .ok (.iconst 1, 1) := by decide +kernel
theorem d_Tester_elementFails_31 : decode b_Tester_elementFails 31 = .ok (.goto 4, 3) := by decide +kernel
theorem d_Tester_elementFails_34 : decode b_Tester_elementFails 34 = .ok (.iconst 0, 1) := by decide +kernel
theorem d_Tester_elementFails_35 : decode b_Tester_elementFails 35 = .ok (.istore 6, 2) := by decide +kernel
theorem d_Tester_elementFails_37 : decode b_Tester_elementFails 37 = .ok (.iconst 0, 1) := by decide +kernel
theorem d_Tester_elementFails_38 : decode b_Tester_elementFails 38 = .ok (.istore 7, 2) := by decide +kernel
theorem d_Tester_elementFails_40 : decode b_Tester_elementFails 40 = .ok (.iconst 0, 1) := by decide +kernel
theorem d_Tester_elementFails_41 : decode b_Tester_elementFails 41 = .ok (.istore 8, 2) := by decide +kernel
theorem d_Tester_elementFails_43 : decode b_Tester_elementFails 43 = .ok (.iload 8, 2) := by decide +kernel
theorem d_Tester_elementFails_45 : decode b_Tester_elementFails 45 = .ok (.aload_n 0, 1) := by decide +kernel
theorem d_Tester_elementFails_46 : decode b_Tester_elementFails 46 = .ok (.getfield 15, 3) := by decide +kernel
theorem d_Tester_elementFails_49 : decode b_Tester_elementFails 49 = .ok (.if_icmp .ge 98, 3) := by decide +kernel
theorem d_Tester_elementFails_52 : decode b_Tester_elementFails 52 = .ok (.iload 6, 2) := by decide +kernel
theorem d_Tester_elementFails_54 : decode b_Tester_elementFails 54 = .ok (.ifCond .eq 15, 3) := by decide +kernel
theorem d_Tester_elementFails_57 : decode b_Tester_elementFails 57 = .ok (.aload_n 0, 1) := by decide +kernel
theorem d_Tester_elementFails_58 : decode b_Tester_elementFails 58 = .ok (.getfield 15, 3) := by decide +kernel
theorem d_Tester_elementFails_61 : decode b_Tester_elementFails 61 = .ok (.iconst 1, 1) := by decide +kernel
theorem d_Tester_elementFails_62 : decode b_Tester_elementFails 62 = .ok (.isub, 1) := by decide +kernel
theorem d_Tester_elementFails_63 : decode b_Tester_elementFails 63 = .ok (.iload 8, 2) := by decide +kernel
theorem d_Tester_elementFails_65 : decode b_Tester_elementFails 65 = .ok (.isub, 1) := by decide +kernel
theorem d_Tester_elementFails_66 : decode b_Tester_elementFails 66 = .ok (.goto 5, 3) := by decide +kernel
theorem d_Tester_elementFails_69 : decode b_Tester_elementFails 69 = .ok (.iload 8, 2) := by decide +kernel
theorem d_Tester_elementFails_71 : decode b_Tester_elementFails 71 = .ok (.istore 9, 2) := by decide +kernel
theorem d_Tester_elementFails_73 : decode b_Tester_elementFails 73 = .ok (.iload 4, 2) := by decide +kernel
theorem d_Tester_elementFails_75 : decode b_Tester_elementFails 75 = .ok (.istore 10, 2) := by decide +kernel
theorem d_Tester_elementFails_77 : decode b_Tester_elementFails 77 = .ok (.iload 10, 2) := by decide +kernel
theorem d_Tester_elementFails_79 : decode b_Tester_elementFails 79 = .ok (.iload 5, 2) := by decide +kernel
theorem d_Tester_elementFails_81 : decode b_Tester_elementFails 81 = .ok (.if_icmp .ge 60, 3) := by decide +kernel
theorem d_Tester_elementFails_84 : decode b_Tester_elementFails 84 = .ok (.aload_n 0, 1) := by decide +kernel
theorem d_Tester_elementFails_85 : decode b_Tester_elementFails 85 = .ok (.aload_n 1, 1) := by decide +kernel
theorem d_Tester_elementFails_86 : decode b_Tester_elementFails 86 = .ok (.getfield 72, 3) := by decide +kernel
theorem d_Tester_elementFails_89 : decode b_Tester_elementFails 89 = .ok (.iload 10, 2) := by decide +kernel
theorem d_Tester_elementFails_91 : decode b_Tester_elementFails 91 = .ok (.iaload, 1) := by decide +kernel
theorem d_Tester_elementFails_92 : decode b_Tester_elementFails 92 = .ok (.iload 9, 2) := by decide +kernel
theorem d_Tester_elementFails_94 : decode b_Tester_elementFails 94 = .ok (.invokevirtual 85, 3) := by decide +kernel
theorem d_Tester_elementFails_97 : decode b_Tester_elementFails 97 = .ok (.istore 11, 2) := by decide +kernel
theorem d_Tester_elementFails_99 : decode b_Tester_elementFails 99 = .ok (.iload 11, 2) := by decide +kernel
theorem d_Tester_elementFails_101 : decode b_Tester_elementFails 101 = .ok (.ifCond .eq 34, 3) := by decide +kernel
theorem d_Tester_elementFails_104 : decode b_Tester_elementFails 104 = .ok (.iload_n 3, 1) := by decide +kernel
theorem d_Tester_elementFails_105 : decode b_Tester_elementFails 105 = .ok (.ifCond .ne 5, 3) := by decide +kernel
theorem d_Tester_elementFails_108 : decode b_Tester_elementFails 108 = .ok (.iconst 1, 1) := by decide +kernel
theorem d_Tester_elementFails_109 : decode b_Tester_elementFails 109 = .ok (.ireturn, 1) := by decide +kernel
theorem d_Tester_elementFails_110 : decode b_Tester_elementFails 110 = .ok (.iconst 1, 1) := by decide +kernel
theorem d_Tester_elementFails_111 : decode b_Tester_elementFails 111 = .ok (.istore 7, 2) := by decide +kernel
theorem d_Tester_elementFails_113 : decode b_Tester_elementFails 113 = .ok (.aload_n 0, 1) := by decide +kernel
theorem d_Tester_elementFails_114 : decode b_Tester_elementFails 114 = .ok (.getfield 36, 3) := by decide +kernel
theorem d_Tester_elementFails_117 : decode b_Tester_elementFails 117 = .ok (.iload_n 2, 1) := by decide +kernel
theorem d_Tester_elementFails_118 : decode b_Tester_elementFails 118 = .ok (.iload 10, 2) := by decide +kernel
theorem d_Tester_elementFails_120 : decode b_Tester_elementFails 120 = .ok (.iload 4, 2) := by decide +kernel
theorem d_Tester_elementFails_122 : decode b_Tester_elementFails 122 = .ok (.isub, 1) := by decide +kernel
theorem d_Tester_elementFails_123 : decode b_Tester_elementFails 123 = .ok (.aload_n 0, 1) := by decide +kernel
theorem d_Tester_elementFails_124 : decode b_Tester_elementFails 124 = .ok (.getfield 44, 3) := by decide +kernel
theorem d_Tester_elementFails_127 : decode b_Tester_elementFails 127 = .ok (.iload 9, 2) := by decide +kernel
theorem d_Tester_elementFails_129 : decode b_Tester_elementFails 129 = .ok (.iaload, 1) := by decide +kernel
theorem d_Tester_elementFails_130 : decode b_Tester_elementFails 130 = .ok (.iload 11, 2) := by decide +kernel
theorem d_Tester_elementFails_132 : decode b_Tester_elementFails 132 = .ok (.invokevirtual 88, 3) := by decide +kernel
theorem d_Tester_elementFails_135 : decode b_Tester_elementFails 135 = .ok (.iinc 10 1, 3) := by decide +kernel
theorem d_Tester_elementFails_138 : decode b_Tester_elementFails 138 = .ok (.goto (-61), 3) := by decide +kernel
theorem d_Tester_elementFails_141 : decode b_Tester_elementFails 141 = .ok (.iinc 8 1, 3) := by decide +kernel
theorem d_Tester_elementFails_144 : decode b_Tester_elementFails 144 = .ok (.goto (-101), 3) := by decide +kernel
theorem d_Tester_elementFails_147 : decode b_Tester_elementFails 147 = .ok (.iload 7, 2) := by decide +kernel
theorem d_Tester_elementFails_149 : decode b_Tester_elementFails 149 = .ok (.ireturn, 1) := by decide +kernel
theorem d_Tester_marchFails_0 : decode b_Tester_marchFails 0 = .ok (.aload_n 0, 1) := by decide +kernel
theorem d_Tester_marchFails_1 : decode b_Tester_marchFails 1 = .ok (.getfield 29, 3) := by decide +kernel
theorem d_Tester_marchFails_4 : decode b_Tester_marchFails 4 = .ok (.aload_n 2, 1) := by decide +kernel
theorem d_Tester_marchFails_5 : decode b_Tester_marchFails 5 = .ok (.invokevirtual 63, 3) := by decide +kernel
theorem d_Tester_marchFails_8 : decode b_Tester_marchFails 8 = .ok (.iconst 0, 1) := by decide +kernel
theorem d_Tester_marchFails_9 : decode b_Tester_marchFails 9 = .ok (.istore 4, 2) := by decide +kernel
theorem d_Tester_marchFails_11 : decode b_Tester_marchFails 11 = .ok (.iconst 0, 1) := by decide +kernel
theorem d_Tester_marchFails_12 : decode b_Tester_marchFails 12 = .ok (.istore 5, 2) := by decide +kernel
theorem d_Tester_marchFails_14 : decode b_Tester_marchFails 14 = .ok (.iload 5, 2) := by decide +kernel
theorem d_Tester_marchFails_16 : decode b_Tester_marchFails 16 = .ok (.aload_n 1, 1) := by decide +kernel
theorem d_Tester_marchFails_17 : decode b_Tester_marchFails 17 = .ok (.getfield 67, 3) := by decide +kernel
theorem d_Tester_marchFails_20 : decode b_Tester_marchFails 20 = .ok (.if_icmp .ge 60, 3) := by decide +kernel
theorem d_Tester_marchFails_23 : decode b_Tester_marchFails 23 = .ok (.iload_n 3, 1) := by decide +kernel
theorem d_Tester_marchFails_24 : decode b_Tester_marchFails 24 = .ok (.ifCond .ne 8, 3) := by decide +kernel
theorem d_Tester_marchFails_27 : decode b_Tester_marchFails 27 = .ok (.iload 4, 2) := by decide +kernel
theorem d_Tester_marchFails_29 : decode b_Tester_marchFails 29 = .ok (.ifCond .ne 51, 3) := by decide +kernel
theorem d_Tester_marchFails_32 : decode b_Tester_marchFails 32 = .ok (.aload_n 1, 1) := by decide +kernel
theorem d_Tester_marchFails_33 : decode b_Tester_marchFails 33 = .ok (.getfield 72, 3) := by decide +kernel
theorem d_Tester_marchFails_36 : decode b_Tester_marchFails 36 = .ok (.aload_n 1, 1) := by decide +kernel
theorem d_Tester_marchFails_37 : decode b_Tester_marchFails 37 = .ok (.getfield 75, 3) := by decide +kernel
theorem d_Tester_marchFails_40 : decode b_Tester_marchFails 40 = .ok (.iload 5, 2) := by decide +kernel
theorem d_Tester_marchFails_42 : decode b_Tester_marchFails 42 = .ok (.iaload, 1) := by decide +kernel
theorem d_Tester_marchFails_43 : decode b_Tester_marchFails 43 = .ok (.iaload, 1) := by decide +kernel
theorem d_Tester_marchFails_44 : decode b_Tester_marchFails 44 = .ok (.bipush 16, 2) := by decide +kernel
theorem d_Tester_marchFails_46 : decode b_Tester_marchFails 46 = .ok (.iand, 1) := by decide +kernel
theorem d_Tester_marchFails_47 : decode b_Tester_marchFails 47 = .ok (.ifCond .eq 13, 3) := by decide +kernel
theorem d_Tester_marchFails_50 : decode b_Tester_marchFails 50 = .ok (.aload_n 0, 1) := by decide +kernel
theorem d_Tester_marchFails_51 : decode b_Tester_marchFails 51 = .ok (.getfield 29, 3) := by decide +kernel
theorem d_Tester_marchFails_54 : decode b_Tester_marchFails 54 = .ok (.invokevirtual 78, 3) := by decide +kernel
theorem d_Tester_marchFails_57 : decode b_Tester_marchFails 57 = .ok (.goto 17, 3) := by decide +kernel
theorem d_Tester_marchFails_60 : decode b_Tester_marchFails 60 = .ok (.aload_n 0, 1) := by decide +kernel
theorem d_Tester_marchFails_61 : decode b_Tester_marchFails 61 = .ok (.aload_n 1, 1) := by decide +kernel
theorem d_Tester_marchFails_62 : decode b_Tester_marchFails 62 = .ok (.iload 5, 2) := by decide +kernel
theorem d_Tester_marchFails_64 : decode b_Tester_marchFails 64 = .ok (.iload_n 3, 1) := by decide +kernel
theorem d_Tester_marchFails_65 : decode b_Tester_marchFails 65 = .ok (.invokevirtual 81, 3) := by decide +kernel
theorem d_Tester_marchFails_68 : decode b_Tester_marchFails 68 = .ok (.ifCond .eq 6, 3) := by decide +kernel
theorem d_Tester_marchFails_71 : decode b_Tester_marchFails 71 = .ok (.iconst 1, 1) := by decide +kernel
theorem d_Tester_marchFails_72 : decode b_Tester_marchFails 72 = .ok (.istore 4, 2) := by decide +kernel
theorem d_Tester_marchFails_74 : decode b_Tester_marchFails 74 = .ok (.iinc 5 1, 3) := by decide +kernel
theorem d_Tester_marchFails_77 : decode b_Tester_marchFails 77 = .ok (.goto (-63), 3) := by decide +kernel
theorem d_Tester_marchFails_80 : decode b_Tester_marchFails 80 = .ok (.iload 4, 2) := by decide +kernel
theorem d_Tester_marchFails_82 : decode b_Tester_marchFails 82 = .ok (.ireturn, 1) := by decide +kernel
theorem d_MT_run_0 : decode b_MT_run 0 = .ok (.aload_n 0, 1) := by decide +kernel
theorem d_MT_run_1 : decode b_MT_run 1 = .ok (.invokevirtual 126, 3) := by decide +kernel
theorem d_MT_run_4 : decode b_MT_run 4 = .ok (.ifCond .ne 13, 3) := by decide +kernel
theorem d_MT_run_7 : decode b_MT_run 7 = .ok (.new 108, 3) := by decide +kernel
theorem d_MT_run_10 : decode b_MT_run 10 = .ok (.dup, 1) := by decide +kernel
theorem d_MT_run_11 : decode b_MT_run 11 = .ok (.ldc 130, 2) := by decide +kernel
theorem d_MT_run_13 : decode b_MT_run 13 = .ok (.invokespecial 112, 3) := by decide +kernel
theorem d_MT_run_16 : decode b_MT_run 16 = .ok (.athrow, 1) := by decide +kernel
theorem d_MT_run_17 : decode b_MT_run 17 = .ok (.iload_n 1, 1) := by decide +kernel
theorem d_MT_run_18 : decode b_MT_run 18 = .ok (.ifCond .lt 8, 3) := by decide +kernel
theorem d_MT_run_21 : decode b_MT_run 21 = .ok (.iload_n 1, 1) := by decide +kernel
theorem d_MT_run_22 : decode b_MT_run 22 = .ok (.iconst 3, 1) := by decide +kernel
theorem d_MT_run_23 : decode b_MT_run 23 = .ok (.if_icmp .lt 13, 3) := by decide +kernel
theorem d_MT_run_26 : decode b_MT_run 26 = .ok (.new 116, 3) := by decide +kernel
theorem d_MT_run_29 : decode b_MT_run 29 = .ok (.dup, 1) := by decide +kernel
theorem d_MT_run_30 : decode b_MT_run 30 = .ok (.ldc 132, 2) := by decide +kernel
theorem d_MT_run_32 : decode b_MT_run 32 = .ok (.invokespecial 120, 3) := by decide +kernel
theorem d_MT_run_35 : decode b_MT_run 35 = .ok (.athrow, 1) := by decide +kernel
theorem d_MT_run_36 : decode b_MT_run 36 = .ok (.aload_n 0, 1) := by decide +kernel
theorem d_MT_run_37 : decode b_MT_run 37 = .ok (.getfield 56, 3) := by decide +kernel
theorem d_MT_run_40 : decode b_MT_run 40 = .ok (.getfield 134, 3) := by decide +kernel
theorem d_MT_run_43 : decode b_MT_run 43 = .ok (.invokevirtual 138, 3) := by decide +kernel
theorem d_MT_run_46 : decode b_MT_run 46 = .ok (.aload_n 0, 1) := by decide +kernel
theorem d_MT_run_47 : decode b_MT_run 47 = .ok (.getfield 56, 3) := by decide +kernel
theorem d_MT_run_50 : decode b_MT_run 50 = .ok (.iload_n 1, 1) := by decide +kernel
theorem d_MT_run_51 : decode b_MT_run 51 = .ok (.invokevirtual 141, 3) := by decide +kernel
theorem d_MT_run_54 : decode b_MT_run 54 = .ok (.aload_n 0, 1) := by decide +kernel
theorem d_MT_run_55 : decode b_MT_run 55 = .ok (.getfield 56, 3) := by decide +kernel
theorem d_MT_run_58 : decode b_MT_run 58 = .ok (.aload_n 0, 1) := by decide +kernel
theorem d_MT_run_59 : decode b_MT_run 59 = .ok (.getfield 70, 3) := by decide +kernel
theorem d_MT_run_62 : decode b_MT_run 62 = .ok (.aload_n 0, 1) := by decide +kernel
theorem d_MT_run_63 : decode b_MT_run 63 = .ok (.getfield 44, 3) := by decide +kernel
theorem d_MT_run_66 : decode b_MT_run 66 = .ok (.iconst 1, 1) := by decide +kernel
theorem d_MT_run_67 : decode b_MT_run 67 = .ok (.invokevirtual 144, 3) := by decide +kernel
theorem d_MT_run_70 : decode b_MT_run 70 = .ok (.ifCond .eq 7, 3) := by decide +kernel
theorem d_MT_run_73 : decode b_MT_run 73 = .ok (.iconst 1, 1) := by decide +kernel
theorem d_MT_run_74 : decode b_MT_run 74 = .ok (.goto 4, 3) := by decide +kernel
theorem d_MT_run_77 : decode b_MT_run 77 = .ok (.iconst 0, 1) := by decide +kernel
theorem d_MT_run_78 : decode b_MT_run 78 = .ok (.ireturn, 1) := by decide +kernel
theorem d_MT_covered_0 : decode b_MT_covered 0 = .ok (.aload_n 0, 1) := by decide +kernel
theorem d_MT_covered_1 : decode b_MT_covered 1 = .ok (.invokevirtual 126, 3) := by decide +kernel
theorem d_MT_covered_4 : decode b_MT_covered 4 = .ok (.ifCond .ne 13, 3) := by decide +kernel
theorem d_MT_covered_7 : decode b_MT_covered 7 = .ok (.new 108, 3) := by decide +kernel
theorem d_MT_covered_10 : decode b_MT_covered 10 = .ok (.dup, 1) := by decide +kernel
theorem d_MT_covered_11 : decode b_MT_covered 11 = .ok (.ldc 130, 2) := by decide +kernel
theorem d_MT_covered_13 : decode b_MT_covered 13 = .ok (.invokespecial 112, 3) := by decide +kernel
theorem d_MT_covered_16 : decode b_MT_covered 16 = .ok (.athrow, 1) := by decide +kernel
theorem d_MT_covered_17 : decode b_MT_covered 17 = .ok (.iload_n 1, 1) := by decide +kernel
theorem d_MT_covered_18 : decode b_MT_covered 18 = .ok (.invokestatic 113, 3) := by decide +kernel
theorem d_MT_covered_21 : decode b_MT_covered 21 = .ok (.ifCond .ne 13, 3) := by decide +kernel
theorem d_MT_covered_24 : decode b_MT_covered 24 = .ok (.new 116, 3) := by decide +kernel
theorem d_MT_covered_27 : decode b_MT_covered 27 = .ok (.dup, 1) := by decide +kernel
theorem d_MT_covered_28 : decode b_MT_covered 28 = .ok (.ldc 118, 2) := by decide +kernel
theorem d_MT_covered_30 : decode b_MT_covered 30 = .ok (.invokespecial 120, 3) := by decide +kernel
theorem d_MT_covered_33 : decode b_MT_covered 33 = .ok (.athrow, 1) := by decide +kernel
theorem d_MT_covered_34 : decode b_MT_covered 34 = .ok (.iload_n 2, 1) := by decide +kernel
theorem d_MT_covered_35 : decode b_MT_covered 35 = .ok (.ifCond .eq 18, 3) := by decide +kernel
theorem d_MT_covered_38 : decode b_MT_covered 38 = .ok (.iload_n 2, 1) := by decide +kernel
theorem d_MT_covered_39 : decode b_MT_covered 39 = .ok (.iconst 1, 1) := by decide +kernel
theorem d_MT_covered_40 : decode b_MT_covered 40 = .ok (.if_icmp .eq 13, 3) := by decide +kernel
theorem d_MT_covered_43 : decode b_MT_covered 43 = .ok (.new 116, 3) := by decide +kernel
theorem d_MT_covered_46 : decode b_MT_covered 46 = .ok (.dup, 1) := by decide +kernel
theorem d_MT_covered_47 : decode b_MT_covered 47 = .ok (.ldc 148, 2) := by decide +kernel
theorem d_MT_covered_49 : decode b_MT_covered 49 = .ok (.invokespecial 120, 3) := by decide +kernel
theorem d_MT_covered_52 : decode b_MT_covered 52 = .ok (.athrow, 1) := by decide +kernel
theorem d_MT_covered_53 : decode b_MT_covered 53 = .ok (.iload_n 1, 1) := by decide +kernel
theorem d_MT_covered_54 : decode b_MT_covered 54 = .ok (.invokestatic 95, 3) := by decide +kernel
theorem d_MT_covered_57 : decode b_MT_covered 57 = .ok (.istore_n 3, 1) := by decide +kernel
theorem d_MT_covered_58 : decode b_MT_covered 58 = .ok (.iload_n 2, 1) := by decide +kernel
theorem d_MT_covered_59 : decode b_MT_covered 59 = .ok (.iconst 1, 1) := by decide +kernel
theorem d_MT_covered_60 : decode b_MT_covered 60 = .ok (.if_icmp .ne 28, 3) := by decide +kernel
theorem d_MT_covered_63 : decode b_MT_covered 63 = .ok (.iload_n 3, 1) := by decide +kernel
theorem d_MT_covered_64 : decode b_MT_covered 64 = .ok (.ifCond .eq 18, 3) := by decide +kernel
theorem d_MT_covered_67 : decode b_MT_covered 67 = .ok (.aload_n 0, 1) := by decide +kernel
theorem d_MT_covered_68 : decode b_MT_covered 68 = .ok (.getfield 22, 3) := by decide +kernel
theorem d_MT_covered_71 : decode b_MT_covered 71 = .ok (.aload_n 0, 1) := by decide +kernel
theorem d_MT_covered_72 : decode b_MT_covered 72 = .ok (.getfield 22, 3) := by decide +kernel
theorem d_MT_covered_75 : decode b_MT_covered 75 = .ok (.iconst 1, 1) := by decide +kernel
theorem d_MT_covered_76 : decode b_MT_covered 76 = .ok (.isub, 1) := by decide +kernel
theorem d_MT_covered_77 : decode b_MT_covered 77 = .ok (.imul, 1) := by decide +kernel
theorem d_MT_covered_78 : decode b_MT_covered 78 = .ok (.i2l, 1) := by decide +kernel
theorem d_MT_covered_79 : decode b_MT_covered 79 = .ok (.goto 8, 3) := by decide +kernel
theorem d_MT_covered_82 : decode b_MT_covered 82 = .ok (.aload_n 0, 1) := by decide +kernel
theorem d_MT_covered_83 : decode b_MT_covered 83 = .ok (.getfield 22, 3) := by decide +kernel
theorem d_MT_covered_86 : decode b_MT_covered 86 = .ok (.i2l, 1) := by decide +kernel
theorem d_MT_covered_87 : decode b_MT_covered 87 = .ok (.lreturn, 1) := by decide +kernel
theorem d_MT_covered_88 : decode b_MT_covered 88 = .ok (.lconst 0, 1) := by decide +kernel
theorem d_MT_covered_89 : decode b_MT_covered 89 = .ok (.lstore 4, 2) := by decide +kernel
theorem d_MT_covered_91 : decode b_MT_covered 91 = .ok (.aload_n 0, 1) := by decide +kernel
theorem d_MT_covered_92 : decode b_MT_covered 92 = .ok (.getfield 56, 3) := by decide +kernel
theorem d_MT_covered_95 : decode b_MT_covered 95 = .ok (.iconst 0, 1) := by decide +kernel
theorem d_MT_covered_96 : decode b_MT_covered 96 = .ok (.invokevirtual 141, 3) := by decide +kernel
theorem d_MT_covered_99 : decode b_MT_covered 99 = .ok (.iconst 0, 1) := by decide +kernel
theorem d_MT_covered_100 : decode b_MT_covered 100 = .ok (.istore 6, 2) := by decide +kernel
theorem d_MT_covered_102 : decode b_MT_covered 102 = .ok (.iload 6, 2) := by decide +kernel
theorem d_MT_covered_104 : decode b_MT_covered 104 = .ok (.aload_n 0, 1) := by decide +kernel
theorem d_MT_covered_105 : decode b_MT_covered 105 = .ok (.getfield 22, 3) := by decide +kernel
theorem d_MT_covered_108 : decode b_MT_covered 108 = .ok (.if_icmp .ge 91, 3) := by decide +kernel
theorem d_MT_covered_111 : decode b_MT_covered 111 = .ok (.iconst 0, 1) := by decide +kernel
theorem d_MT_covered_112 : decode b_MT_covered 112 = .ok (.istore 7, 2) := by decide +kernel
theorem d_MT_covered_114 : decode b_MT_covered 114 = .ok (.iload 7, 2) := by decide +kernel
theorem d_MT_covered_116 : decode b_MT_covered 116 = .ok (.aload_n 0, 1) := by decide +kernel
theorem d_MT_covered_117 : decode b_MT_covered 117 = .ok (.getfield 22, 3) := by decide +kernel
theorem d_MT_covered_120 : decode b_MT_covered 120 = .ok (.if_icmp .ge 73, 3) := by decide +kernel
theorem d_MT_covered_123 : decode b_MT_covered 123 = .ok (.iload_n 3, 1) := by decide +kernel
theorem d_MT_covered_124 : decode b_MT_covered 124 = .ok (.iload 6, 2) := by decide +kernel
theorem d_MT_covered_126 : decode b_MT_covered 126 = .ok (.iload 7, 2) := by decide +kernel
theorem d_MT_covered_128 : decode b_MT_covered 128 = .ok (.if_icmp .eq 7, 3) := by decide +kernel
theorem d_MT_covered_131 : decode b_MT_covered 131 = .ok (.iconst 1, 1) := by decide +kernel
theorem d_MT_covered_132 : decode b_MT_covered 132 = .ok (.goto 4, 3) := by decide +kernel
theorem d_MT_covered_135 : decode b_MT_covered 135 = .ok (.iconst 0, 1) := by decide +kernel
theorem d_MT_covered_136 : decode b_MT_covered 136 = .ok (.if_icmp .ne 51, 3) := by decide +kernel
theorem d_MT_covered_139 : decode b_MT_covered 139 = .ok (.aload_n 0, 1) := by decide +kernel
theorem d_MT_covered_140 : decode b_MT_covered 140 = .ok (.getfield 48, 3) := by decide +kernel
theorem d_MT_covered_143 : decode b_MT_covered 143 = .ok (.invokevirtual 91, 3) := by decide +kernel
theorem d_MT_covered_146 : decode b_MT_covered 146 = .ok (.aload_n 0, 1) := by decide +kernel
theorem d_MT_covered_147 : decode b_MT_covered 147 = .ok (.getfield 48, 3) := by decide +kernel
theorem d_MT_covered_150 : decode b_MT_covered 150 = .ok (.iload_n 1, 1) := by decide +kernel
theorem d_MT_covered_151 : decode b_MT_covered 151 = .ok (.iload 6, 2) := by decide +kernel
theorem d_MT_covered_153 : decode b_MT_covered 153 = .ok (.iload 7, 2) := by decide +kernel
theorem d_MT_covered_155 : decode b_MT_covered 155 = .ok (.invokevirtual 123, 3) := by decide +kernel
theorem d_MT_covered_158 : decode b_MT_covered 158 = .ok (.lload 4, 2) := by decide +kernel
theorem d_MT_covered_160 : decode b_MT_covered 160 = .ok (.aload_n 0, 1) := by decide +kernel
theorem d_MT_covered_161 : decode b_MT_covered 161 = .ok (.getfield 56, 3) := by decide +kernel
theorem d_MT_covered_164 : decode b_MT_covered 164 = .ok (.aload_n 0, 1) := by decide +kernel
theorem d_MT_covered_165 : decode b_MT_covered 165 = .ok (.getfield 70, 3) := by decide +kernel
theorem d_MT_covered_168 : decode b_MT_covered 168 = .ok (.aload_n 0, 1) := by decide +kernel
theorem d_MT_covered_169 : decode b_MT_covered 169 = .ok (.getfield 48, 3) := by decide +kernel
theorem d_MT_covered_172 : decode b_MT_covered 172 = .ok (.iconst 0, 1) := by decide +kernel
theorem d_MT_covered_173 : decode b_MT_covered 173 = .ok (.invokevirtual 144, 3) := by decide +kernel
theorem d_MT_covered_176 : decode b_MT_covered 176 = .ok (.ifCond .eq 7, 3) := by decide +kernel
theorem d_MT_covered_179 : decode b_MT_covered 179 = .ok (.lconst 1, 1) := by decide +kernel
theorem d_MT_covered_180 : decode b_MT_covered 180 = .ok (.goto 4, 3) := by decide +kernel
theorem d_MT_covered_183 : decode b_MT_covered 183 = .ok (.lconst 0, 1) := by decide +kernel
theorem d_MT_covered_184 : decode b_MT_covered 184 = .ok (.ladd, 1) := by decide +kernel
theorem d_MT_covered_185 : decode b_MT_covered 185 = .ok (.lstore 4, 2) := by decide +kernel
theorem d_MT_covered_187 : decode b_MT_covered 187 = .ok (.iinc 7 1, 3) := by decide +kernel
theorem d_MT_covered_190 : decode b_MT_covered 190 = .ok (.goto (-76), 3) := by decide +kernel
theorem d_MT_covered_193 : decode b_MT_covered 193 = .ok (.iinc 6 1, 3) := by decide +kernel
theorem d_MT_covered_196 : decode b_MT_covered 196 = .ok (.goto (-94), 3) := by decide +kernel
theorem d_MT_covered_199 : decode b_MT_covered 199 = .ok (.lload 4, 2) := by decide +kernel
theorem d_MT_covered_201 : decode b_MT_covered 201 = .ok (.lreturn, 1) := by decide +kernel
theorem d_MT_machine_0 : decode b_MT_machine 0 = .ok (.aload_n 0, 1) := by decide +kernel
theorem d_MT_machine_1 : decode b_MT_machine 1 = .ok (.invokevirtual 126, 3) := by decide +kernel
theorem d_MT_machine_4 : decode b_MT_machine 4 = .ok (.ifCond .ne 13, 3) := by decide +kernel
theorem d_MT_machine_7 : decode b_MT_machine 7 = .ok (.new 108, 3) := by decide +kernel
theorem d_MT_machine_10 : decode b_MT_machine 10 = .ok (.dup, 1) := by decide +kernel
theorem d_MT_machine_11 : decode b_MT_machine 11 = .ok (.ldc 130, 2) := by decide +kernel
theorem d_MT_machine_13 : decode b_MT_machine 13 = .ok (.invokespecial 112, 3) := by decide +kernel
theorem d_MT_machine_16 : decode b_MT_machine 16 = .ok (.athrow, 1) := by decide +kernel
theorem d_MT_machine_17 : decode b_MT_machine 17 = .ok (.iload_n 1, 1) := by decide +kernel
theorem d_MT_machine_18 : decode b_MT_machine 18 = .ok (.ifCond .lt 14, 3) := by decide +kernel
theorem d_MT_machine_21 : decode b_MT_machine 21 = .ok (.iload_n 1, 1) := by decide +kernel
theorem d_MT_machine_22 : decode b_MT_machine 22 = .ok (.aload_n 0, 1) := by decide +kernel
theorem d_MT_machine_23 : decode b_MT_machine 23 = .ok (.getfield 70, 3) := by decide +kernel
theorem d_MT_machine_26 : decode b_MT_machine 26 = .ok (.getfield 150, 3) := by decide +kernel
theorem d_MT_machine_29 : decode b_MT_machine 29 = .ok (.if_icmp .lt 13, 3) := by decide +kernel
theorem d_MT_machine_32 : decode b_MT_machine 32 = .ok (.new 98, 3) := by decide +kernel
theorem d_MT_machine_35 : decode b_MT_machine 35 = .ok (.dup, 1) := by decide +kernel
theorem d_MT_machine_36 : decode b_MT_machine 36 = .ok (.ldc 153, 2) := by decide +kernel
theorem d_MT_machine_38 : decode b_MT_machine 38 = .ok (.invokespecial 102, 3) := by decide +kernel
theorem d_MT_machine_41 : decode b_MT_machine 41 = .ok (.athrow, 1) := by decide +kernel
theorem d_MT_machine_42 : decode b_MT_machine 42 = .ok (.aload_n 0, 1) := by decide +kernel
theorem d_MT_machine_43 : decode b_MT_machine 43 = .ok (.getfield 70, 3) := by decide +kernel
theorem d_MT_machine_46 : decode b_MT_machine 46 = .ok (.getfield 155, 3) := by decide +kernel
theorem d_MT_machine_49 : decode b_MT_machine 49 = .ok (.iload_n 1, 1) := by decide +kernel
theorem d_MT_machine_50 : decode b_MT_machine 50 = .ok (.iaload, 1) := by decide +kernel
theorem d_MT_machine_51 : decode b_MT_machine 51 = .ok (.ireturn, 1) := by decide +kernel
theorem d_MT_isWord_0 : decode b_MT_isWord 0 = .ok (.iload_n 1, 1) := by decide +kernel
theorem d_MT_isWord_1 : decode b_MT_isWord 1 = .ok (.ifCond .lt 15, 3) := by decide +kernel
theorem d_MT_isWord_4 : decode b_MT_isWord 4 = .ok (.iload_n 1, 1) := by decide +kernel
theorem d_MT_isWord_5 : decode b_MT_isWord 5 = .ok (.aload_n 0, 1) := by decide +kernel
theorem d_MT_isWord_6 : decode b_MT_isWord 6 = .ok (.getfield 18, 3) := by decide +kernel
theorem d_MT_isWord_9 : decode b_MT_isWord 9 = .ok (.if_icmp .ge 7, 3) := by decide +kernel
theorem d_MT_isWord_12 : decode b_MT_isWord 12 = .ok (.iconst 1, 1) := by decide +kernel
theorem d_MT_isWord_13 : decode b_MT_isWord 13 = .ok (.goto 4, 3) := by decide +kernel
theorem d_MT_isWord_16 : decode b_MT_isWord 16 = .ok (.iconst 0, 1) := by decide +kernel
theorem d_MT_isWord_17 : decode b_MT_isWord 17 = .ok (.ireturn, 1) := by decide +kernel
theorem d_Tester_exchange_0 : decode b_Tester_exchange 0 = .ok (.aload_n 0, 1) := by decide +kernel
theorem d_Tester_exchange_1 : decode b_Tester_exchange 1 = .ok (.getfield 40, 3) := by decide +kernel
theorem d_Tester_exchange_4 : decode b_Tester_exchange 4 = .ok (.iload_n 1, 1) := by decide +kernel
theorem d_Tester_exchange_5 : decode b_Tester_exchange 5 = .ok (.iaload, 1) := by decide +kernel
theorem d_Tester_exchange_6 : decode b_Tester_exchange 6 = .ok (.istore_n 3, 1) := by decide +kernel
theorem d_Tester_exchange_7 : decode b_Tester_exchange 7 = .ok (.aload_n 0, 1) := by decide +kernel
theorem d_Tester_exchange_8 : decode b_Tester_exchange 8 = .ok (.getfield 40, 3) := by decide +kernel
theorem d_Tester_exchange_11 : decode b_Tester_exchange 11 = .ok (.iload_n 1, 1) := by decide +kernel
theorem d_Tester_exchange_12 : decode b_Tester_exchange 12 = .ok (.aload_n 0, 1) := by decide +kernel
theorem d_Tester_exchange_13 : decode b_Tester_exchange 13 = .ok (.getfield 40, 3) := by decide +kernel
theorem d_Tester_exchange_16 : decode b_Tester_exchange 16 = .ok (.iload_n 2, 1) := by decide +kernel
theorem d_Tester_exchange_17 : decode b_Tester_exchange 17 = .ok (.iaload, 1) := by decide +kernel
theorem d_Tester_exchange_18 : decode b_Tester_exchange 18 = .ok (.iastore, 1) := by decide +kernel
theorem d_Tester_exchange_19 : decode b_Tester_exchange 19 = .ok (.aload_n 0, 1) := by decide +kernel
theorem d_Tester_exchange_20 : decode b_Tester_exchange 20 = .ok (.getfield 40, 3) := by decide +kernel
theorem d_Tester_exchange_23 : decode b_Tester_exchange 23 = .ok (.iload_n 2, 1) := by decide +kernel
theorem d_Tester_exchange_24 : decode b_Tester_exchange 24 = .ok (.iload_n 3, 1) := by decide +kernel
theorem d_Tester_exchange_25 : decode b_Tester_exchange 25 = .ok (.iastore, 1) := by decide +kernel
theorem d_Tester_exchange_26 : decode b_Tester_exchange 26 = .ok (.return_, 1) := by decide +kernel
theorem d_MT_scramble_0 : decode b_MT_scramble 0 = .ok (.aload_n 0, 1) := by decide +kernel
theorem d_MT_scramble_1 : decode b_MT_scramble 1 = .ok (.iload_n 1, 1) := by decide +kernel
theorem d_MT_scramble_2 : decode b_MT_scramble 2 = .ok (.invokevirtual 159, 3) := by decide +kernel
theorem d_MT_scramble_5 : decode b_MT_scramble 5 = .ok (.ifCond .eq 11, 3) := by decide +kernel
theorem d_MT_scramble_8 : decode b_MT_scramble 8 = .ok (.aload_n 0, 1) := by decide +kernel
theorem d_MT_scramble_9 : decode b_MT_scramble 9 = .ok (.iload_n 2, 1) := by decide +kernel
theorem d_MT_scramble_10 : decode b_MT_scramble 10 = .ok (.invokevirtual 159, 3) := by decide +kernel
theorem d_MT_scramble_13 : decode b_MT_scramble 13 = .ok (.ifCond .ne 13, 3) := by decide +kernel
theorem d_MT_scramble_16 : decode b_MT_scramble 16 = .ok (.new 98, 3) := by decide +kernel
theorem d_MT_scramble_19 : decode b_MT_scramble 19 = .ok (.dup, 1) := by decide +kernel
theorem d_MT_scramble_20 : decode b_MT_scramble 20 = .ok (.ldc 162, 2) := by decide +kernel
theorem d_MT_scramble_22 : decode b_MT_scramble 22 = .ok (.invokespecial 102, 3) := by decide +kernel
theorem d_MT_scramble_25 : decode b_MT_scramble 25 = .ok (.athrow, 1) := by decide +kernel
theorem d_MT_scramble_26 : decode b_MT_scramble 26 = .ok (.aload_n 0, 1) := by decide +kernel
theorem d_MT_scramble_27 : decode b_MT_scramble 27 = .ok (.getfield 56, 3) := by decide +kernel
theorem d_MT_scramble_30 : decode b_MT_scramble 30 = .ok (.iload_n 1, 1) := by decide +kernel
theorem d_MT_scramble_31 : decode b_MT_scramble 31 = .ok (.iload_n 2, 1) := by decide +kernel
theorem d_MT_scramble_32 : decode b_MT_scramble 32 = .ok (.invokevirtual 164, 3) := by decide +kernel
theorem d_MT_scramble_35 : decode b_MT_scramble 35 = .ok (.iload_n 1, 1) := by decide +kernel
theorem d_MT_scramble_36 : decode b_MT_scramble 36 = .ok (.iload_n 2, 1) := by decide +kernel
theorem d_MT_scramble_37 : decode b_MT_scramble 37 = .ok (.if_icmp .eq 7, 3) := by decide +kernel
theorem d_MT_scramble_40 : decode b_MT_scramble 40 = .ok (.iconst 1, 1) := by decide +kernel
theorem d_MT_scramble_41 : decode b_MT_scramble 41 = .ok (.goto 4, 3) := by decide +kernel
theorem d_MT_scramble_44 : decode b_MT_scramble 44 = .ok (.iconst 0, 1) := by decide +kernel
theorem d_MT_scramble_45 : decode b_MT_scramble 45 = .ok (.ireturn, 1) := by decide +kernel
theorem d_Failures_part_0 : decode b_Failures_part 0 = .ok (.aload_n 0, 1) := by decide +kernel
theorem d_Failures_part_1 : decode b_Failures_part 1 = .ok (.getfield 11, 3) := by decide +kernel
theorem d_Failures_part_4 : decode b_Failures_part 4 = .ok (.iload_n 1, 1) := by decide +kernel
theorem d_Failures_part_5 : decode b_Failures_part 5 = .ok (.iconst 4, 1) := by decide +kernel
theorem d_Failures_part_6 : decode b_Failures_part 6 = .ok (.imul, 1) := by decide +kernel
theorem d_Failures_part_7 : decode b_Failures_part 7 = .ok (.iload_n 2, 1) := by decide +kernel
theorem d_Failures_part_8 : decode b_Failures_part 8 = .ok (.iadd, 1) := by decide +kernel
theorem d_Failures_part_9 : decode b_Failures_part 9 = .ok (.iaload, 1) := by decide +kernel
theorem d_Failures_part_10 : decode b_Failures_part 10 = .ok (.ireturn, 1) := by decide +kernel
theorem d_MT_failing_0 : decode b_MT_failing 0 = .ok (.aload_n 0, 1) := by decide +kernel
theorem d_MT_failing_1 : decode b_MT_failing 1 = .ok (.getfield 56, 3) := by decide +kernel
theorem d_MT_failing_4 : decode b_MT_failing 4 = .ok (.getfield 134, 3) := by decide +kernel
theorem d_MT_failing_7 : decode b_MT_failing 7 = .ok (.astore_n 3, 1) := by decide +kernel
theorem d_MT_failing_8 : decode b_MT_failing 8 = .ok (.iload_n 1, 1) := by decide +kernel
theorem d_MT_failing_9 : decode b_MT_failing 9 = .ok (.ifCond .lt 15, 3) := by decide +kernel
theorem d_MT_failing_12 : decode b_MT_failing 12 = .ok (.iload_n 1, 1) := by decide +kernel
theorem d_MT_failing_13 : decode b_MT_failing 13 = .ok (.aload_n 3, 1) := by decide +kernel
theorem d_MT_failing_14 : decode b_MT_failing 14 = .ok (.getfield 167, 3) := by decide +kernel
theorem d_MT_failing_17 : decode b_MT_failing 17 = .ok (.if_icmp .ge 7, 3) := by decide +kernel
theorem d_MT_failing_20 : decode b_MT_failing 20 = .ok (.iconst 1, 1) := by decide +kernel
theorem d_MT_failing_21 : decode b_MT_failing 21 = .ok (.goto 4, 3) := by decide +kernel
theorem d_MT_failing_24 : decode b_MT_failing 24 = .ok (.iconst 0, 1) := by decide +kernel
theorem d_MT_failing_25 : decode b_MT_failing 25 = .ok (.istore 4, 2) := by decide +kernel
theorem d_MT_failing_27 : decode b_MT_failing 27 = .ok (.iload_n 2, 1) := by decide +kernel
theorem d_MT_failing_28 : decode b_MT_failing 28 = .ok (.iconst 4, 1) := by decide +kernel
theorem d_MT_failing_29 : decode b_MT_failing 29 = .ok (.if_icmp .ne 17, 3) := by decide +kernel
theorem d_MT_failing_32 : decode b_MT_failing 32 = .ok (.iload 4, 2) := by decide +kernel
theorem d_MT_failing_34 : decode b_MT_failing 34 = .ok (.ifCond .ne 7, 3) := by decide +kernel
theorem d_MT_failing_37 : decode b_MT_failing 37 = .ok (.iload_n 1, 1) := by decide +kernel
theorem d_MT_failing_38 : decode b_MT_failing 38 = .ok (.ifCond .ne 8, 3) := by decide +kernel
theorem d_MT_failing_41 : decode b_MT_failing 41 = .ok (.aload_n 3, 1) := by decide +kernel
theorem d_MT_failing_42 : decode b_MT_failing 42 = .ok (.getfield 167, 3) := by decide +kernel
theorem d_MT_failing_45 : decode b_MT_failing 45 = .ok (.ireturn, 1) := by decide +kernel
theorem d_MT_failing_46 : decode b_MT_failing 46 = .ok (.iload 4, 2) := by decide +kernel
theorem d_MT_failing_48 : decode b_MT_failing 48 = .ok (.ifCond .eq 12, 3) := by decide +kernel
theorem d_MT_failing_51 : decode b_MT_failing 51 = .ok (.iload_n 2, 1) := by decide +kernel
theorem d_MT_failing_52 : decode b_MT_failing 52 = .ok (.ifCond .lt 8, 3) := by decide +kernel
theorem d_MT_failing_55 : decode b_MT_failing 55 = .ok (.iload_n 2, 1) := by decide +kernel
theorem d_MT_failing_56 : decode b_MT_failing 56 = .ok (.iconst 4, 1) := by decide +kernel
theorem d_MT_failing_57 : decode b_MT_failing 57 = .ok (.if_icmp .lt 13, 3) := by decide +kernel
theorem d_MT_failing_60 : decode b_MT_failing 60 = .ok (.new 98, 3) := by decide +kernel
theorem d_MT_failing_63 : decode b_MT_failing 63 = .ok (.dup, 1) := by decide +kernel
theorem d_MT_failing_64 : decode b_MT_failing 64 = .ok (.ldc 168, 2) := by decide +kernel
theorem d_MT_failing_66 : decode b_MT_failing 66 = .ok (.invokespecial 102, 3) := by decide +kernel
theorem d_MT_failing_69 : decode b_MT_failing 69 = .ok (.athrow, 1) := by decide +kernel
theorem d_MT_failing_70 : decode b_MT_failing 70 = .ok (.aload_n 3, 1) := by decide +kernel
theorem d_MT_failing_71 : decode b_MT_failing 71 = .ok (.iload_n 1, 1) := by decide +kernel
theorem d_MT_failing_72 : decode b_MT_failing 72 = .ok (.iload_n 2, 1) := by decide +kernel
theorem d_MT_failing_73 : decode b_MT_failing 73 = .ok (.invokevirtual 170, 3) := by decide +kernel
theorem d_MT_failing_76 : decode b_MT_failing 76 = .ok (.ireturn, 1) := by decide +kernel
theorem d_MT_isSpareCount_0 : decode b_MT_isSpareCount 0 = .ok (.iload_n 0, 1) := by decide +kernel
theorem d_MT_isSpareCount_1 : decode b_MT_isSpareCount 1 = .ok (.ifCond .lt 13, 3) := by decide +kernel
theorem d_MT_isSpareCount_4 : decode b_MT_isSpareCount 4 = .ok (.iload_n 0, 1) := by decide +kernel
theorem d_MT_isSpareCount_5 : decode b_MT_isSpareCount 5 = .ok (.bipush 8, 2) := by decide +kernel
theorem d_MT_isSpareCount_7 : decode b_MT_isSpareCount 7 = .ok (.if_icmp .gt 7, 3) := by decide +kernel
theorem d_MT_isSpareCount_10 : decode b_MT_isSpareCount 10 = .ok (.iconst 1, 1) := by decide +kernel
theorem d_MT_isSpareCount_11 : decode b_MT_isSpareCount 11 = .ok (.goto 4, 3) := by decide +kernel
theorem d_MT_isSpareCount_14 : decode b_MT_isSpareCount 14 = .ok (.iconst 0, 1) := by decide +kernel
theorem d_MT_isSpareCount_15 : decode b_MT_isSpareCount 15 = .ok (.ireturn, 1) := by decide +kernel
theorem d_RepairPlan_gatherWrongBits_0 : decode b_RepairPlan_gatherWrongBits 0 = .ok (.iconst 0, 1) := by decide +kernel
theorem d_RepairPlan_gatherWrongBits_1 : decode b_RepairPlan_gatherWrongBits 1 = .ok (.istore_n 2, 1) := by decide +kernel
theorem d_RepairPlan_gatherWrongBits_2 : decode b_RepairPlan_gatherWrongBits 2 = .ok (.iload_n 2, 1) := by decide +kernel
theorem d_RepairPlan_gatherWrongBits_3 : decode b_RepairPlan_gatherWrongBits 3 = .ok (.aload_n 0, 1) := by decide +kernel
theorem d_RepairPlan_gatherWrongBits_4 : decode b_RepairPlan_gatherWrongBits 4 = .ok (.getfield 15, 3) := by decide +kernel
theorem d_RepairPlan_gatherWrongBits_7 : decode b_RepairPlan_gatherWrongBits 7 = .ok (.if_icmp .ge 16, 3) := by decide +kernel
theorem d_RepairPlan_gatherWrongBits_10 : decode b_RepairPlan_gatherWrongBits 10 = .ok (.aload_n 0, 1) := by decide +kernel
theorem d_RepairPlan_gatherWrongBits_11 : decode b_RepairPlan_gatherWrongBits 11 = .ok (.getfield 27, 3) := by decide +kernel
theorem d_RepairPlan_gatherWrongBits_14 : decode b_RepairPlan_gatherWrongBits 14 = .ok (.iload_n 2, 1) := by decide +kernel
theorem d_RepairPlan_gatherWrongBits_15 : decode b_RepairPlan_gatherWrongBits 15 = .ok (.iconst 0, 1) := by decide +kernel
theorem d_RepairPlan_gatherWrongBits_16 : decode b_RepairPlan_gatherWrongBits 16 = .ok (.iastore, 1) := by decide +kernel
theorem d_RepairPlan_gatherWrongBits_17 : decode b_RepairPlan_gatherWrongBits 17 = .ok (.iinc 2 1, 3) := by decide +kernel
theorem d_RepairPlan_gatherWrongBits_20 : decode b_RepairPlan_gatherWrongBits 20 = .ok (.goto (-18), 3) := by decide +kernel
theorem d_RepairPlan_gatherWrongBits_23 : decode b_RepairPlan_gatherWrongBits 23 = .ok (.iconst 0, 1) := by decide +kernel
theorem d_RepairPlan_gatherWrongBits_24 : decode b_RepairPlan_gatherWrongBits 24 = .ok (.istore_n 2, 1) := by decide +kernel
theorem d_RepairPlan_gatherWrongBits_25 : decode b_RepairPlan_gatherWrongBits 25 = .ok (.iload_n 2, 1) := by decide +kernel
theorem d_RepairPlan_gatherWrongBits_26 : decode b_RepairPlan_gatherWrongBits 26 = .ok (.aload_n 1, 1) := by decide +kernel
theorem d_RepairPlan_gatherWrongBits_27 : decode b_RepairPlan_gatherWrongBits 27 = .ok (.getfield 68, 3) := by decide +kernel
theorem d_RepairPlan_gatherWrongBits_30 : decode b_RepairPlan_gatherWrongBits 30 = .ok (.if_icmp .ge 29, 3) := by decide +kernel
theorem d_RepairPlan_gatherWrongBits_33 : decode b_RepairPlan_gatherWrongBits 33 = .ok (.aload_n 0, 1) := by decide +kernel
theorem d_RepairPlan_gatherWrongBits_34 : decode b_RepairPlan_gatherWrongBits 34 = .ok (.getfield 27, 3) := by decide +kernel
theorem d_RepairPlan_gatherWrongBits_37 : decode b_RepairPlan_gatherWrongBits 37 = .ok (.aload_n 1, 1) := by decide +kernel
theorem d_RepairPlan_gatherWrongBits_38 : decode b_RepairPlan_gatherWrongBits 38 = .ok (.iload_n 2, 1) := by decide +kernel
theorem d_RepairPlan_gatherWrongBits_39 : decode b_RepairPlan_gatherWrongBits 39 = .ok (.iconst 2, 1) := by decide +kernel
theorem d_RepairPlan_gatherWrongBits_40 : decode b_RepairPlan_gatherWrongBits 40 = .ok (.invokevirtual 73, 3) := by decide +kernel
theorem d_RepairPlan_gatherWrongBits_43 : decode b_RepairPlan_gatherWrongBits 43 = .ok (.dup2, 1) := by decide +kernel
theorem d_RepairPlan_gatherWrongBits_44 : decode b_RepairPlan_gatherWrongBits 44 = .ok (.iaload, 1) := by decide +kernel
theorem d_RepairPlan_gatherWrongBits_45 : decode b_RepairPlan_gatherWrongBits 45 = .ok (.aload_n 1, 1) := by decide +kernel
theorem d_RepairPlan_gatherWrongBits_46 : decode b_RepairPlan_gatherWrongBits 46 = .ok (.iload_n 2, 1) := by decide +kernel
theorem d_RepairPlan_gatherWrongBits_47 : decode b_RepairPlan_gatherWrongBits 47 = .ok (.iconst 3, 1) := by decide +kernel
theorem d_RepairPlan_gatherWrongBits_48 : decode b_RepairPlan_gatherWrongBits 48 = .ok (.invokevirtual 73, 3) := by decide +kernel
theorem d_RepairPlan_gatherWrongBits_51 : decode b_RepairPlan_gatherWrongBits 51 = .ok (.ior, 1) := by decide +kernel
theorem d_RepairPlan_gatherWrongBits_52 : decode b_RepairPlan_gatherWrongBits 52 = .ok (.iastore, 1) := by decide +kernel
theorem d_RepairPlan_gatherWrongBits_53 : decode b_RepairPlan_gatherWrongBits 53 = .ok (.iinc 2 1, 3) := by decide +kernel
theorem d_RepairPlan_gatherWrongBits_56 : decode b_RepairPlan_gatherWrongBits 56 = .ok (.goto (-31), 3) := by decide +kernel
theorem d_RepairPlan_gatherWrongBits_59 : decode b_RepairPlan_gatherWrongBits 59 = .ok (.return_, 1) := by decide +kernel
theorem d_RepairPlan_wordsWrongOutside_0 : decode b_RepairPlan_wordsWrongOutside 0 = .ok (.iconst 0, 1) := by decide +kernel
theorem d_RepairPlan_wordsWrongOutside_1 : decode b_RepairPlan_wordsWrongOutside 1 = .ok (.istore_n 2, 1) := by decide +kernel
theorem d_RepairPlan_wordsWrongOutside_2 : decode b_RepairPlan_wordsWrongOutside 2 = .ok (.iconst 0, 1) := by decide +kernel
theorem d_RepairPlan_wordsWrongOutside_3 : decode b_RepairPlan_wordsWrongOutside 3 = .ok (.istore_n 3, 1) := by decide +kernel
theorem d_RepairPlan_wordsWrongOutside_4 : decode b_RepairPlan_wordsWrongOutside 4 = .ok (.iload_n 3, 1) := by decide +kernel
theorem d_RepairPlan_wordsWrongOutside_5 : decode b_RepairPlan_wordsWrongOutside 5 = .ok (.aload_n 0, 1) := by decide +kernel
theorem d_RepairPlan_wordsWrongOutside_6 : decode b_RepairPlan_wordsWrongOutside 6 = .ok (.getfield 15, 3) := by decide +kernel
theorem d_RepairPlan_wordsWrongOutside_9 : decode b_RepairPlan_wordsWrongOutside 9 = .ok (.if_icmp .ge 28, 3) := by decide +kernel
theorem d_RepairPlan_wordsWrongOutside_12 : decode b_RepairPlan_wordsWrongOutside 12 = .ok (.aload_n 0, 1) := by decide +kernel
theorem d_RepairPlan_wordsWrongOutside_13 : decode b_RepairPlan_wordsWrongOutside 13 = .ok (.getfield 27, 3) := by decide +kernel
theorem d_RepairPlan_wordsWrongOutside_16 : decode b_RepairPlan_wordsWrongOutside 16 = .ok (.iload_n 3, 1) := by decide +kernel
theorem d_RepairPlan_wordsWrongOutside_17 : decode b_RepairPlan_wordsWrongOutside 17 = .ok (.iaload, 1) := by decide +kernel
theorem d_RepairPlan_wordsWrongOutside_18 : decode b_RepairPlan_wordsWrongOutside 18 = .ok (.iload_n 1, 1) := by decide +kernel
theorem d_RepairPlan_wordsWrongOutside_19 : decode b_RepairPlan_wordsWrongOutside 19 = .ok (.iconst (-1), 1) := by decide +kernel
theorem d_RepairPlan_wordsWrongOutside_20 : decode b_RepairPlan_wordsWrongOutside 20 = .ok (.ixor, 1) := by decide +kernel
theorem d_RepairPlan_wordsWrongOutside_21 : decode b_RepairPlan_wordsWrongOutside 21 = .ok (.iand, 1) := by decide +kernel
theorem d_RepairPlan_wordsWrongOutside_22 : decode b_RepairPlan_wordsWrongOutside 22 = .ok (.ifCond .eq 9, 3) := by decide +kernel
theorem d_RepairPlan_wordsWrongOutside_25 : decode b_RepairPlan_wordsWrongOutside 25 = .ok (.iload_n 2, 1) := by decide +kernel
theorem d_RepairPlan_wordsWrongOutside_26 : decode b_RepairPlan_wordsWrongOutside 26 = .ok (.iconst 1, 1) := by decide +kernel
theorem d_RepairPlan_wordsWrongOutside_27 : decode b_RepairPlan_wordsWrongOutside 27 = .ok (.iload_n 3, 1) := by decide +kernel
theorem d_RepairPlan_wordsWrongOutside_28 : decode b_RepairPlan_wordsWrongOutside 28 = .ok (.ishl, 1) := by decide +kernel
theorem d_RepairPlan_wordsWrongOutside_29 : decode b_RepairPlan_wordsWrongOutside 29 = .ok (.ior, 1) := by decide +kernel
theorem d_RepairPlan_wordsWrongOutside_30 : decode b_RepairPlan_wordsWrongOutside 30 = .ok (.istore_n 2, 1) := by decide +kernel
theorem d_RepairPlan_wordsWrongOutside_31 : decode b_RepairPlan_wordsWrongOutside 31 = .ok (.iinc 3 1, 3) := by decide +kernel
theorem d_RepairPlan_wordsWrongOutside_34 : decode b_RepairPlan_wordsWrongOutside 34 = .ok (.goto (-30), 3) := by decide +kernel
theorem d_RepairPlan_wordsWrongOutside_37 : decode b_RepairPlan_wordsWrongOutside 37 = .ok (.iload_n 2, 1) := by decide +kernel
theorem d_RepairPlan_wordsWrongOutside_38 : decode b_RepairPlan_wordsWrongOutside 38 = .ok (.ireturn, 1) := by decide +kernel
theorem d_RepairPlan_spares_0 : decode b_RepairPlan_spares 0 = .ok (.iload_n 0, 1) := by decide +kernel
theorem d_RepairPlan_spares_1 : decode b_RepairPlan_spares 1 = .ok (.invokestatic 49, 3) := by decide +kernel
theorem d_RepairPlan_spares_4 : decode b_RepairPlan_spares 4 = .ok (.iload_n 1, 1) := by decide +kernel
theorem d_RepairPlan_spares_5 : decode b_RepairPlan_spares 5 = .ok (.invokestatic 49, 3) := by decide +kernel
theorem d_RepairPlan_spares_8 : decode b_RepairPlan_spares 8 = .ok (.iadd, 1) := by decide +kernel
theorem d_RepairPlan_spares_9 : decode b_RepairPlan_spares 9 = .ok (.ireturn, 1) := by decide +kernel
theorem d_RepairPlan_isBetter_0 : decode b_RepairPlan_isBetter 0 = .ok (.aload_n 0, 1) := by decide +kernel
theorem d_RepairPlan_isBetter_1 : decode b_RepairPlan_isBetter 1 = .ok (.getfield 35, 3) := by decide +kernel
theorem d_RepairPlan_isBetter_4 : decode b_RepairPlan_isBetter 4 = .ok (.ifCond .ne 5, 3) := by decide +kernel
theorem d_RepairPlan_isBetter_7 : decode b_RepairPlan_isBetter 7 = .ok (.iconst 1, 1) := by decide +kernel
theorem d_RepairPlan_isBetter_8 : decode b_RepairPlan_isBetter 8 = .ok (.ireturn, 1) := by decide +kernel
theorem d_RepairPlan_isBetter_9 : decode b_RepairPlan_isBetter 9 = .ok (.iload_n 1, 1) := by decide +kernel
theorem d_RepairPlan_isBetter_10 : decode b_RepairPlan_isBetter 10 = .ok (.iload_n 2, 1) := by decide +kernel
theorem d_RepairPlan_isBetter_11 : decode b_RepairPlan_isBetter 11 = .ok (.invokestatic 61, 3) := by decide +kernel
theorem d_RepairPlan_isBetter_14 : decode b_RepairPlan_isBetter 14 = .ok (.aload_n 0, 1) := by decide +kernel
theorem d_RepairPlan_isBetter_15 : decode b_RepairPlan_isBetter 15 = .ok (.getfield 39, 3) := by decide +kernel
theorem d_RepairPlan_isBetter_18 : decode b_RepairPlan_isBetter 18 = .ok (.aload_n 0, 1) := by decide +kernel
theorem d_RepairPlan_isBetter_19 : decode b_RepairPlan_isBetter 19 = .ok (.getfield 42, 3) := by decide +kernel
theorem d_RepairPlan_isBetter_22 : decode b_RepairPlan_isBetter 22 = .ok (.invokestatic 61, 3) := by decide +kernel
theorem d_RepairPlan_isBetter_25 : decode b_RepairPlan_isBetter 25 = .ok (.isub, 1) := by decide +kernel
theorem d_RepairPlan_isBetter_26 : decode b_RepairPlan_isBetter 26 = .ok (.istore_n 3, 1) := by decide +kernel
theorem d_RepairPlan_isBetter_27 : decode b_RepairPlan_isBetter 27 = .ok (.iload_n 3, 1) := by decide +kernel
theorem d_RepairPlan_isBetter_28 : decode b_RepairPlan_isBetter 28 = .ok (.ifCond .ne 16, 3) := by decide +kernel
theorem d_RepairPlan_isBetter_31 : decode b_RepairPlan_isBetter 31 = .ok (.iload_n 1, 1) := by decide +kernel
theorem d_RepairPlan_isBetter_32 : decode b_RepairPlan_isBetter 32 = .ok (.invokestatic 49, 3) := by decide +kernel
theorem d_RepairPlan_isBetter_35 : decode b_RepairPlan_isBetter 35 = .ok (.aload_n 0, 1) := by decide +kernel
theorem d_RepairPlan_isBetter_36 : decode b_RepairPlan_isBetter 36 = .ok (.getfield 39, 3) := by decide +kernel
theorem d_RepairPlan_isBetter_39 : decode b_RepairPlan_isBetter 39 = .ok (.invokestatic 49, 3) := by decide +kernel
theorem d_RepairPlan_isBetter_42 : decode b_RepairPlan_isBetter 42 = .ok (.isub, 1) := by decide +kernel
theorem d_RepairPlan_isBetter_43 : decode b_RepairPlan_isBetter 43 = .ok (.istore_n 3, 1) := by decide +kernel
theorem d_RepairPlan_isBetter_44 : decode b_RepairPlan_isBetter 44 = .ok (.iload_n 3, 1) := by decide +kernel
theorem d_RepairPlan_isBetter_45 : decode b_RepairPlan_isBetter 45 = .ok (.ifCond .eq 13, 3) := by decide +kernel
theorem d_RepairPlan_isBetter_48 : decode b_RepairPlan_isBetter 48 = .ok (.iload_n 3, 1) := by decide +kernel
theorem d_RepairPlan_isBetter_49 : decode b_RepairPlan_isBetter 49 = .ok (.ifCond .ge 7, 3) := by decide +kernel
theorem d_RepairPlan_isBetter_52 : decode b_RepairPlan_isBetter 52 = .ok (.iconst 1, 1) := by decide +kernel
theorem d_RepairPlan_isBetter_53 : decode b_RepairPlan_isBetter 53 = .ok (.goto 4, 3) := by decide +kernel
