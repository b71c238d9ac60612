theorem d_RF_doElement_118 : decode b_RF_doElement 118 = .ok (.aload_n 0, 1) := by decide +kernel
theorem d_RF_doElement_119 : decode b_RF_doElement 119 = .ok (.getfield 37, 3) := by decide +kernel
theorem d_RF_doElement_122 : decode b_RF_doElement 122 = .ok (.iload_n 3, 1) := by decide +kernel
theorem d_RF_doElement_123 : decode b_RF_doElement 123 = .ok (.iconst 1, 1) := by decide +kernel
theorem d_RF_doElement_124 : decode b_RF_doElement 124 = .ok (.iadd, 1) := by decide +kernel
theorem d_RF_doElement_125 : decode b_RF_doElement 125 = .ok (.aload_n 0, 1) := by decide +kernel
theorem d_RF_doElement_126 : decode b_RF_doElement 126 = .ok (.getfield 64, 3) := by decide +kernel
theorem d_RF_doElement_129 : decode b_RF_doElement 129 = .ok (.irem, 1) := by decide +kernel
theorem d_RF_doElement_130 : decode b_RF_doElement 130 = .ok (.iaload, 1) := by decide +kernel
theorem d_RF_doElement_131 : decode b_RF_doElement 131 = .ok (.iconst 0, 1) := by decide +kernel
theorem d_RF_doElement_132 : decode b_RF_doElement 132 = .ok (.invokevirtual 114, 3) := by decide +kernel
theorem d_RF_doElement_135 : decode b_RF_doElement 135 = .ok (.pop, 1) := by decide +kernel
theorem d_RF_doElement_136 : decode b_RF_doElement 136 = .ok (.iinc 5 1, 3) := by decide +kernel
theorem d_RF_doElement_139 : decode b_RF_doElement 139 = .ok (.goto (-95), 3) := by decide +kernel
theorem d_RF_doElement_142 : decode b_RF_doElement 142 = .ok (.iinc 2 1, 3) := by decide +kernel
theorem d_RF_doElement_145 : decode b_RF_doElement 145 = .ok (.goto (-143), 3) := by decide +kernel
theorem d_RF_doElement_148 : decode b_RF_doElement 148 = .ok (.return_, 1) := by decide +kernel
theorem d_RF_go_0 : decode b_RF_go 0 = .ok (.aload_n 0, 1) := by decide +kernel
theorem d_RF_go_1 : decode b_RF_go 1 = .ok (.iload_n 1, 1) := by decide +kernel
theorem d_RF_go_2 : decode b_RF_go 2 = .ok (.invokevirtual 131, 3) := by decide +kernel
theorem d_RF_go_5 : decode b_RF_go 5 = .ok (.aload_n 0, 1) := by decide +kernel
theorem d_RF_go_6 : decode b_RF_go 6 = .ok (.iconst 0, 1) := by decide +kernel
theorem d_RF_go_7 : decode b_RF_go 7 = .ok (.putfield 121, 3) := by decide +kernel
theorem d_RF_go_10 : decode b_RF_go 10 = .ok (.iconst 0, 1) := by decide +kernel
theorem d_RF_go_11 : decode b_RF_go 11 = .ok (.istore_n 2, 1) := by decide +kernel
theorem d_RF_go_12 : decode b_RF_go 12 = .ok (.iload_n 2, 1) := by decide +kernel
theorem d_RF_go_13 : decode b_RF_go 13 = .ok (.bipush 64, 2) := by decide +kernel
theorem d_RF_go_15 : decode b_RF_go 15 = .ok (.if_icmp .ge 16, 3) := by decide +kernel
theorem d_RF_go_18 : decode b_RF_go 18 = .ok (.aload_n 0, 1) := by decide +kernel
theorem d_RF_go_19 : decode b_RF_go 19 = .ok (.getfield 7, 3) := by decide +kernel
theorem d_RF_go_22 : decode b_RF_go 22 = .ok (.iload_n 2, 1) := by decide +kernel
theorem d_RF_go_23 : decode b_RF_go 23 = .ok (.iconst 0, 1) := by decide +kernel
theorem d_RF_go_24 : decode b_RF_go 24 = .ok (.iastore, 1) := by decide +kernel
theorem d_RF_go_25 : decode b_RF_go 25 = .ok (.iinc 2 1, 3) := by decide +kernel
theorem d_RF_go_28 : decode b_RF_go 28 = .ok (.goto (-16), 3) := by decide +kernel
theorem d_RF_go_31 : decode b_RF_go 31 = .ok (.iconst 0, 1) := by decide +kernel
theorem d_RF_go_32 : decode b_RF_go 32 = .ok (.istore_n 2, 1) := by decide +kernel
theorem d_RF_go_33 : decode b_RF_go 33 = .ok (.iload_n 2, 1) := by decide +kernel
theorem d_RF_go_34 : decode b_RF_go 34 = .ok (.iconst 4, 1) := by decide +kernel
theorem d_RF_go_35 : decode b_RF_go 35 = .ok (.if_icmp .ge 16, 3) := by decide +kernel
theorem d_RF_go_38 : decode b_RF_go 38 = .ok (.aload_n 0, 1) := by decide +kernel
theorem d_RF_go_39 : decode b_RF_go 39 = .ok (.getfield 13, 3) := by decide +kernel
theorem d_RF_go_42 : decode b_RF_go 42 = .ok (.iload_n 2, 1) := by decide +kernel
theorem d_RF_go_43 : decode b_RF_go 43 = .ok (.iconst 0, 1) := by decide +kernel
theorem d_RF_go_44 : decode b_RF_go 44 = .ok (.iastore, 1) := by decide +kernel
theorem d_RF_go_45 : decode b_RF_go 45 = .ok (.iinc 2 1, 3) := by decide +kernel
theorem d_RF_go_48 : decode b_RF_go 48 = .ok (.goto (-15), 3) := by decide +kernel
theorem d_RF_go_51 : decode b_RF_go 51 = .ok (.aload_n 0, 1) := by decide +kernel
theorem d_RF_go_52 : decode b_RF_go 52 = .ok (.invokevirtual 108, 3) := by decide +kernel
theorem d_RF_go_55 : decode b_RF_go 55 = .ok (.iconst 0, 1) := by decide +kernel
theorem d_RF_go_56 : decode b_RF_go 56 = .ok (.istore_n 2, 1) := by decide +kernel
theorem d_RF_go_57 : decode b_RF_go 57 = .ok (.iload_n 2, 1) := by decide +kernel
theorem d_RF_go_58 : decode b_RF_go 58 = .ok (.aload_n 0, 1) := by decide +kernel
theorem d_RF_go_59 : decode b_RF_go 59 = .ok (.getfield 91, 3) := by decide +kernel
theorem d_RF_go_62 : decode b_RF_go 62 = .ok (.if_icmp .ge 83, 3) := by decide +kernel
theorem d_RF_go_65 : decode b_RF_go 65 = .ok (.aload_n 0, 1) := by decide +kernel
theorem d_RF_go_66 : decode b_RF_go 66 = .ok (.getfield 40, 3) := by decide +kernel
theorem d_RF_go_69 : decode b_RF_go 69 = .ok (.iload_n 2, 1) := by decide +kernel
theorem d_RF_go_70 : decode b_RF_go 70 = .ok (.iaload, 1) := by decide +kernel
theorem d_RF_go_71 : decode b_RF_go 71 = .ok (.iconst 2, 1) := by decide +kernel
theorem d_RF_go_72 : decode b_RF_go 72 = .ok (.if_icmp .ne 62, 3) := by decide +kernel
theorem d_RF_go_75 : decode b_RF_go 75 = .ok (.iconst 0, 1) := by decide +kernel
theorem d_RF_go_76 : decode b_RF_go 76 = .ok (.istore_n 3, 1) := by decide +kernel
theorem d_RF_go_77 : decode b_RF_go 77 = .ok (.iload_n 3, 1) := by decide +kernel
theorem d_RF_go_78 : decode b_RF_go 78 = .ok (.aload_n 0, 1) := by decide +kernel
theorem d_RF_go_79 : decode b_RF_go 79 = .ok (.getfield 94, 3) := by decide +kernel
theorem d_RF_go_82 : decode b_RF_go 82 = .ok (.if_icmp .ge 45, 3) := by decide +kernel
theorem d_RF_go_85 : decode b_RF_go 85 = .ok (.aload_n 0, 1) := by decide +kernel
theorem d_RF_go_86 : decode b_RF_go 86 = .ok (.getfield 7, 3) := by decide +kernel
theorem d_RF_go_89 : decode b_RF_go 89 = .ok (.aload_n 0, 1) := by decide +kernel
theorem d_RF_go_90 : decode b_RF_go 90 = .ok (.getfield 19, 3) := by decide +kernel
theorem d_RF_go_93 : decode b_RF_go 93 = .ok (.iload_n 3, 1) := by decide +kernel
theorem d_RF_go_94 : decode b_RF_go 94 = .ok (.iaload, 1) := by decide +kernel
theorem d_RF_go_95 : decode b_RF_go 95 = .ok (.aload_n 0, 1) := by decide +kernel
theorem d_RF_go_96 : decode b_RF_go 96 = .ok (.getfield 16, 3) := by decide +kernel
theorem d_RF_go_99 : decode b_RF_go 99 = .ok (.iload_n 3, 1) := by decide +kernel
theorem d_RF_go_100 : decode b_RF_go 100 = .ok (.iaload, 1) := by decide +kernel
theorem d_RF_go_101 : decode b_RF_go 101 = .ok (.iconst 5, 1) := by decide +kernel
theorem d_RF_go_102 : decode b_RF_go 102 = .ok (.if_icmp .ne 7, 3) := by decide +kernel
theorem d_RF_go_105 : decode b_RF_go 105 = .ok (.iconst 0, 1) := by decide +kernel
theorem d_RF_go_106 : decode b_RF_go 106 = .ok (.goto 14, 3) := by decide +kernel
theorem d_RF_go_109 : decode b_RF_go 109 = .ok (.aload_n 0, 1) := by decide +kernel
theorem d_RF_go_110 : decode b_RF_go 110 = .ok (.getfield 7, 3) := by decide +kernel
theorem d_RF_go_113 : decode b_RF_go 113 = .ok (.aload_n 0, 1) := by decide +kernel
theorem d_RF_go_114 : decode b_RF_go 114 = .ok (.getfield 19, 3) := by decide +kernel
theorem d_RF_go_117 : decode b_RF_go 117 = .ok (.iload_n 3, 1) := by decide +kernel
theorem d_RF_go_118 : decode b_RF_go 118 = .ok (.iaload, 1) := by decide +kernel
theorem d_RF_go_119 : decode b_RF_go 119 = .ok (.iaload, 1) := by decide +kernel
theorem d_RF_go_120 : decode b_RF_go 120 = .ok (.iastore, 1) := by decide +kernel
theorem d_RF_go_121 : decode b_RF_go 121 = .ok (.iinc 3 1, 3) := by decide +kernel
theorem d_RF_go_124 : decode b_RF_go 124 = .ok (.goto (-47), 3) := by decide +kernel
theorem d_RF_go_127 : decode b_RF_go 127 = .ok (.aload_n 0, 1) := by decide +kernel
theorem d_RF_go_128 : decode b_RF_go 128 = .ok (.invokevirtual 108, 3) := by decide +kernel
theorem d_RF_go_131 : decode b_RF_go 131 = .ok (.goto 8, 3) := by decide +kernel
theorem d_RF_go_134 : decode b_RF_go 134 = .ok (.aload_n 0, 1) := by decide +kernel
theorem d_RF_go_135 : decode b_RF_go 135 = .ok (.iload_n 2, 1) := by decide +kernel
theorem d_RF_go_136 : decode b_RF_go 136 = .ok (.invokevirtual 135, 3) := by decide +kernel
theorem d_RF_go_139 : decode b_RF_go 139 = .ok (.iinc 2 1, 3) := by decide +kernel
theorem d_RF_go_142 : decode b_RF_go 142 = .ok (.goto (-85), 3) := by decide +kernel
theorem d_RF_go_145 : decode b_RF_go 145 = .ok (.return_, 1) := by decide +kernel
theorem d_RF_takeTold_0 : decode b_RF_takeTold 0 = .ok (.aload_n 0, 1) := by decide +kernel
theorem d_RF_takeTold_1 : decode b_RF_takeTold 1 = .ok (.aload_n 0, 1) := by decide +kernel
theorem d_RF_takeTold_2 : decode b_RF_takeTold 2 = .ok (.getfield 138, 3) := by decide +kernel
theorem d_RF_takeTold_5 : decode b_RF_takeTold 5 = .ok (.putfield 94, 3) := by decide +kernel
theorem d_RF_takeTold_8 : decode b_RF_takeTold 8 = .ok (.iconst 0, 1) := by decide +kernel
theorem d_RF_takeTold_9 : decode b_RF_takeTold 9 = .ok (.istore_n 1, 1) := by decide +kernel
theorem d_RF_takeTold_10 : decode b_RF_takeTold 10 = .ok (.iload_n 1, 1) := by decide +kernel
theorem d_RF_takeTold_11 : decode b_RF_takeTold 11 = .ok (.aload_n 0, 1) := by decide +kernel
theorem d_RF_takeTold_12 : decode b_RF_takeTold 12 = .ok (.getfield 138, 3) := by decide +kernel
theorem d_RF_takeTold_15 : decode b_RF_takeTold 15 = .ok (.if_icmp .ge 45, 3) := by decide +kernel
theorem d_RF_takeTold_18 : decode b_RF_takeTold 18 = .ok (.aload_n 0, 1) := by decide +kernel
theorem d_RF_takeTold_19 : decode b_RF_takeTold 19 = .ok (.getfield 16, 3) := by decide +kernel
theorem d_RF_takeTold_22 : decode b_RF_takeTold 22 = .ok (.iload_n 1, 1) := by decide +kernel
theorem d_RF_takeTold_23 : decode b_RF_takeTold 23 = .ok (.aload_n 0, 1) := by decide +kernel
theorem d_RF_takeTold_24 : decode b_RF_takeTold 24 = .ok (.getfield 25, 3) := by decide +kernel
theorem d_RF_takeTold_27 : decode b_RF_takeTold 27 = .ok (.iload_n 1, 1) := by decide +kernel
theorem d_RF_takeTold_28 : decode b_RF_takeTold 28 = .ok (.iaload, 1) := by decide +kernel
theorem d_RF_takeTold_29 : decode b_RF_takeTold 29 = .ok (.iastore, 1) := by decide +kernel
theorem d_RF_takeTold_30 : decode b_RF_takeTold 30 = .ok (.aload_n 0, 1) := by decide +kernel
theorem d_RF_takeTold_31 : decode b_RF_takeTold 31 = .ok (.getfield 19, 3) := by decide +kernel
theorem d_RF_takeTold_34 : decode b_RF_takeTold 34 = .ok (.iload_n 1, 1) := by decide +kernel
theorem d_RF_takeTold_35 : decode b_RF_takeTold 35 = .ok (.aload_n 0, 1) := by decide +kernel
theorem d_RF_takeTold_36 : decode b_RF_takeTold 36 = .ok (.getfield 28, 3) := by decide +kernel
theorem d_RF_takeTold_39 : decode b_RF_takeTold 39 = .ok (.iload_n 1, 1) := by decide +kernel
theorem d_RF_takeTold_40 : decode b_RF_takeTold 40 = .ok (.iaload, 1) := by decide +kernel
theorem d_RF_takeTold_41 : decode b_RF_takeTold 41 = .ok (.iastore, 1) := by decide +kernel
theorem d_RF_takeTold_42 : decode b_RF_takeTold 42 = .ok (.aload_n 0, 1) := by decide +kernel
theorem d_RF_takeTold_43 : decode b_RF_takeTold 43 = .ok (.getfield 22, 3) := by decide +kernel
theorem d_RF_takeTold_46 : decode b_RF_takeTold 46 = .ok (.iload_n 1, 1) := by decide +kernel
theorem d_RF_takeTold_47 : decode b_RF_takeTold 47 = .ok (.aload_n 0, 1) := by decide +kernel
theorem d_RF_takeTold_48 : decode b_RF_takeTold 48 = .ok (.getfield 31, 3) := by decide +kernel
theorem d_RF_takeTold_51 : decode b_RF_takeTold 51 = .ok (.iload_n 1, 1) := by decide +kernel
theorem d_RF_takeTold_52 : decode b_RF_takeTold 52 = .ok (.iaload, 1) := by decide +kernel
theorem d_RF_takeTold_53 : decode b_RF_takeTold 53 = .ok (.iastore, 1) := by decide +kernel
theorem d_RF_takeTold_54 : decode b_RF_takeTold 54 = .ok (.iinc 1 1, 3) := by decide +kernel
theorem d_RF_takeTold_57 : decode b_RF_takeTold 57 = .ok (.goto (-47), 3) := by decide +kernel
theorem d_RF_takeTold_60 : decode b_RF_takeTold 60 = .ok (.return_, 1) := by decide +kernel
theorem d_RF_run_0 : decode b_RF_run 0 = .ok (.aload_n 0, 1) := by decide +kernel
theorem d_RF_run_1 : decode b_RF_run 1 = .ok (.aload_n 0, 1) := by decide +kernel
theorem d_RF_run_2 : decode b_RF_run 2 = .ok (.getfield 91, 3) := by decide +kernel
theorem d_RF_run_5 : decode b_RF_run 5 = .ok (.ifCond .ne 7, 3) := by decide +kernel
theorem d_RF_run_8 : decode b_RF_run 8 = .ok (.iconst 1, 1) := by decide +kernel
theorem d_RF_run_9 : decode b_RF_run 9 = .ok (.goto 17, 3) := by decide +kernel
theorem d_RF_run_12 : decode b_RF_run 12 = .ok (.iload_n 1, 1) := by decide +kernel
theorem d_RF_run_13 : decode b_RF_run 13 = .ok (.ifCond .lt 8, 3) := by decide +kernel
theorem d_RF_run_16 : decode b_RF_run 16 = .ok (.iload_n 1, 1) := by decide +kernel
theorem d_RF_run_17 : decode b_RF_run 17 = .ok (.iconst 2, 1) := by decide +kernel
theorem d_RF_run_18 : decode b_RF_run 18 = .ok (.if_icmp .le 7, 3) := by decide +kernel
theorem d_RF_run_21 : decode b_RF_run 21 = .ok (.iconst 2, 1) := by decide +kernel
theorem d_RF_run_22 : decode b_RF_run 22 = .ok (.goto 4, 3) := by decide +kernel
theorem d_RF_run_25 : decode b_RF_run 25 = .ok (.iconst 0, 1) := by decide +kernel
theorem d_RF_run_26 : decode b_RF_run 26 = .ok (.putfield 74, 3) := by decide +kernel
theorem d_RF_run_29 : decode b_RF_run 29 = .ok (.aload_n 0, 1) := by decide +kernel
theorem d_RF_run_30 : decode b_RF_run 30 = .ok (.getfield 74, 3) := by decide +kernel
theorem d_RF_run_33 : decode b_RF_run 33 = .ok (.ifCond .le 5, 3) := by decide +kernel
theorem d_RF_run_36 : decode b_RF_run 36 = .ok (.iconst 0, 1) := by decide +kernel
theorem d_RF_run_37 : decode b_RF_run 37 = .ok (.ireturn, 1) := by decide +kernel
theorem d_RF_run_38 : decode b_RF_run 38 = .ok (.aload_n 0, 1) := by decide +kernel
theorem d_RF_run_39 : decode b_RF_run 39 = .ok (.invokevirtual 141, 3) := by decide +kernel
theorem d_RF_run_42 : decode b_RF_run 42 = .ok (.aload_n 0, 1) := by decide +kernel
theorem d_RF_run_43 : decode b_RF_run 43 = .ok (.iconst 0, 1) := by decide +kernel
theorem d_RF_run_44 : decode b_RF_run 44 = .ok (.putfield 128, 3) := by decide +kernel
theorem d_RF_run_47 : decode b_RF_run 47 = .ok (.aload_n 0, 1) := by decide +kernel
theorem d_RF_run_48 : decode b_RF_run 48 = .ok (.iconst 1, 1) := by decide +kernel
theorem d_RF_run_49 : decode b_RF_run 49 = .ok (.putfield 125, 3) := by decide +kernel
theorem d_RF_run_52 : decode b_RF_run 52 = .ok (.aload_n 0, 1) := by decide +kernel
theorem d_RF_run_53 : decode b_RF_run 53 = .ok (.iload_n 1, 1) := by decide +kernel
theorem d_RF_run_54 : decode b_RF_run 54 = .ok (.invokevirtual 144, 3) := by decide +kernel
theorem d_RF_run_57 : decode b_RF_run 57 = .ok (.aload_n 0, 1) := by decide +kernel
theorem d_RF_run_58 : decode b_RF_run 58 = .ok (.getfield 121, 3) := by decide +kernel
theorem d_RF_run_61 : decode b_RF_run 61 = .ok (.ifCond .eq 7, 3) := by decide +kernel
theorem d_RF_run_64 : decode b_RF_run 64 = .ok (.iconst 1, 1) := by decide +kernel
theorem d_RF_run_65 : decode b_RF_run 65 = .ok (.goto 4, 3) := by decide +kernel
theorem d_RF_run_68 : decode b_RF_run 68 = .ok (.iconst 0, 1) := by decide +kernel
theorem d_RF_run_69 : decode b_RF_run 69 = .ok (.ireturn, 1) := by decide +kernel
theorem d_RF_covered_0 : decode b_RF_covered 0 = .ok (.aload_n 0, 1) := by decide +kernel
theorem d_RF_covered_1 : decode b_RF_covered 1 = .ok (.aload_n 0, 1) := by decide +kernel
theorem d_RF_covered_2 : decode b_RF_covered 2 = .ok (.getfield 91, 3) := by decide +kernel
theorem d_RF_covered_5 : decode b_RF_covered 5 = .ok (.ifCond .ne 7, 3) := by decide +kernel
theorem d_RF_covered_8 : decode b_RF_covered 8 = .ok (.iconst 1, 1) := by decide +kernel
theorem d_RF_covered_9 : decode b_RF_covered 9 = .ok (.goto 27, 3) := by decide +kernel
theorem d_RF_covered_12 : decode b_RF_covered 12 = .ok (.iload_n 1, 1) := by decide +kernel
theorem d_RF_covered_13 : decode b_RF_covered 13 = .ok (.ifCond .lt 18, 3) := by decide +kernel
theorem d_RF_covered_16 : decode b_RF_covered 16 = .ok (.iload_n 1, 1) := by decide +kernel
theorem d_RF_covered_17 : decode b_RF_covered 17 = .ok (.bipush 13, 2) := by decide +kernel
theorem d_RF_covered_19 : decode b_RF_covered 19 = .ok (.if_icmp .gt 12, 3) := by decide +kernel
theorem d_RF_covered_22 : decode b_RF_covered 22 = .ok (.iload_n 2, 1) := by decide +kernel
theorem d_RF_covered_23 : decode b_RF_covered 23 = .ok (.ifCond .lt 8, 3) := by decide +kernel
theorem d_RF_covered_26 : decode b_RF_covered 26 = .ok (.iload_n 2, 1) := by decide +kernel
theorem d_RF_covered_27 : decode b_RF_covered 27 = .ok (.iconst 1, 1) := by decide +kernel
theorem d_RF_covered_28 : decode b_RF_covered 28 = .ok (.if_icmp .le 7, 3) := by decide +kernel
theorem d_RF_covered_31 : decode b_RF_covered 31 = .ok (.iconst 2, 1) := by decide +kernel
theorem d_RF_covered_32 : decode b_RF_covered 32 = .ok (.goto 4, 3) := by decide +kernel
theorem d_RF_covered_35 : decode b_RF_covered 35 = .ok (.iconst 0, 1) := by decide +kernel
theorem d_RF_covered_36 : decode b_RF_covered 36 = .ok (.putfield 74, 3) := by decide +kernel
theorem d_RF_covered_39 : decode b_RF_covered 39 = .ok (.aload_n 0, 1) := by decide +kernel
theorem d_RF_covered_40 : decode b_RF_covered 40 = .ok (.getfield 74, 3) := by decide +kernel
theorem d_RF_covered_43 : decode b_RF_covered 43 = .ok (.ifCond .le 5, 3) := by decide +kernel
theorem d_RF_covered_46 : decode b_RF_covered 46 = .ok (.lconst 0, 1) := by decide +kernel
theorem d_RF_covered_47 : decode b_RF_covered 47 = .ok (.lreturn, 1) := by decide +kernel
theorem d_RF_covered_48 : decode b_RF_covered 48 = .ok (.aload_n 0, 1) := by decide +kernel
theorem d_RF_covered_49 : decode b_RF_covered 49 = .ok (.getfield 64, 3) := by decide +kernel
theorem d_RF_covered_52 : decode b_RF_covered 52 = .ok (.aload_n 0, 1) := by decide +kernel
theorem d_RF_covered_53 : decode b_RF_covered 53 = .ok (.getfield 68, 3) := by decide +kernel
theorem d_RF_covered_56 : decode b_RF_covered 56 = .ok (.imul, 1) := by decide +kernel
theorem d_RF_covered_57 : decode b_RF_covered 57 = .ok (.istore_n 3, 1) := by decide +kernel
theorem d_RF_covered_58 : decode b_RF_covered 58 = .ok (.iconst 0, 1) := by decide +kernel
theorem d_RF_covered_59 : decode b_RF_covered 59 = .ok (.istore 4, 2) := by decide +kernel
theorem d_RF_covered_61 : decode b_RF_covered 61 = .ok (.iconst 0, 1) := by decide +kernel
theorem d_RF_covered_62 : decode b_RF_covered 62 = .ok (.istore 5, 2) := by decide +kernel
theorem d_RF_covered_64 : decode b_RF_covered 64 = .ok (.aload_n 0, 1) := by decide +kernel
theorem d_RF_covered_65 : decode b_RF_covered 65 = .ok (.iconst 0, 1) := by decide +kernel
theorem d_RF_covered_66 : decode b_RF_covered 66 = .ok (.putfield 125, 3) := by decide +kernel
theorem d_RF_covered_69 : decode b_RF_covered 69 = .ok (.aload_n 0, 1) := by decide +kernel
theorem d_RF_covered_70 : decode b_RF_covered 70 = .ok (.iconst 1, 1) := by decide +kernel
theorem d_RF_covered_71 : decode b_RF_covered 71 = .ok (.putfield 94, 3) := by decide +kernel
theorem d_RF_covered_74 : decode b_RF_covered 74 = .ok (.aload_n 0, 1) := by decide +kernel
theorem d_RF_covered_75 : decode b_RF_covered 75 = .ok (.getfield 16, 3) := by decide +kernel
theorem d_RF_covered_78 : decode b_RF_covered 78 = .ok (.iconst 0, 1) := by decide +kernel
theorem d_RF_covered_79 : decode b_RF_covered 79 = .ok (.iload_n 1, 1) := by decide +kernel
theorem d_RF_covered_80 : decode b_RF_covered 80 = .ok (.iastore, 1) := by decide +kernel
theorem d_RF_covered_81 : decode b_RF_covered 81 = .ok (.iconst 0, 1) := by decide +kernel
theorem d_RF_covered_82 : decode b_RF_covered 82 = .ok (.istore 6, 2) := by decide +kernel
theorem d_RF_covered_84 : decode b_RF_covered 84 = .ok (.iload 6, 2) := by decide +kernel
theorem d_RF_covered_86 : decode b_RF_covered 86 = .ok (.iload_n 3, 1) := by decide +kernel
theorem d_RF_covered_87 : decode b_RF_covered 87 = .ok (.if_icmp .ge 118, 3) := by decide +kernel
theorem d_RF_covered_90 : decode b_RF_covered 90 = .ok (.iconst 0, 1) := by decide +kernel
theorem d_RF_covered_91 : decode b_RF_covered 91 = .ok (.istore 7, 2) := by decide +kernel
theorem d_RF_covered_93 : decode b_RF_covered 93 = .ok (.iload 7, 2) := by decide +kernel
theorem d_RF_covered_95 : decode b_RF_covered 95 = .ok (.iload_n 3, 1) := by decide +kernel
theorem d_RF_covered_96 : decode b_RF_covered 96 = .ok (.if_icmp .ge 103, 3) := by decide +kernel
theorem d_RF_covered_99 : decode b_RF_covered 99 = .ok (.iload_n 1, 1) := by decide +kernel
theorem d_RF_covered_100 : decode b_RF_covered 100 = .ok (.bipush 10, 2) := by decide +kernel
theorem d_RF_covered_102 : decode b_RF_covered 102 = .ok (.if_icmp .ge 16, 3) := by decide +kernel
theorem d_RF_covered_105 : decode b_RF_covered 105 = .ok (.iload 7, 2) := by decide +kernel
theorem d_RF_covered_107 : decode b_RF_covered 107 = .ok (.ifCond .ne 7, 3) := by decide +kernel
theorem d_RF_covered_110 : decode b_RF_covered 110 = .ok (.iconst 1, 1) := by decide +kernel
theorem d_RF_covered_111 : decode b_RF_covered 111 = .ok (.goto 19, 3) := by decide +kernel
theorem d_RF_covered_114 : decode b_RF_covered 114 = .ok (.iconst 0, 1) := by decide +kernel
theorem d_RF_covered_115 : decode b_RF_covered 115 = .ok (.goto 15, 3) := by decide +kernel
theorem d_RF_covered_118 : decode b_RF_covered 118 = .ok (.iload 7, 2) := by decide +kernel
theorem d_RF_covered_120 : decode b_RF_covered 120 = .ok (.iload 6, 2) := by decide +kernel
theorem d_RF_covered_122 : decode b_RF_covered 122 = .ok (.if_icmp .eq 7, 3) := by decide +kernel
theorem d_RF_covered_125 : decode b_RF_covered 125 = .ok (.iconst 1, 1) := by decide +kernel
theorem d_RF_covered_126 : decode b_RF_covered 126 = .ok (.goto 4, 3) := by decide +kernel
theorem d_RF_covered_129 : decode b_RF_covered 129 = .ok (.iconst 0, 1) := by decide +kernel
theorem d_RF_covered_130 : decode b_RF_covered 130 = .ok (.istore 8, 2) := by decide +kernel
theorem d_RF_covered_132 : decode b_RF_covered 132 = .ok (.iload 8, 2) := by decide +kernel
theorem d_RF_covered_134 : decode b_RF_covered 134 = .ok (.ifCond .eq 59, 3) := by decide +kernel
theorem d_RF_covered_137 : decode b_RF_covered 137 = .ok (.aload_n 0, 1) := by decide +kernel
theorem d_RF_covered_138 : decode b_RF_covered 138 = .ok (.getfield 19, 3) := by decide +kernel
theorem d_RF_covered_141 : decode b_RF_covered 141 = .ok (.iconst 0, 1) := by decide +kernel
theorem d_RF_covered_142 : decode b_RF_covered 142 = .ok (.iload 6, 2) := by decide +kernel
theorem d_RF_covered_144 : decode b_RF_covered 144 = .ok (.iastore, 1) := by decide +kernel
theorem d_RF_covered_145 : decode b_RF_covered 145 = .ok (.aload_n 0, 1) := by decide +kernel
theorem d_RF_covered_146 : decode b_RF_covered 146 = .ok (.getfield 22, 3) := by decide +kernel
theorem d_RF_covered_149 : decode b_RF_covered 149 = .ok (.iconst 0, 1) := by decide +kernel
theorem d_RF_covered_150 : decode b_RF_covered 150 = .ok (.iload_n 1, 1) := by decide +kernel
theorem d_RF_covered_151 : decode b_RF_covered 151 = .ok (.bipush 10, 2) := by decide +kernel
theorem d_RF_covered_153 : decode b_RF_covered 153 = .ok (.if_icmp .ge 7, 3) := by decide +kernel
theorem d_RF_covered_156 : decode b_RF_covered 156 = .ok (.iconst (-1), 1) := by decide +kernel
theorem d_RF_covered_157 : decode b_RF_covered 157 = .ok (.goto 5, 3) := by decide +kernel
theorem d_RF_covered_160 : decode b_RF_covered 160 = .ok (.iload 7, 2) := by decide +kernel
theorem d_RF_covered_162 : decode b_RF_covered 162 = .ok (.iastore, 1) := by decide +kernel
theorem d_RF_covered_163 : decode b_RF_covered 163 = .ok (.iinc 5 1, 3) := by decide +kernel
theorem d_RF_covered_166 : decode b_RF_covered 166 = .ok (.iload_n 2, 1) := by decide +kernel
theorem d_RF_covered_167 : decode b_RF_covered 167 = .ok (.ifCond .ne 26, 3) := by decide +kernel
theorem d_RF_covered_170 : decode b_RF_covered 170 = .ok (.aload_n 0, 1) := by decide +kernel
theorem d_RF_covered_171 : decode b_RF_covered 171 = .ok (.iconst 0, 1) := by decide +kernel
theorem d_RF_covered_172 : decode b_RF_covered 172 = .ok (.invokevirtual 144, 3) := by decide +kernel
theorem d_RF_covered_175 : decode b_RF_covered 175 = .ok (.aload_n 0, 1) := by decide +kernel
theorem d_RF_covered_176 : decode b_RF_covered 176 = .ok (.getfield 121, 3) := by decide +kernel
theorem d_RF_covered_179 : decode b_RF_covered 179 = .ok (.ifCond .eq 10, 3) := by decide +kernel
theorem d_RF_covered_182 : decode b_RF_covered 182 = .ok (.iload 4, 2) := by decide +kernel
theorem d_RF_covered_184 : decode b_RF_covered 184 = .ok (.iconst 1, 1) := by decide +kernel
theorem d_RF_covered_185 : decode b_RF_covered 185 = .ok (.iadd, 1) := by decide +kernel
theorem d_RF_covered_186 : decode b_RF_covered 186 = .ok (.goto 5, 3) := by decide +kernel
theorem d_RF_covered_189 : decode b_RF_covered 189 = .ok (.iload 4, 2) := by decide +kernel
theorem d_RF_covered_191 : decode b_RF_covered 191 = .ok (.istore 4, 2) := by decide +kernel
theorem d_RF_covered_193 : decode b_RF_covered 193 = .ok (.iinc 7 1, 3) := by decide +kernel
theorem d_RF_covered_196 : decode b_RF_covered 196 = .ok (.goto (-103), 3) := by decide +kernel
theorem d_RF_covered_199 : decode b_RF_covered 199 = .ok (.iinc 6 1, 3) := by decide +kernel
theorem d_RF_covered_202 : decode b_RF_covered 202 = .ok (.goto (-118), 3) := by decide +kernel
theorem d_RF_covered_205 : decode b_RF_covered 205 = .ok (.iload_n 2, 1) := by decide +kernel
theorem d_RF_covered_206 : decode b_RF_covered 206 = .ok (.ifCond .ne 9, 3) := by decide +kernel
theorem d_RF_covered_209 : decode b_RF_covered 209 = .ok (.iload 4, 2) := by decide +kernel
theorem d_RF_covered_211 : decode b_RF_covered 211 = .ok (.i2l, 1) := by decide +kernel
theorem d_RF_covered_212 : decode b_RF_covered 212 = .ok (.goto 6, 3) := by decide +kernel
theorem d_RF_covered_215 : decode b_RF_covered 215 = .ok (.iload 5, 2) := by decide +kernel
theorem d_RF_covered_217 : decode b_RF_covered 217 = .ok (.i2l, 1) := by decide +kernel
theorem d_RF_covered_218 : decode b_RF_covered 218 = .ok (.lreturn, 1) := by decide +kernel
theorem d_RF_fault_0 : decode b_RF_fault 0 = .ok (.iload_n 1, 1) := by decide +kernel
theorem d_RF_fault_1 : decode b_RF_fault 1 = .ok (.iconst (-1), 1) := by decide +kernel
theorem d_RF_fault_2 : decode b_RF_fault 2 = .ok (.if_icmp .ne 15, 3) := by decide +kernel
theorem d_RF_fault_5 : decode b_RF_fault 5 = .ok (.aload_n 0, 1) := by decide +kernel
theorem d_RF_fault_6 : decode b_RF_fault 6 = .ok (.iconst 0, 1) := by decide +kernel
theorem d_RF_fault_7 : decode b_RF_fault 7 = .ok (.putfield 74, 3) := by decide +kernel
theorem d_RF_fault_10 : decode b_RF_fault 10 = .ok (.aload_n 0, 1) := by decide +kernel
theorem d_RF_fault_11 : decode b_RF_fault 11 = .ok (.iconst 0, 1) := by decide +kernel
theorem d_RF_fault_12 : decode b_RF_fault 12 = .ok (.putfield 138, 3) := by decide +kernel
theorem d_RF_fault_15 : decode b_RF_fault 15 = .ok (.iconst 0, 1) := by decide +kernel
theorem d_RF_fault_16 : decode b_RF_fault 16 = .ok (.ireturn, 1) := by decide +kernel
theorem d_RF_fault_17 : decode b_RF_fault 17 = .ok (.iload_n 1, 1) := by decide +kernel
theorem d_RF_fault_18 : decode b_RF_fault 18 = .ok (.bipush 10, 2) := by decide +kernel
theorem d_RF_fault_20 : decode b_RF_fault 20 = .ok (.if_icmp .lt 13, 3) := by decide +kernel
theorem d_RF_fault_23 : decode b_RF_fault 23 = .ok (.iload_n 1, 1) := by decide +kernel
theorem d_RF_fault_24 : decode b_RF_fault 24 = .ok (.bipush 13, 2) := by decide +kernel
theorem d_RF_fault_26 : decode b_RF_fault 26 = .ok (.if_icmp .gt 7, 3) := by decide +kernel
theorem d_RF_fault_29 : decode b_RF_fault 29 = .ok (.iconst 1, 1) := by decide +kernel
theorem d_RF_fault_30 : decode b_RF_fault 30 = .ok (.goto 4, 3) := by decide +kernel
theorem d_RF_fault_33 : decode b_RF_fault 33 = .ok (.iconst 0, 1) := by decide +kernel
theorem d_RF_fault_34 : decode b_RF_fault 34 = .ok (.istore 4, 2) := by decide +kernel
theorem d_RF_fault_36 : decode b_RF_fault 36 = .ok (.iload_n 2, 1) := by decide +kernel
theorem d_RF_fault_37 : decode b_RF_fault 37 = .ok (.ifCond .lt 42, 3) := by decide +kernel
theorem d_RF_fault_40 : decode b_RF_fault 40 = .ok (.iload_n 2, 1) := by decide +kernel
theorem d_RF_fault_41 : decode b_RF_fault 41 = .ok (.aload_n 0, 1) := by decide +kernel
theorem d_RF_fault_42 : decode b_RF_fault 42 = .ok (.getfield 64, 3) := by decide +kernel
theorem d_RF_fault_45 : decode b_RF_fault 45 = .ok (.aload_n 0, 1) := by decide +kernel
theorem d_RF_fault_46 : decode b_RF_fault 46 = .ok (.getfield 68, 3) := by decide +kernel
theorem d_RF_fault_49 : decode b_RF_fault 49 = .ok (.imul, 1) := by decide +kernel
theorem d_RF_fault_50 : decode b_RF_fault 50 = .ok (.if_icmp .ge 29, 3) := by decide +kernel
theorem d_RF_fault_53 : decode b_RF_fault 53 = .ok (.iload 4, 2) := by decide +kernel
theorem d_RF_fault_55 : decode b_RF_fault 55 = .ok (.ifCond .eq 20, 3) := by decide +kernel
theorem d_RF_fault_58 : decode b_RF_fault 58 = .ok (.iload_n 3, 1) := by decide +kernel
theorem d_RF_fault_59 : decode b_RF_fault 59 = .ok (.ifCond .lt 20, 3) := by decide +kernel
theorem d_RF_fault_62 : decode b_RF_fault 62 = .ok (.iload_n 3, 1) := by decide +kernel
theorem d_RF_fault_63 : decode b_RF_fault 63 = .ok (.aload_n 0, 1) := by decide +kernel
theorem d_RF_fault_64 : decode b_RF_fault 64 = .ok (.getfield 64, 3) := by decide +kernel
theorem d_RF_fault_67 : decode b_RF_fault 67 = .ok (.aload_n 0, 1) := by decide +kernel
theorem d_RF_fault_68 : decode b_RF_fault 68 = .ok (.getfield 68, 3) := by decide +kernel
theorem d_RF_fault_71 : decode b_RF_fault 71 = .ok (.imul, 1) := by decide +kernel
theorem d_RF_fault_72 : decode b_RF_fault 72 = .ok (.if_icmp .ge 7, 3) := by decide +kernel
theorem d_RF_fault_75 : decode b_RF_fault 75 = .ok (.iconst 1, 1) := by decide +kernel
theorem d_RF_fault_76 : decode b_RF_fault 76 = .ok (.goto 4, 3) := by decide +kernel
theorem d_RF_fault_79 : decode b_RF_fault 79 = .ok (.iconst 0, 1) := by decide +kernel
theorem d_RF_fault_80 : decode b_RF_fault 80 = .ok (.istore 5, 2) := by decide +kernel
theorem d_RF_fault_82 : decode b_RF_fault 82 = .ok (.aload_n 0, 1) := by decide +kernel
theorem d_RF_fault_83 : decode b_RF_fault 83 = .ok (.iload 5, 2) := by decide +kernel
theorem d_RF_fault_85 : decode b_RF_fault 85 = .ok (.ifCond .ne 7, 3) := by decide +kernel
theorem d_RF_fault_88 : decode b_RF_fault 88 = .ok (.iconst 1, 1) := by decide +kernel
theorem d_RF_fault_89 : decode b_RF_fault 89 = .ok (.goto 40, 3) := by decide +kernel
theorem d_RF_fault_92 : decode b_RF_fault 92 = .ok (.aload_n 0, 1) := by decide +kernel
theorem d_RF_fault_93 : decode b_RF_fault 93 = .ok (.getfield 138, 3) := by decide +kernel
theorem d_RF_fault_96 : decode b_RF_fault 96 = .ok (.iconst 4, 1) := by decide +kernel
theorem d_RF_fault_97 : decode b_RF_fault 97 = .ok (.if_icmp .ne 7, 3) := by decide +kernel
theorem d_RF_fault_100 : decode b_RF_fault 100 = .ok (.iconst 2, 1) := by decide +kernel
theorem d_RF_fault_101 : decode b_RF_fault 101 = .ok (.goto 28, 3) := by decide +kernel
theorem d_RF_fault_104 : decode b_RF_fault 104 = .ok (.iload_n 1, 1) := by decide +kernel
theorem d_RF_fault_105 : decode b_RF_fault 105 = .ok (.ifCond .lt 19, 3) := by decide +kernel
theorem d_RF_fault_108 : decode b_RF_fault 108 = .ok (.iload_n 1, 1) := by decide +kernel
theorem d_RF_fault_109 : decode b_RF_fault 109 = .ok (.bipush 13, 2) := by decide +kernel
theorem d_RF_fault_111 : decode b_RF_fault 111 = .ok (.if_icmp .gt 13, 3) := by decide +kernel
theorem d_RF_fault_114 : decode b_RF_fault 114 = .ok (.iload 4, 2) := by decide +kernel
theorem d_RF_fault_116 : decode b_RF_fault 116 = .ok (.ifCond .eq 12, 3) := by decide +kernel
theorem d_RF_fault_119 : decode b_RF_fault 119 = .ok (.iload_n 2, 1) := by decide +kernel
theorem d_RF_fault_120 : decode b_RF_fault 120 = .ok (.iload_n 3, 1) := by decide +kernel
theorem d_RF_fault_121 : decode b_RF_fault 121 = .ok (.if_icmp .ne 7, 3) := by decide +kernel
theorem d_RF_fault_124 : decode b_RF_fault 124 = .ok (.iconst 3, 1) := by decide +kernel
theorem d_RF_fault_125 : decode b_RF_fault 125 = .ok (.goto 4, 3) := by decide +kernel
theorem d_RF_fault_128 : decode b_RF_fault 128 = .ok (.iconst 0, 1) := by decide +kernel
theorem d_RF_fault_129 : decode b_RF_fault 129 = .ok (.putfield 74, 3) := by decide +kernel
theorem d_RF_fault_132 : decode b_RF_fault 132 = .ok (.aload_n 0, 1) := by decide +kernel
theorem d_RF_fault_133 : decode b_RF_fault 133 = .ok (.getfield 74, 3) := by decide +kernel
theorem d_RF_fault_136 : decode b_RF_fault 136 = .ok (.ifCond .le 5, 3) := by decide +kernel
theorem d_RF_fault_139 : decode b_RF_fault 139 = .ok (.iconst 0, 1) := by decide +kernel
theorem d_RF_fault_140 : decode b_RF_fault 140 = .ok (.ireturn, 1) := by decide +kernel
theorem d_RF_fault_141 : decode b_RF_fault 141 = .ok (.aload_n 0, 1) := by decide +kernel
theorem d_RF_fault_142 : decode b_RF_fault 142 = .ok (.getfield 25, 3) := by decide +kernel
theorem d_RF_fault_145 : decode b_RF_fault 145 = .ok (.aload_n 0, 1) := by decide +kernel
theorem d_RF_fault_146 : decode b_RF_fault 146 = .ok (.getfield 138, 3) := by decide +kernel
theorem d_RF_fault_149 : decode b_RF_fault 149 = .ok (.iload_n 1, 1) := by decide +kernel
theorem d_RF_fault_150 : decode b_RF_fault 150 = .ok (.iastore, 1) := by decide +kernel
theorem d_RF_fault_151 : decode b_RF_fault 151 = .ok (.aload_n 0, 1) := by decide +kernel
theorem d_RF_fault_152 : decode b_RF_fault 152 = .ok (.getfield 28, 3) := by decide +kernel
theorem d_RF_fault_155 : decode b_RF_fault 155 = .ok (.aload_n 0, 1) := by decide +kernel
theorem d_RF_fault_156 : decode b_RF_fault 156 = .ok (.getfield 138, 3) := by decide +kernel
theorem d_RF_fault_159 : decode b_RF_fault 159 = .ok (.iload_n 2, 1) := by decide +kernel
theorem d_RF_fault_160 : decode b_RF_fault 160 = .ok (.iastore, 1) := by decide +kernel
theorem d_RF_fault_161 : decode b_RF_fault 161 = .ok (.aload_n 0, 1) := by decide +kernel
theorem d_RF_fault_162 : decode b_RF_fault 162 = .ok (.getfield 31, 3) := by decide +kernel
theorem d_RF_fault_165 : decode b_RF_fault 165 = .ok (.aload_n 0, 1) := by decide +kernel
theorem d_RF_fault_166 : decode b_RF_fault 166 = .ok (.getfield 138, 3) := by decide +kernel
theorem d_RF_fault_169 : decode b_RF_fault 169 = .ok (.iload 4, 2) := by decide +kernel
theorem d_RF_fault_171 : decode b_RF_fault 171 = .ok (.ifCond .eq 7, 3) := by decide +kernel
theorem d_RF_fault_174 : decode b_RF_fault 174 = .ok (.iload_n 3, 1) := by decide +kernel
theorem d_RF_fault_175 : decode b_RF_fault 175 = .ok (.goto 4, 3) := by decide +kernel
theorem d_RF_fault_178 : decode b_RF_fault 178 = .ok (.iconst (-1), 1) := by decide +kernel
theorem d_RF_fault_179 : decode b_RF_fault 179 = .ok (.iastore, 1) := by decide +kernel
theorem d_RF_fault_180 : decode b_RF_fault 180 = .ok (.aload_n 0, 1) := by decide +kernel
theorem d_RF_fault_181 : decode b_RF_fault 181 = .ok (.dup, 1) := by decide +kernel
theorem d_RF_fault_182 : decode b_RF_fault 182 = .ok (.getfield 138, 3) := by decide +kernel
theorem d_RF_fault_185 : decode b_RF_fault 185 = .ok (.iconst 1, 1) := by decide +kernel
theorem d_RF_fault_186 : decode b_RF_fault 186 = .ok (.iadd, 1) := by decide +kernel
theorem d_RF_fault_187 : decode b_RF_fault 187 = .ok (.putfield 138, 3) := by decide +kernel
theorem d_RF_fault_190 : decode b_RF_fault 190 = .ok (.aload_n 0, 1) := by decide +kernel
theorem d_RF_fault_191 : decode b_RF_fault 191 = .ok (.getfield 138, 3) := by decide +kernel
theorem d_RF_fault_194 : decode b_RF_fault 194 = .ok (.ireturn, 1) := by decide +kernel
theorem d_RF_scramble_0 : decode b_RF_scramble 0 = .ok (.aload_n 0, 1) := by decide +kernel
theorem d_RF_scramble_1 : decode b_RF_scramble 1 = .ok (.iload_n 1, 1) := by decide +kernel
theorem d_RF_scramble_2 : decode b_RF_scramble 2 = .ok (.ifCond .lt 27, 3) := by decide +kernel
theorem d_RF_scramble_5 : decode b_RF_scramble 5 = .ok (.iload_n 1, 1) := by decide +kernel
theorem d_RF_scramble_6 : decode b_RF_scramble 6 = .ok (.aload_n 0, 1) := by decide +kernel
theorem d_RF_scramble_7 : decode b_RF_scramble 7 = .ok (.getfield 64, 3) := by decide +kernel
theorem d_RF_scramble_10 : decode b_RF_scramble 10 = .ok (.if_icmp .ge 19, 3) := by decide +kernel
theorem d_RF_scramble_13 : decode b_RF_scramble 13 = .ok (.iload_n 2, 1) := by decide +kernel
theorem d_RF_scramble_14 : decode b_RF_scramble 14 = .ok (.ifCond .lt 15, 3) := by decide +kernel
theorem d_RF_scramble_17 : decode b_RF_scramble 17 = .ok (.iload_n 2, 1) := by decide +kernel
theorem d_RF_scramble_18 : decode b_RF_scramble 18 = .ok (.aload_n 0, 1) := by decide +kernel
theorem d_RF_scramble_19 : decode b_RF_scramble 19 = .ok (.getfield 64, 3) := by decide +kernel
theorem d_RF_scramble_22 : decode b_RF_scramble 22 = .ok (.if_icmp .ge 7, 3) := by decide +kernel
theorem d_RF_scramble_25 : decode b_RF_scramble 25 = .ok (.iconst 0, 1) := by decide +kernel
theorem d_RF_scramble_26 : decode b_RF_scramble 26 = .ok (.goto 4, 3) := by decide +kernel
theorem d_RF_scramble_29 : decode b_RF_scramble 29 = .ok (.iconst 1, 1) := by decide +kernel
theorem d_RF_scramble_30 : decode b_RF_scramble 30 = .ok (.putfield 74, 3) := by decide +kernel
theorem d_RF_scramble_33 : decode b_RF_scramble 33 = .ok (.aload_n 0, 1) := by decide +kernel
theorem d_RF_scramble_34 : decode b_RF_scramble 34 = .ok (.getfield 74, 3) := by decide +kernel
theorem d_RF_scramble_37 : decode b_RF_scramble 37 = .ok (.ifCond .le 5, 3) := by decide +kernel
theorem d_RF_scramble_40 : decode b_RF_scramble 40 = .ok (.iconst 0, 1) := by decide +kernel
theorem d_RF_scramble_41 : decode b_RF_scramble 41 = .ok (.ireturn, 1) := by decide +kernel
theorem d_RF_scramble_42 : decode b_RF_scramble 42 = .ok (.aload_n 0, 1) := by decide +kernel
theorem d_RF_scramble_43 : decode b_RF_scramble 43 = .ok (.getfield 34, 3) := by decide +kernel
theorem d_RF_scramble_46 : decode b_RF_scramble 46 = .ok (.iload_n 1, 1) := by decide +kernel
theorem d_RF_scramble_47 : decode b_RF_scramble 47 = .ok (.iaload, 1) := by decide +kernel
theorem d_RF_scramble_48 : decode b_RF_scramble 48 = .ok (.istore_n 3, 1) := by decide +kernel
theorem d_RF_scramble_49 : decode b_RF_scramble 49 = .ok (.aload_n 0, 1) := by decide +kernel
theorem d_RF_scramble_50 : decode b_RF_scramble 50 = .ok (.getfield 34, 3) := by decide +kernel
theorem d_RF_scramble_53 : decode b_RF_scramble 53 = .ok (.iload_n 1, 1) := by decide +kernel
theorem d_RF_scramble_54 : decode b_RF_scramble 54 = .ok (.aload_n 0, 1) := by decide +kernel
theorem d_RF_scramble_55 : decode b_RF_scramble 55 = .ok (.getfield 34, 3) := by decide +kernel
theorem d_RF_scramble_58 : decode b_RF_scramble 58 = .ok (.iload_n 2, 1) := by decide +kernel
theorem d_RF_scramble_59 : decode b_RF_scramble 59 = .ok (.iaload, 1) := by decide +kernel
theorem d_RF_scramble_60 : decode b_RF_scramble 60 = .ok (.iastore, 1) := by decide +kernel
theorem d_RF_scramble_61 : decode b_RF_scramble 61 = .ok (.aload_n 0, 1) := by decide +kernel
theorem d_RF_scramble_62 : decode b_RF_scramble 62 = .ok (.getfield 34, 3) := by decide +kernel
theorem d_RF_scramble_65 : decode b_RF_scramble 65 = .ok (.iload_n 2, 1) := by decide +kernel
theorem d_RF_scramble_66 : decode b_RF_scramble 66 = .ok (.iload_n 3, 1) := by decide +kernel
theorem d_RF_scramble_67 : decode b_RF_scramble 67 = .ok (.iastore, 1) := by decide +kernel
theorem d_RF_scramble_68 : decode b_RF_scramble 68 = .ok (.iload_n 1, 1) := by decide +kernel
theorem d_RF_scramble_69 : decode b_RF_scramble 69 = .ok (.iload_n 2, 1) := by decide +kernel
theorem d_RF_scramble_70 : decode b_RF_scramble 70 = .ok (.if_icmp .eq 7, 3) := by decide +kernel
theorem d_RF_scramble_73 : decode b_RF_scramble 73 = .ok (.iconst 1, 1) := by decide +kernel
theorem d_RF_scramble_74 : decode b_RF_scramble 74 = .ok (.goto 4, 3) := by decide +kernel
theorem d_RF_scramble_77 : decode b_RF_scramble 77 = .ok (.iconst 0, 1) := by decide +kernel
theorem d_RF_scramble_78 : decode b_RF_scramble 78 = .ok (.ireturn, 1) := by decide +kernel
theorem d_RF_port_0 : decode b_RF_port 0 = .ok (.aload_n 0, 1) := by decide +kernel
theorem d_RF_port_1 : decode b_RF_port 1 = .ok (.iload_n 1, 1) := by decide +kernel
theorem d_RF_port_2 : decode b_RF_port 2 = .ok (.iconst 1, 1) := by decide +kernel
theorem d_RF_port_3 : decode b_RF_port 3 = .ok (.if_icmp .eq 8, 3) := by decide +kernel
theorem d_RF_port_6 : decode b_RF_port 6 = .ok (.iload_n 1, 1) := by decide +kernel
theorem d_RF_port_7 : decode b_RF_port 7 = .ok (.iconst 2, 1) := by decide +kernel
theorem d_RF_port_8 : decode b_RF_port 8 = .ok (.if_icmp .ne 7, 3) := by decide +kernel
theorem d_RF_port_11 : decode b_RF_port 11 = .ok (.iconst 0, 1) := by decide +kernel
theorem d_RF_port_12 : decode b_RF_port 12 = .ok (.goto 4, 3) := by decide +kernel
theorem d_RF_port_15 : decode b_RF_port 15 = .ok (.iconst 1, 1) := by decide +kernel
theorem d_RF_port_16 : decode b_RF_port 16 = .ok (.putfield 74, 3) := by decide +kernel
theorem d_RF_port_19 : decode b_RF_port 19 = .ok (.aload_n 0, 1) := by decide +kernel
theorem d_RF_port_20 : decode b_RF_port 20 = .ok (.getfield 71, 3) := by decide +kernel
theorem d_RF_port_23 : decode b_RF_port 23 = .ok (.istore_n 2, 1) := by decide +kernel
theorem d_RF_port_24 : decode b_RF_port 24 = .ok (.aload_n 0, 1) := by decide +kernel
theorem d_RF_port_25 : decode b_RF_port 25 = .ok (.aload_n 0, 1) := by decide +kernel
theorem d_RF_port_26 : decode b_RF_port 26 = .ok (.getfield 74, 3) := by decide +kernel
theorem d_RF_port_29 : decode b_RF_port 29 = .ok (.ifCond .le 10, 3) := by decide +kernel
theorem d_RF_port_32 : decode b_RF_port 32 = .ok (.aload_n 0, 1) := by decide +kernel
theorem d_RF_port_33 : decode b_RF_port 33 = .ok (.getfield 71, 3) := by decide +kernel
theorem d_RF_port_36 : decode b_RF_port 36 = .ok (.goto 4, 3) := by decide +kernel
theorem d_RF_port_39 : decode b_RF_port 39 = .ok (.iload_n 1, 1) := by decide +kernel
theorem d_RF_port_40 : decode b_RF_port 40 = .ok (.putfield 71, 3) := by decide +kernel
theorem d_RF_port_43 : decode b_RF_port 43 = .ok (.aload_n 0, 1) := by decide +kernel
theorem d_RF_port_44 : decode b_RF_port 44 = .ok (.getfield 74, 3) := by decide +kernel
theorem d_RF_port_47 : decode b_RF_port 47 = .ok (.ifCond .le 7, 3) := by decide +kernel
theorem d_RF_port_50 : decode b_RF_port 50 = .ok (.iconst 0, 1) := by decide +kernel
theorem d_RF_port_51 : decode b_RF_port 51 = .ok (.goto 4, 3) := by decide +kernel
theorem d_RF_port_54 : decode b_RF_port 54 = .ok (.iload_n 2, 1) := by decide +kernel
theorem d_RF_port_55 : decode b_RF_port 55 = .ok (.ireturn, 1) := by decide +kernel
theorem d_RF_ground_0 : decode b_RF_ground 0 = .ok (.aload_n 0, 1) := by decide +kernel
theorem d_RF_ground_1 : decode b_RF_ground 1 = .ok (.iload_n 1, 1) := by decide +kernel
theorem d_RF_ground_2 : decode b_RF_ground 2 = .ok (.ifCond .lt 12, 3) := by decide +kernel
theorem d_RF_ground_5 : decode b_RF_ground 5 = .ok (.iload_n 1, 1) := by decide +kernel
theorem d_RF_ground_6 : decode b_RF_ground 6 = .ok (.iconst 3, 1) := by decide +kernel
theorem d_RF_ground_7 : decode b_RF_ground 7 = .ok (.if_icmp .gt 7, 3) := by decide +kernel
theorem d_RF_ground_10 : decode b_RF_ground 10 = .ok (.iconst 0, 1) := by decide +kernel
theorem d_RF_ground_11 : decode b_RF_ground 11 = .ok (.goto 4, 3) := by decide +kernel
theorem d_RF_ground_14 : decode b_RF_ground 14 = .ok (.iconst 1, 1) := by decide +kernel
theorem d_RF_ground_15 : decode b_RF_ground 15 = .ok (.putfield 74, 3) := by decide +kernel
theorem d_RF_ground_18 : decode b_RF_ground 18 = .ok (.aload_n 0, 1) := by decide +kernel
theorem d_RF_ground_19 : decode b_RF_ground 19 = .ok (.getfield 74, 3) := by decide +kernel
theorem d_RF_ground_22 : decode b_RF_ground 22 = .ok (.ifCond .ne 15, 3) := by decide +kernel
theorem d_RF_ground_25 : decode b_RF_ground 25 = .ok (.iload_n 1, 1) := by decide +kernel
theorem d_RF_ground_26 : decode b_RF_ground 26 = .ok (.aload_n 0, 1) := by decide +kernel
theorem d_RF_ground_27 : decode b_RF_ground 27 = .ok (.getfield 97, 3) := by decide +kernel
theorem d_RF_ground_30 : decode b_RF_ground 30 = .ok (.if_icmp .eq 7, 3) := by decide +kernel
theorem d_RF_ground_33 : decode b_RF_ground 33 = .ok (.iconst 1, 1) := by decide +kernel
theorem d_RF_ground_34 : decode b_RF_ground 34 = .ok (.goto 4, 3) := by decide +kernel
theorem d_RF_ground_37 : decode b_RF_ground 37 = .ok (.iconst 0, 1) := by decide +kernel
theorem d_RF_ground_38 : decode b_RF_ground 38 = .ok (.istore_n 2, 1) := by decide +kernel
theorem d_RF_ground_39 : decode b_RF_ground 39 = .ok (.aload_n 0, 1) := by decide +kernel
theorem d_RF_ground_40 : decode b_RF_ground 40 = .ok (.aload_n 0, 1) := by decide +kernel
theorem d_RF_ground_41 : decode b_RF_ground 41 = .ok (.getfield 74, 3) := by decide +kernel
theorem d_RF_ground_44 : decode b_RF_ground 44 = .ok (.ifCond .le 10, 3) := by decide +kernel
theorem d_RF_ground_47 : decode b_RF_ground 47 = .ok (.aload_n 0, 1) := by decide +kernel
theorem d_RF_ground_48 : decode b_RF_ground 48 = .ok (.getfield 97, 3) := by decide +kernel
theorem d_RF_ground_51 : decode b_RF_ground 51 = .ok (.goto 4, 3) := by decide +kernel
theorem d_RF_ground_54 : decode b_RF_ground 54 = .ok (.iload_n 1, 1) := by decide +kernel
theorem d_RF_ground_55 : decode b_RF_ground 55 = .ok (.putfield 97, 3) := by decide +kernel
theorem d_RF_ground_58 : decode b_RF_ground 58 = .ok (.iload_n 2, 1) := by decide +kernel
theorem d_RF_ground_59 : decode b_RF_ground 59 = .ok (.ireturn, 1) := by decide +kernel
theorem d_RF_machine_0 : decode b_RF_machine 0 = .ok (.aload_n 0, 1) := by decide +kernel
theorem d_RF_machine_1 : decode b_RF_machine 1 = .ok (.aload_n 0, 1) := by decide +kernel
theorem d_RF_machine_2 : decode b_RF_machine 2 = .ok (.getfield 91, 3) := by decide +kernel
theorem d_RF_machine_5 : decode b_RF_machine 5 = .ok (.ifCond .ne 7, 3) := by decide +kernel
theorem d_RF_machine_8 : decode b_RF_machine 8 = .ok (.iconst 1, 1) := by decide +kernel
theorem d_RF_machine_9 : decode b_RF_machine 9 = .ok (.goto 4, 3) := by decide +kernel
theorem d_RF_machine_12 : decode b_RF_machine 12 = .ok (.iconst 0, 1) := by decide +kernel
theorem d_RF_machine_13 : decode b_RF_machine 13 = .ok (.putfield 74, 3) := by decide +kernel
theorem d_RF_machine_16 : decode b_RF_machine 16 = .ok (.aload_n 0, 1) := by decide +kernel
theorem d_RF_machine_17 : decode b_RF_machine 17 = .ok (.getfield 74, 3) := by decide +kernel
theorem d_RF_machine_20 : decode b_RF_machine 20 = .ok (.ifCond .le 5, 3) := by decide +kernel
theorem d_RF_machine_23 : decode b_RF_machine 23 = .ok (.iconst 0, 1) := by decide +kernel
theorem d_RF_machine_24 : decode b_RF_machine 24 = .ok (.ireturn, 1) := by decide +kernel
theorem d_RF_machine_25 : decode b_RF_machine 25 = .ok (.iload_n 1, 1) := by decide +kernel
theorem d_RF_machine_26 : decode b_RF_machine 26 = .ok (.istore_n 2, 1) := by decide +kernel
theorem d_RF_machine_27 : decode b_RF_machine 27 = .ok (.iconst 0, 1) := by decide +kernel
theorem d_RF_machine_28 : decode b_RF_machine 28 = .ok (.istore_n 3, 1) := by decide +kernel
theorem d_RF_machine_29 : decode b_RF_machine 29 = .ok (.iload_n 3, 1) := by decide +kernel
theorem d_RF_machine_30 : decode b_RF_machine 30 = .ok (.aload_n 0, 1) := by decide +kernel
theorem d_RF_machine_31 : decode b_RF_machine 31 = .ok (.getfield 91, 3) := by decide +kernel
theorem d_RF_machine_34 : decode b_RF_machine 34 = .ok (.if_icmp .ge 115, 3) := by decide +kernel
theorem d_RF_machine_37 : decode b_RF_machine 37 = .ok (.iload_n 2, 1) := by decide +kernel
theorem d_RF_machine_38 : decode b_RF_machine 38 = .ok (.ifCond .lt 111, 3) := by decide +kernel
theorem d_RF_machine_41 : decode b_RF_machine 41 = .ok (.aload_n 0, 1) := by decide +kernel
theorem d_RF_machine_42 : decode b_RF_machine 42 = .ok (.getfield 40, 3) := by decide +kernel
theorem d_RF_machine_45 : decode b_RF_machine 45 = .ok (.iload_n 3, 1) := by decide +kernel
theorem d_RF_machine_46 : decode b_RF_machine 46 = .ok (.iaload, 1) := by decide +kernel
theorem d_RF_machine_47 : decode b_RF_machine 47 = .ok (.iconst 2, 1) := by decide +kernel
theorem d_RF_machine_48 : decode b_RF_machine 48 = .ok (.if_icmp .ne 7, 3) := by decide +kernel
theorem d_RF_machine_51 : decode b_RF_machine 51 = .ok (.iconst 1, 1) := by decide +kernel
theorem d_RF_machine_52 : decode b_RF_machine 52 = .ok (.goto 9, 3) := by decide +kernel
theorem d_RF_machine_55 : decode b_RF_machine 55 = .ok (.aload_n 0, 1) := by decide +kernel
theorem d_RF_machine_56 : decode b_RF_machine 56 = .ok (.getfield 43, 3) := by decide +kernel
theorem d_RF_machine_59 : decode b_RF_machine 59 = .ok (.iload_n 3, 1) := by decide +kernel
theorem d_RF_machine_60 : decode b_RF_machine 60 = .ok (.iaload, 1) := by decide +kernel
theorem d_RF_machine_61 : decode b_RF_machine 61 = .ok (.istore 4, 2) := by decide +kernel
theorem d_RF_machine_63 : decode b_RF_machine 63 = .ok (.iload_n 2, 1) := by decide +kernel
theorem d_RF_machine_64 : decode b_RF_machine 64 = .ok (.iload 4, 2) := by decide +kernel
theorem d_RF_machine_66 : decode b_RF_machine 66 = .ok (.if_icmp .ge 72, 3) := by decide +kernel
theorem d_RF_machine_69 : decode b_RF_machine 69 = .ok (.aload_n 0, 1) := by decide +kernel
theorem d_RF_machine_70 : decode b_RF_machine 70 = .ok (.getfield 46, 3) := by decide +kernel
theorem d_RF_machine_73 : decode b_RF_machine 73 = .ok (.bipush 8, 2) := by decide +kernel
theorem d_RF_machine_75 : decode b_RF_machine 75 = .ok (.iload_n 3, 1) := by decide +kernel
theorem d_RF_machine_76 : decode b_RF_machine 76 = .ok (.imul, 1) := by decide +kernel
theorem d_RF_machine_77 : decode b_RF_machine 77 = .ok (.iload_n 2, 1) := by decide +kernel
theorem d_RF_machine_78 : decode b_RF_machine 78 = .ok (.iadd, 1) := by decide +kernel
theorem d_RF_machine_79 : decode b_RF_machine 79 = .ok (.iaload, 1) := by decide +kernel
theorem d_RF_machine_80 : decode b_RF_machine 80 = .ok (.istore 5, 2) := by decide +kernel
theorem d_RF_machine_82 : decode b_RF_machine 82 = .ok (.aload_n 0, 1) := by decide +kernel
theorem d_RF_machine_83 : decode b_RF_machine 83 = .ok (.getfield 40, 3) := by decide +kernel
theorem d_RF_machine_86 : decode b_RF_machine 86 = .ok (.iload_n 3, 1) := by decide +kernel
theorem d_RF_machine_87 : decode b_RF_machine 87 = .ok (.iaload, 1) := by decide +kernel
theorem d_RF_machine_88 : decode b_RF_machine 88 = .ok (.iconst 2, 1) := by decide +kernel
theorem d_RF_machine_89 : decode b_RF_machine 89 = .ok (.if_icmp .ne 8, 3) := by decide +kernel
theorem d_RF_machine_92 : decode b_RF_machine 92 = .ok (.bipush 24, 2) := by decide +kernel
theorem d_RF_machine_94 : decode b_RF_machine 94 = .ok (.goto 43, 3) := by decide +kernel
theorem d_RF_machine_97 : decode b_RF_machine 97 = .ok (.aload_n 0, 1) := by decide +kernel
theorem d_RF_machine_98 : decode b_RF_machine 98 = .ok (.getfield 40, 3) := by decide +kernel
theorem d_RF_machine_101 : decode b_RF_machine 101 = .ok (.iload_n 3, 1) := by decide +kernel
theorem d_RF_machine_102 : decode b_RF_machine 102 = .ok (.iaload, 1) := by decide +kernel
theorem d_RF_machine_103 : decode b_RF_machine 103 = .ok (.iload 5, 2) := by decide +kernel
theorem d_RF_machine_105 : decode b_RF_machine 105 = .ok (.iconst 2, 1) := by decide +kernel
theorem d_RF_machine_106 : decode b_RF_machine 106 = .ok (.if_icmp .lt 7, 3) := by decide +kernel
theorem d_RF_machine_109 : decode b_RF_machine 109 = .ok (.iconst 2, 1) := by decide +kernel
theorem d_RF_machine_110 : decode b_RF_machine 110 = .ok (.goto 4, 3) := by decide +kernel
theorem d_RF_machine_113 : decode b_RF_machine 113 = .ok (.iconst 0, 1) := by decide +kernel
theorem d_RF_machine_114 : decode b_RF_machine 114 = .ok (.iadd, 1) := by decide +kernel
theorem d_RF_machine_115 : decode b_RF_machine 115 = .ok (.iload 5, 2) := by decide +kernel
theorem d_RF_machine_117 : decode b_RF_machine 117 = .ok (.iconst 2, 1) := by decide +kernel
theorem d_RF_machine_118 : decode b_RF_machine 118 = .ok (.irem, 1) := by decide +kernel
theorem d_RF_machine_119 : decode b_RF_machine 119 = .ok (.iconst 4, 1) := by decide +kernel
theorem d_RF_machine_120 : decode b_RF_machine 120 = .ok (.imul, 1) := by decide +kernel
theorem d_RF_machine_121 : decode b_RF_machine 121 = .ok (.iadd, 1) := by decide +kernel
theorem d_RF_machine_122 : decode b_RF_machine 122 = .ok (.iload_n 2, 1) := by decide +kernel
theorem d_RF_machine_123 : decode b_RF_machine 123 = .ok (.iload 4, 2) := by decide +kernel
theorem d_RF_machine_125 : decode b_RF_machine 125 = .ok (.iconst 1, 1) := by decide +kernel
theorem d_RF_machine_126 : decode b_RF_machine 126 = .ok (.isub, 1) := by decide +kernel
theorem d_RF_machine_127 : decode b_RF_machine 127 = .ok (.if_icmp .ne 8, 3) := by decide +kernel
theorem d_RF_machine_130 : decode b_RF_machine 130 = .ok (.bipush 8, 2) := by decide +kernel
theorem d_RF_machine_132 : decode b_RF_machine 132 = .ok (.goto 4, 3) := by decide +kernel
theorem d_RF_machine_135 : decode b_RF_machine 135 = .ok (.iconst 0, 1) := by decide +kernel
theorem d_RF_machine_136 : decode b_RF_machine 136 = .ok (.iadd, 1) := by decide +kernel
theorem d_RF_machine_137 : decode b_RF_machine 137 = .ok (.ireturn, 1) := by decide +kernel
theorem d_RF_machine_138 : decode b_RF_machine 138 = .ok (.iload_n 2, 1) := by decide +kernel
theorem d_RF_machine_139 : decode b_RF_machine 139 = .ok (.iload 4, 2) := by decide +kernel
theorem d_RF_machine_141 : decode b_RF_machine 141 = .ok (.isub, 1) := by decide +kernel
theorem d_RF_machine_142 : decode b_RF_machine 142 = .ok (.istore_n 2, 1) := by decide +kernel
theorem d_RF_machine_143 : decode b_RF_machine 143 = .ok (.iinc 3 1, 3) := by decide +kernel
theorem d_RF_machine_146 : decode b_RF_machine 146 = .ok (.goto (-117), 3) := by decide +kernel
theorem d_RF_machine_149 : decode b_RF_machine 149 = .ok (.aload_n 0, 1) := by decide +kernel
theorem d_RF_machine_150 : decode b_RF_machine 150 = .ok (.iconst 2, 1) := by decide +kernel
theorem d_RF_machine_151 : decode b_RF_machine 151 = .ok (.putfield 74, 3) := by decide +kernel
theorem d_RF_machine_154 : decode b_RF_machine 154 = .ok (.iconst 0, 1) := by decide +kernel
theorem d_RF_machine_155 : decode b_RF_machine 155 = .ok (.ireturn, 1) := by decide +kernel
theorem d_RF_failing_0 : decode b_RF_failing 0 = .ok (.iload_n 1, 1) := by decide +kernel
theorem d_RF_failing_1 : decode b_RF_failing 1 = .ok (.ifCond .lt 15, 3) := by decide +kernel
theorem d_RF_failing_4 : decode b_RF_failing 4 = .ok (.iload_n 1, 1) := by decide +kernel
theorem d_RF_failing_5 : decode b_RF_failing 5 = .ok (.aload_n 0, 1) := by decide +kernel
theorem d_RF_failing_6 : decode b_RF_failing 6 = .ok (.getfield 128, 3) := by decide +kernel
theorem d_RF_failing_9 : decode b_RF_failing 9 = .ok (.if_icmp .ge 7, 3) := by decide +kernel
theorem d_RF_failing_12 : decode b_RF_failing 12 = .ok (.iconst 1, 1) := by decide +kernel
theorem d_RF_failing_13 : decode b_RF_failing 13 = .ok (.goto 4, 3) := by decide +kernel
theorem d_RF_failing_16 : decode b_RF_failing 16 = .ok (.iconst 0, 1) := by decide +kernel
theorem d_RF_failing_17 : decode b_RF_failing 17 = .ok (.istore_n 3, 1) := by decide +kernel
theorem d_RF_failing_18 : decode b_RF_failing 18 = .ok (.aload_n 0, 1) := by decide +kernel
theorem d_RF_failing_19 : decode b_RF_failing 19 = .ok (.iload_n 2, 1) := by decide +kernel
theorem d_RF_failing_20 : decode b_RF_failing 20 = .ok (.iconst 4, 1) := by decide +kernel
theorem d_RF_failing_21 : decode b_RF_failing 21 = .ok (.if_icmp .ne 11, 3) := by decide +kernel
theorem d_RF_failing_24 : decode b_RF_failing 24 = .ok (.iload_n 3, 1) := by decide +kernel
theorem d_RF_failing_25 : decode b_RF_failing 25 = .ok (.ifCond .ne 20, 3) := by decide +kernel
theorem d_RF_failing_28 : decode b_RF_failing 28 = .ok (.iload_n 1, 1) := by decide +kernel
theorem d_RF_failing_29 : decode b_RF_failing 29 = .ok (.ifCond .eq 16, 3) := by decide +kernel
theorem d_RF_failing_32 : decode b_RF_failing 32 = .ok (.iload_n 3, 1) := by decide +kernel
theorem d_RF_failing_33 : decode b_RF_failing 33 = .ok (.ifCond .eq 16, 3) := by decide +kernel
theorem d_RF_failing_36 : decode b_RF_failing 36 = .ok (.iload_n 2, 1) := by decide +kernel
theorem d_RF_failing_37 : decode b_RF_failing 37 = .ok (.ifCond .lt 12, 3) := by decide +kernel
theorem d_RF_failing_40 : decode b_RF_failing 40 = .ok (.iload_n 2, 1) := by decide +kernel
theorem d_RF_failing_41 : decode b_RF_failing 41 = .ok (.iconst 3, 1) := by decide +kernel
theorem d_RF_failing_42 : decode b_RF_failing 42 = .ok (.if_icmp .gt 7, 3) := by decide +kernel
theorem d_RF_failing_45 : decode b_RF_failing 45 = .ok (.iconst 0, 1) := by decide +kernel
theorem d_RF_failing_46 : decode b_RF_failing 46 = .ok (.goto 4, 3) := by decide +kernel
theorem d_RF_failing_49 : decode b_RF_failing 49 = .ok (.iconst 1, 1) := by decide +kernel
theorem d_RF_failing_50 : decode b_RF_failing 50 = .ok (.putfield 74, 3) := by decide +kernel
theorem d_RF_failing_53 : decode b_RF_failing 53 = .ok (.aload_n 0, 1) := by decide +kernel
theorem d_RF_failing_54 : decode b_RF_failing 54 = .ok (.getfield 74, 3) := by decide +kernel
theorem d_RF_failing_57 : decode b_RF_failing 57 = .ok (.ifCond .le 7, 3) := by decide +kernel
theorem d_RF_failing_60 : decode b_RF_failing 60 = .ok (.iconst 0, 1) := by decide +kernel
theorem d_RF_failing_61 : decode b_RF_failing 61 = .ok (.goto 25, 3) := by decide +kernel
theorem d_RF_failing_64 : decode b_RF_failing 64 = .ok (.iload_n 2, 1) := by decide +kernel
theorem d_RF_failing_65 : decode b_RF_failing 65 = .ok (.iconst 4, 1) := by decide +kernel
theorem d_RF_failing_66 : decode b_RF_failing 66 = .ok (.if_icmp .ne 10, 3) := by decide +kernel
theorem d_RF_failing_69 : decode b_RF_failing 69 = .ok (.aload_n 0, 1) := by decide +kernel
theorem d_RF_failing_70 : decode b_RF_failing 70 = .ok (.getfield 128, 3) := by decide +kernel
theorem d_RF_failing_73 : decode b_RF_failing 73 = .ok (.goto 13, 3) := by decide +kernel
theorem d_RF_failing_76 : decode b_RF_failing 76 = .ok (.aload_n 0, 1) := by decide +kernel
theorem d_RF_failing_77 : decode b_RF_failing 77 = .ok (.getfield 61, 3) := by decide +kernel
theorem d_RF_failing_80 : decode b_RF_failing 80 = .ok (.iconst 4, 1) := by decide +kernel
theorem d_RF_failing_81 : decode b_RF_failing 81 = .ok (.iload_n 1, 1) := by decide +kernel
theorem d_RF_failing_82 : decode b_RF_failing 82 = .ok (.imul, 1) := by decide +kernel
theorem d_RF_failing_83 : decode b_RF_failing 83 = .ok (.iload_n 2, 1) := by decide +kernel
theorem d_RF_failing_84 : decode b_RF_failing 84 = .ok (.iadd, 1) := by decide +kernel
theorem d_RF_failing_85 : decode b_RF_failing 85 = .ok (.iaload, 1) := by decide +kernel
theorem d_RF_failing_86 : decode b_RF_failing 86 = .ok (.ireturn, 1) := by decide +kernel
theorem d_RF_ones_0 : decode b_RF_ones 0 = .ok (.iconst 0, 1) := by decide +kernel
theorem d_RF_ones_1 : decode b_RF_ones 1 = .ok (.istore_n 1, 1) := by decide +kernel
theorem d_RF_ones_2 : decode b_RF_ones 2 = .ok (.iconst 0, 1) := by decide +kernel
theorem d_RF_ones_3 : decode b_RF_ones 3 = .ok (.istore_n 2, 1) := by decide +kernel
theorem d_RF_ones_4 : decode b_RF_ones 4 = .ok (.iload_n 2, 1) := by decide +kernel
theorem d_RF_ones_5 : decode b_RF_ones 5 = .ok (.bipush 16, 2) := by decide +kernel
theorem d_RF_ones_7 : decode b_RF_ones 7 = .ok (.if_icmp .ge 17, 3) := by decide +kernel
theorem d_RF_ones_10 : decode b_RF_ones 10 = .ok (.iload_n 1, 1) := by decide +kernel
theorem d_RF_ones_11 : decode b_RF_ones 11 = .ok (.iload_n 0, 1) := by decide +kernel
theorem d_RF_ones_12 : decode b_RF_ones 12 = .ok (.iload_n 2, 1) := by decide +kernel
theorem d_RF_ones_13 : decode b_RF_ones 13 = .ok (.ishr, 1) := by decide +kernel
theorem d_RF_ones_14 : decode b_RF_ones 14 = .ok (.iconst 1, 1) := by decide +kernel
theorem d_RF_ones_15 : decode b_RF_ones 15 = .ok (.iand, 1) := by decide +kernel
theorem d_RF_ones_16 : decode b_RF_ones 16 = .ok (.iadd, 1) := by decide +kernel
theorem d_RF_ones_17 : decode b_RF_ones 17 = .ok (.istore_n 1, 1) := by decide +kernel
theorem d_RF_ones_18 : decode b_RF_ones 18 = .ok (.iinc 2 1, 3) := by decide +kernel
theorem d_RF_ones_21 : decode b_RF_ones 21 = .ok (.goto (-17), 3) := by decide +kernel
theorem d_RF_ones_24 : decode b_RF_ones 24 = .ok (.iload_n 1, 1) := by decide +kernel
theorem d_RF_ones_25 : decode b_RF_ones 25 = .ok (.ireturn, 1) := by decide +kernel
theorem d_RF_columnsFor_0 : decode b_RF_columnsFor 0 = .ok (.iconst 0, 1) := by decide +kernel
theorem d_RF_columnsFor_1 : decode b_RF_columnsFor 1 = .ok (.istore_n 2, 1) := by decide +kernel
theorem d_RF_columnsFor_2 : decode b_RF_columnsFor 2 = .ok (.iconst 0, 1) := by decide +kernel
theorem d_RF_columnsFor_3 : decode b_RF_columnsFor 3 = .ok (.istore_n 3, 1) := by decide +kernel
theorem d_RF_columnsFor_4 : decode b_RF_columnsFor 4 = .ok (.iload_n 3, 1) := by decide +kernel
theorem d_RF_columnsFor_5 : decode b_RF_columnsFor 5 = .ok (.aload_n 0, 1) := by decide +kernel
theorem d_RF_columnsFor_6 : decode b_RF_columnsFor 6 = .ok (.getfield 128, 3) := by decide +kernel
theorem d_RF_columnsFor_9 : decode b_RF_columnsFor 9 = .ok (.if_icmp .ge 44, 3) := by decide +kernel
theorem d_RF_columnsFor_12 : decode b_RF_columnsFor 12 = .ok (.iload_n 1, 1) := by decide +kernel
theorem d_RF_columnsFor_13 : decode b_RF_columnsFor 13 = .ok (.aload_n 0, 1) := by decide +kernel
theorem d_RF_columnsFor_14 : decode b_RF_columnsFor 14 = .ok (.getfield 61, 3) := by decide +kernel
theorem d_RF_columnsFor_17 : decode b_RF_columnsFor 17 = .ok (.iconst 4, 1) := by decide +kernel
theorem d_RF_columnsFor_18 : decode b_RF_columnsFor 18 = .ok (.iload_n 3, 1) := by decide +kernel
theorem d_RF_columnsFor_19 : decode b_RF_columnsFor 19 = .ok (.imul, 1) := by decide +kernel
theorem d_RF_columnsFor_20 : decode b_RF_columnsFor 20 = .ok (.iconst 2, 1) := by decide +kernel
theorem d_RF_columnsFor_21 : decode b_RF_columnsFor 21 = .ok (.iadd, 1) := by decide +kernel
theorem d_RF_columnsFor_22 : decode b_RF_columnsFor 22 = .ok (.iaload, 1) := by decide +kernel
theorem d_RF_columnsFor_23 : decode b_RF_columnsFor 23 = .ok (.ishr, 1) := by decide +kernel
theorem d_RF_columnsFor_24 : decode b_RF_columnsFor 24 = .ok (.iconst 1, 1) := by decide +kernel
theorem d_RF_columnsFor_25 : decode b_RF_columnsFor 25 = .ok (.iand, 1) := by decide +kernel
theorem d_RF_columnsFor_26 : decode b_RF_columnsFor 26 = .ok (.iconst 1, 1) := by decide +kernel
theorem d_RF_columnsFor_27 : decode b_RF_columnsFor 27 = .ok (.if_icmp .ne 7, 3) := by decide +kernel
theorem d_RF_columnsFor_30 : decode b_RF_columnsFor 30 = .ok (.iload_n 2, 1) := by decide +kernel
theorem d_RF_columnsFor_31 : decode b_RF_columnsFor 31 = .ok (.goto 15, 3) := by decide +kernel
theorem d_RF_columnsFor_34 : decode b_RF_columnsFor 34 = .ok (.iload_n 2, 1) := by decide +kernel
theorem d_RF_columnsFor_35 : decode b_RF_columnsFor 35 = .ok (.aload_n 0, 1) := by decide +kernel
theorem d_RF_columnsFor_36 : decode b_RF_columnsFor 36 = .ok (.getfield 61, 3) := by decide +kernel
theorem d_RF_columnsFor_39 : decode b_RF_columnsFor 39 = .ok (.iconst 4, 1) := by decide +kernel
theorem d_RF_columnsFor_40 : decode b_RF_columnsFor 40 = .ok (.iload_n 3, 1) := by decide +kernel
theorem d_RF_columnsFor_41 : decode b_RF_columnsFor 41 = .ok (.imul, 1) := by decide +kernel
theorem d_RF_columnsFor_42 : decode b_RF_columnsFor 42 = .ok (.iconst 3, 1) := by decide +kernel
theorem d_RF_columnsFor_43 : decode b_RF_columnsFor 43 = .ok (.iadd, 1) := by decide +kernel
