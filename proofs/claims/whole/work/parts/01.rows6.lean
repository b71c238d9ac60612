theorem d_RF_columnsFor_44 : decode b_RF_columnsFor 44 = .ok (.iaload, 1) := by decide +kernel
theorem d_RF_columnsFor_45 : decode b_RF_columnsFor 45 = .ok (.ior, 1) := by decide +kernel
theorem d_RF_columnsFor_46 : decode b_RF_columnsFor 46 = .ok (.istore_n 2, 1) := by decide +kernel
theorem d_RF_columnsFor_47 : decode b_RF_columnsFor 47 = .ok (.iinc 3 1, 3) := by decide +kernel
theorem d_RF_columnsFor_50 : decode b_RF_columnsFor 50 = .ok (.goto (-46), 3) := by decide +kernel
theorem d_RF_columnsFor_53 : decode b_RF_columnsFor 53 = .ok (.iload_n 2, 1) := by decide +kernel
theorem d_RF_columnsFor_54 : decode b_RF_columnsFor 54 = .ok (.ireturn, 1) := by decide +kernel
theorem d_RF_isBefore_0 : decode b_RF_isBefore 0 = .ok (.iconst 0, 1) := by decide +kernel
theorem d_RF_isBefore_1 : decode b_RF_isBefore 1 = .ok (.istore_n 2, 1) := by decide +kernel
theorem d_RF_isBefore_2 : decode b_RF_isBefore 2 = .ok (.iload_n 2, 1) := by decide +kernel
theorem d_RF_isBefore_3 : decode b_RF_isBefore 3 = .ok (.bipush 16, 2) := by decide +kernel
theorem d_RF_isBefore_5 : decode b_RF_isBefore 5 = .ok (.if_icmp .ge 35, 3) := by decide +kernel
theorem d_RF_isBefore_8 : decode b_RF_isBefore 8 = .ok (.iload_n 0, 1) := by decide +kernel
theorem d_RF_isBefore_9 : decode b_RF_isBefore 9 = .ok (.iload_n 2, 1) := by decide +kernel
theorem d_RF_isBefore_10 : decode b_RF_isBefore 10 = .ok (.ishr, 1) := by decide +kernel
theorem d_RF_isBefore_11 : decode b_RF_isBefore 11 = .ok (.iconst 1, 1) := by decide +kernel
theorem d_RF_isBefore_12 : decode b_RF_isBefore 12 = .ok (.iand, 1) := by decide +kernel
theorem d_RF_isBefore_13 : decode b_RF_isBefore 13 = .ok (.istore_n 3, 1) := by decide +kernel
theorem d_RF_isBefore_14 : decode b_RF_isBefore 14 = .ok (.iload_n 3, 1) := by decide +kernel
theorem d_RF_isBefore_15 : decode b_RF_isBefore 15 = .ok (.iload_n 1, 1) := by decide +kernel
theorem d_RF_isBefore_16 : decode b_RF_isBefore 16 = .ok (.iload_n 2, 1) := by decide +kernel
theorem d_RF_isBefore_17 : decode b_RF_isBefore 17 = .ok (.ishr, 1) := by decide +kernel
theorem d_RF_isBefore_18 : decode b_RF_isBefore 18 = .ok (.iconst 1, 1) := by decide +kernel
theorem d_RF_isBefore_19 : decode b_RF_isBefore 19 = .ok (.iand, 1) := by decide +kernel
theorem d_RF_isBefore_20 : decode b_RF_isBefore 20 = .ok (.if_icmp .eq 14, 3) := by decide +kernel
theorem d_RF_isBefore_23 : decode b_RF_isBefore 23 = .ok (.iload_n 3, 1) := by decide +kernel
theorem d_RF_isBefore_24 : decode b_RF_isBefore 24 = .ok (.iconst 1, 1) := by decide +kernel
theorem d_RF_isBefore_25 : decode b_RF_isBefore 25 = .ok (.if_icmp .ne 7, 3) := by decide +kernel
theorem d_RF_isBefore_28 : decode b_RF_isBefore 28 = .ok (.iconst 1, 1) := by decide +kernel
theorem d_RF_isBefore_29 : decode b_RF_isBefore 29 = .ok (.goto 4, 3) := by decide +kernel
theorem d_RF_isBefore_32 : decode b_RF_isBefore 32 = .ok (.iconst 0, 1) := by decide +kernel
theorem d_RF_isBefore_33 : decode b_RF_isBefore 33 = .ok (.ireturn, 1) := by decide +kernel
theorem d_RF_isBefore_34 : decode b_RF_isBefore 34 = .ok (.iinc 2 1, 3) := by decide +kernel
theorem d_RF_isBefore_37 : decode b_RF_isBefore 37 = .ok (.goto (-35), 3) := by decide +kernel
theorem d_RF_isBefore_40 : decode b_RF_isBefore 40 = .ok (.iconst 0, 1) := by decide +kernel
theorem d_RF_isBefore_41 : decode b_RF_isBefore 41 = .ok (.ireturn, 1) := by decide +kernel
theorem d_RF_repair_0 : decode b_RF_repair 0 = .ok (.aload_n 0, 1) := by decide +kernel
theorem d_RF_repair_1 : decode b_RF_repair 1 = .ok (.iload_n 1, 1) := by decide +kernel
theorem d_RF_repair_2 : decode b_RF_repair 2 = .ok (.ifCond .lt 25, 3) := by decide +kernel
theorem d_RF_repair_5 : decode b_RF_repair 5 = .ok (.iload_n 1, 1) := by decide +kernel
theorem d_RF_repair_6 : decode b_RF_repair 6 = .ok (.bipush 8, 2) := by decide +kernel
theorem d_RF_repair_8 : decode b_RF_repair 8 = .ok (.if_icmp .gt 19, 3) := by decide +kernel
theorem d_RF_repair_11 : decode b_RF_repair 11 = .ok (.iload_n 2, 1) := by decide +kernel
theorem d_RF_repair_12 : decode b_RF_repair 12 = .ok (.ifCond .lt 15, 3) := by decide +kernel
theorem d_RF_repair_15 : decode b_RF_repair 15 = .ok (.iload_n 2, 1) := by decide +kernel
theorem d_RF_repair_16 : decode b_RF_repair 16 = .ok (.bipush 8, 2) := by decide +kernel
theorem d_RF_repair_18 : decode b_RF_repair 18 = .ok (.if_icmp .gt 9, 3) := by decide +kernel
theorem d_RF_repair_21 : decode b_RF_repair 21 = .ok (.lload_n 3, 1) := by decide +kernel
theorem d_RF_repair_22 : decode b_RF_repair 22 = .ok (.lconst 0, 1) := by decide +kernel
theorem d_RF_repair_23 : decode b_RF_repair 23 = .ok (.lcmp, 1) := by decide +kernel
theorem d_RF_repair_24 : decode b_RF_repair 24 = .ok (.ifCond .ge 7, 3) := by decide +kernel
theorem d_RF_repair_27 : decode b_RF_repair 27 = .ok (.iconst 1, 1) := by decide +kernel
theorem d_RF_repair_28 : decode b_RF_repair 28 = .ok (.goto 4, 3) := by decide +kernel
theorem d_RF_repair_31 : decode b_RF_repair 31 = .ok (.iconst 0, 1) := by decide +kernel
theorem d_RF_repair_32 : decode b_RF_repair 32 = .ok (.putfield 74, 3) := by decide +kernel
theorem d_RF_repair_35 : decode b_RF_repair 35 = .ok (.aload_n 0, 1) := by decide +kernel
theorem d_RF_repair_36 : decode b_RF_repair 36 = .ok (.getfield 74, 3) := by decide +kernel
theorem d_RF_repair_39 : decode b_RF_repair 39 = .ok (.ifCond .le 5, 3) := by decide +kernel
theorem d_RF_repair_42 : decode b_RF_repair 42 = .ok (.iconst 0, 1) := by decide +kernel
theorem d_RF_repair_43 : decode b_RF_repair 43 = .ok (.ireturn, 1) := by decide +kernel
theorem d_RF_repair_44 : decode b_RF_repair 44 = .ok (.aload_n 0, 1) := by decide +kernel
theorem d_RF_repair_45 : decode b_RF_repair 45 = .ok (.iconst 0, 1) := by decide +kernel
theorem d_RF_repair_46 : decode b_RF_repair 46 = .ok (.putfield 147, 3) := by decide +kernel
theorem d_RF_repair_49 : decode b_RF_repair 49 = .ok (.aload_n 0, 1) := by decide +kernel
theorem d_RF_repair_50 : decode b_RF_repair 50 = .ok (.iconst 0, 1) := by decide +kernel
theorem d_RF_repair_51 : decode b_RF_repair 51 = .ok (.putfield 150, 3) := by decide +kernel
theorem d_RF_repair_54 : decode b_RF_repair 54 = .ok (.iconst 0, 1) := by decide +kernel
theorem d_RF_repair_55 : decode b_RF_repair 55 = .ok (.istore 5, 2) := by decide +kernel
theorem d_RF_repair_57 : decode b_RF_repair 57 = .ok (.iconst 0, 1) := by decide +kernel
theorem d_RF_repair_58 : decode b_RF_repair 58 = .ok (.istore 6, 2) := by decide +kernel
theorem d_RF_repair_60 : decode b_RF_repair 60 = .ok (.iload 6, 2) := by decide +kernel
theorem d_RF_repair_62 : decode b_RF_repair 62 = .ok (.aload_n 0, 1) := by decide +kernel
theorem d_RF_repair_63 : decode b_RF_repair 63 = .ok (.getfield 128, 3) := by decide +kernel
theorem d_RF_repair_66 : decode b_RF_repair 66 = .ok (.if_icmp .ge 27, 3) := by decide +kernel
theorem d_RF_repair_69 : decode b_RF_repair 69 = .ok (.iload 5, 2) := by decide +kernel
theorem d_RF_repair_71 : decode b_RF_repair 71 = .ok (.iconst 1, 1) := by decide +kernel
theorem d_RF_repair_72 : decode b_RF_repair 72 = .ok (.aload_n 0, 1) := by decide +kernel
theorem d_RF_repair_73 : decode b_RF_repair 73 = .ok (.getfield 61, 3) := by decide +kernel
theorem d_RF_repair_76 : decode b_RF_repair 76 = .ok (.iconst 4, 1) := by decide +kernel
theorem d_RF_repair_77 : decode b_RF_repair 77 = .ok (.iload 6, 2) := by decide +kernel
theorem d_RF_repair_79 : decode b_RF_repair 79 = .ok (.imul, 1) := by decide +kernel
theorem d_RF_repair_80 : decode b_RF_repair 80 = .ok (.iconst 2, 1) := by decide +kernel
theorem d_RF_repair_81 : decode b_RF_repair 81 = .ok (.iadd, 1) := by decide +kernel
theorem d_RF_repair_82 : decode b_RF_repair 82 = .ok (.iaload, 1) := by decide +kernel
theorem d_RF_repair_83 : decode b_RF_repair 83 = .ok (.ishl, 1) := by decide +kernel
theorem d_RF_repair_84 : decode b_RF_repair 84 = .ok (.ior, 1) := by decide +kernel
theorem d_RF_repair_85 : decode b_RF_repair 85 = .ok (.istore 5, 2) := by decide +kernel
theorem d_RF_repair_87 : decode b_RF_repair 87 = .ok (.iinc 6 1, 3) := by decide +kernel
theorem d_RF_repair_90 : decode b_RF_repair 90 = .ok (.goto (-30), 3) := by decide +kernel
theorem d_RF_repair_93 : decode b_RF_repair 93 = .ok (.aload_n 0, 1) := by decide +kernel
theorem d_RF_repair_94 : decode b_RF_repair 94 = .ok (.iload 5, 2) := by decide +kernel
theorem d_RF_repair_96 : decode b_RF_repair 96 = .ok (.invokestatic 153, 3) := by decide +kernel
theorem d_RF_repair_99 : decode b_RF_repair 99 = .ok (.i2l, 1) := by decide +kernel
theorem d_RF_repair_100 : decode b_RF_repair 100 = .ok (.lload_n 3, 1) := by decide +kernel
theorem d_RF_repair_101 : decode b_RF_repair 101 = .ok (.lcmp, 1) := by decide +kernel
theorem d_RF_repair_102 : decode b_RF_repair 102 = .ok (.ifCond .gt 7, 3) := by decide +kernel
theorem d_RF_repair_105 : decode b_RF_repair 105 = .ok (.iconst 1, 1) := by decide +kernel
theorem d_RF_repair_106 : decode b_RF_repair 106 = .ok (.goto 4, 3) := by decide +kernel
theorem d_RF_repair_109 : decode b_RF_repair 109 = .ok (.iconst 0, 1) := by decide +kernel
theorem d_RF_repair_110 : decode b_RF_repair 110 = .ok (.putfield 157, 3) := by decide +kernel
theorem d_RF_repair_113 : decode b_RF_repair 113 = .ok (.aload_n 0, 1) := by decide +kernel
theorem d_RF_repair_114 : decode b_RF_repair 114 = .ok (.getfield 157, 3) := by decide +kernel
theorem d_RF_repair_117 : decode b_RF_repair 117 = .ok (.ifCond .ne 6, 3) := by decide +kernel
theorem d_RF_repair_120 : decode b_RF_repair 120 = .ok (.bipush (-2), 2) := by decide +kernel
theorem d_RF_repair_122 : decode b_RF_repair 122 = .ok (.ireturn, 1) := by decide +kernel
theorem d_RF_repair_123 : decode b_RF_repair 123 = .ok (.iconst (-1), 1) := by decide +kernel
theorem d_RF_repair_124 : decode b_RF_repair 124 = .ok (.istore 6, 2) := by decide +kernel
theorem d_RF_repair_126 : decode b_RF_repair 126 = .ok (.bipush 99, 2) := by decide +kernel
theorem d_RF_repair_128 : decode b_RF_repair 128 = .ok (.istore 7, 2) := by decide +kernel
theorem d_RF_repair_130 : decode b_RF_repair 130 = .ok (.iconst 0, 1) := by decide +kernel
theorem d_RF_repair_131 : decode b_RF_repair 131 = .ok (.istore 8, 2) := by decide +kernel
theorem d_RF_repair_133 : decode b_RF_repair 133 = .ok (.iload 8, 2) := by decide +kernel
theorem d_RF_repair_135 : decode b_RF_repair 135 = .ok (.iconst 1, 1) := by decide +kernel
theorem d_RF_repair_136 : decode b_RF_repair 136 = .ok (.aload_n 0, 1) := by decide +kernel
theorem d_RF_repair_137 : decode b_RF_repair 137 = .ok (.getfield 64, 3) := by decide +kernel
theorem d_RF_repair_140 : decode b_RF_repair 140 = .ok (.ishl, 1) := by decide +kernel
theorem d_RF_repair_141 : decode b_RF_repair 141 = .ok (.if_icmp .ge 140, 3) := by decide +kernel
theorem d_RF_repair_144 : decode b_RF_repair 144 = .ok (.iload 8, 2) := by decide +kernel
theorem d_RF_repair_146 : decode b_RF_repair 146 = .ok (.invokestatic 153, 3) := by decide +kernel
theorem d_RF_repair_149 : decode b_RF_repair 149 = .ok (.istore 9, 2) := by decide +kernel
theorem d_RF_repair_151 : decode b_RF_repair 151 = .ok (.iload 9, 2) := by decide +kernel
theorem d_RF_repair_153 : decode b_RF_repair 153 = .ok (.iload_n 1, 1) := by decide +kernel
theorem d_RF_repair_154 : decode b_RF_repair 154 = .ok (.if_icmp .gt 12, 3) := by decide +kernel
theorem d_RF_repair_157 : decode b_RF_repair 157 = .ok (.aload_n 0, 1) := by decide +kernel
theorem d_RF_repair_158 : decode b_RF_repair 158 = .ok (.iload 8, 2) := by decide +kernel
theorem d_RF_repair_160 : decode b_RF_repair 160 = .ok (.invokevirtual 160, 3) := by decide +kernel
theorem d_RF_repair_163 : decode b_RF_repair 163 = .ok (.goto 4, 3) := by decide +kernel
theorem d_RF_repair_166 : decode b_RF_repair 166 = .ok (.iconst 0, 1) := by decide +kernel
theorem d_RF_repair_167 : decode b_RF_repair 167 = .ok (.istore 10, 2) := by decide +kernel
theorem d_RF_repair_169 : decode b_RF_repair 169 = .ok (.iload 9, 2) := by decide +kernel
theorem d_RF_repair_171 : decode b_RF_repair 171 = .ok (.iload 10, 2) := by decide +kernel
theorem d_RF_repair_173 : decode b_RF_repair 173 = .ok (.invokestatic 153, 3) := by decide +kernel
theorem d_RF_repair_176 : decode b_RF_repair 176 = .ok (.iadd, 1) := by decide +kernel
theorem d_RF_repair_177 : decode b_RF_repair 177 = .ok (.istore 11, 2) := by decide +kernel
theorem d_RF_repair_179 : decode b_RF_repair 179 = .ok (.iload 9, 2) := by decide +kernel
theorem d_RF_repair_181 : decode b_RF_repair 181 = .ok (.iload_n 1, 1) := by decide +kernel
theorem d_RF_repair_182 : decode b_RF_repair 182 = .ok (.if_icmp .gt 16, 3) := by decide +kernel
theorem d_RF_repair_185 : decode b_RF_repair 185 = .ok (.iload 10, 2) := by decide +kernel
theorem d_RF_repair_187 : decode b_RF_repair 187 = .ok (.invokestatic 153, 3) := by decide +kernel
theorem d_RF_repair_190 : decode b_RF_repair 190 = .ok (.iload_n 2, 1) := by decide +kernel
theorem d_RF_repair_191 : decode b_RF_repair 191 = .ok (.if_icmp .gt 7, 3) := by decide +kernel
theorem d_RF_repair_194 : decode b_RF_repair 194 = .ok (.iconst 1, 1) := by decide +kernel
theorem d_RF_repair_195 : decode b_RF_repair 195 = .ok (.goto 4, 3) := by decide +kernel
theorem d_RF_repair_198 : decode b_RF_repair 198 = .ok (.iconst 0, 1) := by decide +kernel
theorem d_RF_repair_199 : decode b_RF_repair 199 = .ok (.istore 12, 2) := by decide +kernel
theorem d_RF_repair_201 : decode b_RF_repair 201 = .ok (.iload 6, 2) := by decide +kernel
theorem d_RF_repair_203 : decode b_RF_repair 203 = .ok (.ifCond .lt 47, 3) := by decide +kernel
theorem d_RF_repair_206 : decode b_RF_repair 206 = .ok (.iload 11, 2) := by decide +kernel
theorem d_RF_repair_208 : decode b_RF_repair 208 = .ok (.iload 7, 2) := by decide +kernel
theorem d_RF_repair_210 : decode b_RF_repair 210 = .ok (.if_icmp .lt 40, 3) := by decide +kernel
theorem d_RF_repair_213 : decode b_RF_repair 213 = .ok (.iload 11, 2) := by decide +kernel
theorem d_RF_repair_215 : decode b_RF_repair 215 = .ok (.iload 7, 2) := by decide +kernel
theorem d_RF_repair_217 : decode b_RF_repair 217 = .ok (.if_icmp .ne 37, 3) := by decide +kernel
theorem d_RF_repair_220 : decode b_RF_repair 220 = .ok (.iload 9, 2) := by decide +kernel
theorem d_RF_repair_222 : decode b_RF_repair 222 = .ok (.iload 6, 2) := by decide +kernel
theorem d_RF_repair_224 : decode b_RF_repair 224 = .ok (.invokestatic 153, 3) := by decide +kernel
theorem d_RF_repair_227 : decode b_RF_repair 227 = .ok (.if_icmp .lt 23, 3) := by decide +kernel
theorem d_RF_repair_230 : decode b_RF_repair 230 = .ok (.iload 9, 2) := by decide +kernel
theorem d_RF_repair_232 : decode b_RF_repair 232 = .ok (.iload 6, 2) := by decide +kernel
theorem d_RF_repair_234 : decode b_RF_repair 234 = .ok (.invokestatic 153, 3) := by decide +kernel
theorem d_RF_repair_237 : decode b_RF_repair 237 = .ok (.if_icmp .ne 17, 3) := by decide +kernel
theorem d_RF_repair_240 : decode b_RF_repair 240 = .ok (.iload 8, 2) := by decide +kernel
theorem d_RF_repair_242 : decode b_RF_repair 242 = .ok (.iload 6, 2) := by decide +kernel
theorem d_RF_repair_244 : decode b_RF_repair 244 = .ok (.invokestatic 163, 3) := by decide +kernel
theorem d_RF_repair_247 : decode b_RF_repair 247 = .ok (.ifCond .eq 7, 3) := by decide +kernel
theorem d_RF_repair_250 : decode b_RF_repair 250 = .ok (.iconst 1, 1) := by decide +kernel
theorem d_RF_repair_251 : decode b_RF_repair 251 = .ok (.goto 4, 3) := by decide +kernel
theorem d_RF_repair_254 : decode b_RF_repair 254 = .ok (.iconst 0, 1) := by decide +kernel
theorem d_RF_repair_255 : decode b_RF_repair 255 = .ok (.istore 13, 2) := by decide +kernel
theorem d_RF_repair_257 : decode b_RF_repair 257 = .ok (.iload 12, 2) := by decide +kernel
theorem d_RF_repair_259 : decode b_RF_repair 259 = .ok (.ifCond .eq 16, 3) := by decide +kernel
theorem d_RF_repair_262 : decode b_RF_repair 262 = .ok (.iload 13, 2) := by decide +kernel
theorem d_RF_repair_264 : decode b_RF_repair 264 = .ok (.ifCond .eq 11, 3) := by decide +kernel
theorem d_RF_repair_267 : decode b_RF_repair 267 = .ok (.iload 8, 2) := by decide +kernel
theorem d_RF_repair_269 : decode b_RF_repair 269 = .ok (.istore 6, 2) := by decide +kernel
theorem d_RF_repair_271 : decode b_RF_repair 271 = .ok (.iload 11, 2) := by decide +kernel
theorem d_RF_repair_273 : decode b_RF_repair 273 = .ok (.istore 7, 2) := by decide +kernel
theorem d_RF_repair_275 : decode b_RF_repair 275 = .ok (.iinc 8 1, 3) := by decide +kernel
theorem d_RF_repair_278 : decode b_RF_repair 278 = .ok (.goto (-145), 3) := by decide +kernel
theorem d_RF_repair_281 : decode b_RF_repair 281 = .ok (.iload 6, 2) := by decide +kernel
theorem d_RF_repair_283 : decode b_RF_repair 283 = .ok (.ifCond .ge 5, 3) := by decide +kernel
theorem d_RF_repair_286 : decode b_RF_repair 286 = .ok (.iconst (-1), 1) := by decide +kernel
theorem d_RF_repair_287 : decode b_RF_repair 287 = .ok (.ireturn, 1) := by decide +kernel
theorem d_RF_repair_288 : decode b_RF_repair 288 = .ok (.aload_n 0, 1) := by decide +kernel
theorem d_RF_repair_289 : decode b_RF_repair 289 = .ok (.iload 6, 2) := by decide +kernel
theorem d_RF_repair_291 : decode b_RF_repair 291 = .ok (.putfield 147, 3) := by decide +kernel
theorem d_RF_repair_294 : decode b_RF_repair 294 = .ok (.aload_n 0, 1) := by decide +kernel
theorem d_RF_repair_295 : decode b_RF_repair 295 = .ok (.aload_n 0, 1) := by decide +kernel
theorem d_RF_repair_296 : decode b_RF_repair 296 = .ok (.iload 6, 2) := by decide +kernel
theorem d_RF_repair_298 : decode b_RF_repair 298 = .ok (.invokevirtual 160, 3) := by decide +kernel
theorem d_RF_repair_301 : decode b_RF_repair 301 = .ok (.putfield 150, 3) := by decide +kernel
theorem d_RF_repair_304 : decode b_RF_repair 304 = .ok (.iload 7, 2) := by decide +kernel
theorem d_RF_repair_306 : decode b_RF_repair 306 = .ok (.ireturn, 1) := by decide +kernel
theorem d_RF_spare_0 : decode b_RF_spare 0 = .ok (.iload_n 1, 1) := by decide +kernel
theorem d_RF_spare_1 : decode b_RF_spare 1 = .ok (.istore_n 3, 1) := by decide +kernel
theorem d_RF_spare_2 : decode b_RF_spare 2 = .ok (.iconst 0, 1) := by decide +kernel
theorem d_RF_spare_3 : decode b_RF_spare 3 = .ok (.istore 4, 2) := by decide +kernel
theorem d_RF_spare_5 : decode b_RF_spare 5 = .ok (.iload 4, 2) := by decide +kernel
theorem d_RF_spare_7 : decode b_RF_spare 7 = .ok (.aload_n 0, 1) := by decide +kernel
theorem d_RF_spare_8 : decode b_RF_spare 8 = .ok (.getfield 64, 3) := by decide +kernel
theorem d_RF_spare_11 : decode b_RF_spare 11 = .ok (.aload_n 0, 1) := by decide +kernel
theorem d_RF_spare_12 : decode b_RF_spare 12 = .ok (.getfield 68, 3) := by decide +kernel
theorem d_RF_spare_15 : decode b_RF_spare 15 = .ok (.iadd, 1) := by decide +kernel
theorem d_RF_spare_16 : decode b_RF_spare 16 = .ok (.if_icmp .ge 147, 3) := by decide +kernel
theorem d_RF_spare_19 : decode b_RF_spare 19 = .ok (.iload_n 3, 1) := by decide +kernel
theorem d_RF_spare_20 : decode b_RF_spare 20 = .ok (.ifCond .lt 143, 3) := by decide +kernel
theorem d_RF_spare_23 : decode b_RF_spare 23 = .ok (.iload 4, 2) := by decide +kernel
theorem d_RF_spare_25 : decode b_RF_spare 25 = .ok (.aload_n 0, 1) := by decide +kernel
theorem d_RF_spare_26 : decode b_RF_spare 26 = .ok (.getfield 64, 3) := by decide +kernel
theorem d_RF_spare_29 : decode b_RF_spare 29 = .ok (.if_icmp .ge 24, 3) := by decide +kernel
theorem d_RF_spare_32 : decode b_RF_spare 32 = .ok (.aload_n 0, 1) := by decide +kernel
theorem d_RF_spare_33 : decode b_RF_spare 33 = .ok (.getfield 147, 3) := by decide +kernel
theorem d_RF_spare_36 : decode b_RF_spare 36 = .ok (.iload 4, 2) := by decide +kernel
theorem d_RF_spare_38 : decode b_RF_spare 38 = .ok (.ishr, 1) := by decide +kernel
theorem d_RF_spare_39 : decode b_RF_spare 39 = .ok (.iconst 1, 1) := by decide +kernel
theorem d_RF_spare_40 : decode b_RF_spare 40 = .ok (.iand, 1) := by decide +kernel
theorem d_RF_spare_41 : decode b_RF_spare 41 = .ok (.iconst 1, 1) := by decide +kernel
theorem d_RF_spare_42 : decode b_RF_spare 42 = .ok (.if_icmp .ne 7, 3) := by decide +kernel
theorem d_RF_spare_45 : decode b_RF_spare 45 = .ok (.iconst 1, 1) := by decide +kernel
theorem d_RF_spare_46 : decode b_RF_spare 46 = .ok (.goto 30, 3) := by decide +kernel
theorem d_RF_spare_49 : decode b_RF_spare 49 = .ok (.iconst 0, 1) := by decide +kernel
theorem d_RF_spare_50 : decode b_RF_spare 50 = .ok (.goto 26, 3) := by decide +kernel
theorem d_RF_spare_53 : decode b_RF_spare 53 = .ok (.aload_n 0, 1) := by decide +kernel
theorem d_RF_spare_54 : decode b_RF_spare 54 = .ok (.getfield 150, 3) := by decide +kernel
theorem d_RF_spare_57 : decode b_RF_spare 57 = .ok (.iload 4, 2) := by decide +kernel
theorem d_RF_spare_59 : decode b_RF_spare 59 = .ok (.aload_n 0, 1) := by decide +kernel
theorem d_RF_spare_60 : decode b_RF_spare 60 = .ok (.getfield 64, 3) := by decide +kernel
theorem d_RF_spare_63 : decode b_RF_spare 63 = .ok (.isub, 1) := by decide +kernel
theorem d_RF_spare_64 : decode b_RF_spare 64 = .ok (.ishr, 1) := by decide +kernel
theorem d_RF_spare_65 : decode b_RF_spare 65 = .ok (.iconst 1, 1) := by decide +kernel
theorem d_RF_spare_66 : decode b_RF_spare 66 = .ok (.iand, 1) := by decide +kernel
theorem d_RF_spare_67 : decode b_RF_spare 67 = .ok (.iconst 1, 1) := by decide +kernel
theorem d_RF_spare_68 : decode b_RF_spare 68 = .ok (.if_icmp .ne 7, 3) := by decide +kernel
theorem d_RF_spare_71 : decode b_RF_spare 71 = .ok (.iconst 1, 1) := by decide +kernel
theorem d_RF_spare_72 : decode b_RF_spare 72 = .ok (.goto 4, 3) := by decide +kernel
theorem d_RF_spare_75 : decode b_RF_spare 75 = .ok (.iconst 0, 1) := by decide +kernel
theorem d_RF_spare_76 : decode b_RF_spare 76 = .ok (.istore 5, 2) := by decide +kernel
theorem d_RF_spare_78 : decode b_RF_spare 78 = .ok (.iload 5, 2) := by decide +kernel
theorem d_RF_spare_80 : decode b_RF_spare 80 = .ok (.ifCond .eq 64, 3) := by decide +kernel
theorem d_RF_spare_83 : decode b_RF_spare 83 = .ok (.iload_n 3, 1) := by decide +kernel
theorem d_RF_spare_84 : decode b_RF_spare 84 = .ok (.ifCond .ne 60, 3) := by decide +kernel
theorem d_RF_spare_87 : decode b_RF_spare 87 = .ok (.iload_n 2, 1) := by decide +kernel
theorem d_RF_spare_88 : decode b_RF_spare 88 = .ok (.ifCond .eq 8, 3) := by decide +kernel
theorem d_RF_spare_91 : decode b_RF_spare 91 = .ok (.iload_n 2, 1) := by decide +kernel
theorem d_RF_spare_92 : decode b_RF_spare 92 = .ok (.iconst 1, 1) := by decide +kernel
theorem d_RF_spare_93 : decode b_RF_spare 93 = .ok (.if_icmp .ne 51, 3) := by decide +kernel
theorem d_RF_spare_96 : decode b_RF_spare 96 = .ok (.aload_n 0, 1) := by decide +kernel
theorem d_RF_spare_97 : decode b_RF_spare 97 = .ok (.iconst 0, 1) := by decide +kernel
theorem d_RF_spare_98 : decode b_RF_spare 98 = .ok (.putfield 74, 3) := by decide +kernel
theorem d_RF_spare_101 : decode b_RF_spare 101 = .ok (.iload_n 2, 1) := by decide +kernel
theorem d_RF_spare_102 : decode b_RF_spare 102 = .ok (.ifCond .ne 20, 3) := by decide +kernel
theorem d_RF_spare_105 : decode b_RF_spare 105 = .ok (.iload 4, 2) := by decide +kernel
theorem d_RF_spare_107 : decode b_RF_spare 107 = .ok (.aload_n 0, 1) := by decide +kernel
theorem d_RF_spare_108 : decode b_RF_spare 108 = .ok (.getfield 64, 3) := by decide +kernel
theorem d_RF_spare_111 : decode b_RF_spare 111 = .ok (.if_icmp .ge 7, 3) := by decide +kernel
theorem d_RF_spare_114 : decode b_RF_spare 114 = .ok (.iconst 0, 1) := by decide +kernel
theorem d_RF_spare_115 : decode b_RF_spare 115 = .ok (.goto 28, 3) := by decide +kernel
theorem d_RF_spare_118 : decode b_RF_spare 118 = .ok (.iconst 1, 1) := by decide +kernel
theorem d_RF_spare_119 : decode b_RF_spare 119 = .ok (.goto 24, 3) := by decide +kernel
theorem d_RF_spare_122 : decode b_RF_spare 122 = .ok (.iload 4, 2) := by decide +kernel
theorem d_RF_spare_124 : decode b_RF_spare 124 = .ok (.aload_n 0, 1) := by decide +kernel
theorem d_RF_spare_125 : decode b_RF_spare 125 = .ok (.getfield 64, 3) := by decide +kernel
theorem d_RF_spare_128 : decode b_RF_spare 128 = .ok (.if_icmp .ge 8, 3) := by decide +kernel
theorem d_RF_spare_131 : decode b_RF_spare 131 = .ok (.iload 4, 2) := by decide +kernel
theorem d_RF_spare_133 : decode b_RF_spare 133 = .ok (.goto 10, 3) := by decide +kernel
theorem d_RF_spare_136 : decode b_RF_spare 136 = .ok (.iload 4, 2) := by decide +kernel
theorem d_RF_spare_138 : decode b_RF_spare 138 = .ok (.aload_n 0, 1) := by decide +kernel
theorem d_RF_spare_139 : decode b_RF_spare 139 = .ok (.getfield 64, 3) := by decide +kernel
theorem d_RF_spare_142 : decode b_RF_spare 142 = .ok (.isub, 1) := by decide +kernel
theorem d_RF_spare_143 : decode b_RF_spare 143 = .ok (.ireturn, 1) := by decide +kernel
theorem d_RF_spare_144 : decode b_RF_spare 144 = .ok (.iload 5, 2) := by decide +kernel
theorem d_RF_spare_146 : decode b_RF_spare 146 = .ok (.ifCond .eq 9, 3) := by decide +kernel
theorem d_RF_spare_149 : decode b_RF_spare 149 = .ok (.iload_n 3, 1) := by decide +kernel
theorem d_RF_spare_150 : decode b_RF_spare 150 = .ok (.iconst 1, 1) := by decide +kernel
theorem d_RF_spare_151 : decode b_RF_spare 151 = .ok (.isub, 1) := by decide +kernel
theorem d_RF_spare_152 : decode b_RF_spare 152 = .ok (.goto 4, 3) := by decide +kernel
theorem d_RF_spare_155 : decode b_RF_spare 155 = .ok (.iload_n 3, 1) := by decide +kernel
theorem d_RF_spare_156 : decode b_RF_spare 156 = .ok (.istore_n 3, 1) := by decide +kernel
theorem d_RF_spare_157 : decode b_RF_spare 157 = .ok (.iinc 4 1, 3) := by decide +kernel
theorem d_RF_spare_160 : decode b_RF_spare 160 = .ok (.goto (-155), 3) := by decide +kernel
theorem d_RF_spare_163 : decode b_RF_spare 163 = .ok (.aload_n 0, 1) := by decide +kernel
theorem d_RF_spare_164 : decode b_RF_spare 164 = .ok (.iconst 1, 1) := by decide +kernel
theorem d_RF_spare_165 : decode b_RF_spare 165 = .ok (.putfield 74, 3) := by decide +kernel
theorem d_RF_spare_168 : decode b_RF_spare 168 = .ok (.iconst 0, 1) := by decide +kernel
theorem d_RF_spare_169 : decode b_RF_spare 169 = .ok (.ireturn, 1) := by decide +kernel
theorem d_RF_proved_0 : decode b_RF_proved 0 = .ok (.aload_n 0, 1) := by decide +kernel
theorem d_RF_proved_1 : decode b_RF_proved 1 = .ok (.iconst 0, 1) := by decide +kernel
theorem d_RF_proved_2 : decode b_RF_proved 2 = .ok (.putfield 74, 3) := by decide +kernel
theorem d_RF_proved_5 : decode b_RF_proved 5 = .ok (.aload_n 0, 1) := by decide +kernel
theorem d_RF_proved_6 : decode b_RF_proved 6 = .ok (.getfield 157, 3) := by decide +kernel
theorem d_RF_proved_9 : decode b_RF_proved 9 = .ok (.ireturn, 1) := by decide +kernel
theorem d_RF_fuse_0 : decode b_RF_fuse 0 = .ok (.aload_n 0, 1) := by decide +kernel
theorem d_RF_fuse_1 : decode b_RF_fuse 1 = .ok (.iload_n 1, 1) := by decide +kernel
theorem d_RF_fuse_2 : decode b_RF_fuse 2 = .ok (.ifCond .lt 20, 3) := by decide +kernel
theorem d_RF_fuse_5 : decode b_RF_fuse 5 = .ok (.iload_n 1, 1) := by decide +kernel
theorem d_RF_fuse_6 : decode b_RF_fuse 6 = .ok (.aload_n 0, 1) := by decide +kernel
theorem d_RF_fuse_7 : decode b_RF_fuse 7 = .ok (.getfield 64, 3) := by decide +kernel
theorem d_RF_fuse_10 : decode b_RF_fuse 10 = .ok (.aload_n 0, 1) := by decide +kernel
theorem d_RF_fuse_11 : decode b_RF_fuse 11 = .ok (.getfield 68, 3) := by decide +kernel
theorem d_RF_fuse_14 : decode b_RF_fuse 14 = .ok (.iadd, 1) := by decide +kernel
theorem d_RF_fuse_15 : decode b_RF_fuse 15 = .ok (.if_icmp .ge 7, 3) := by decide +kernel
theorem d_RF_fuse_18 : decode b_RF_fuse 18 = .ok (.iconst 0, 1) := by decide +kernel
theorem d_RF_fuse_19 : decode b_RF_fuse 19 = .ok (.goto 4, 3) := by decide +kernel
theorem d_RF_fuse_22 : decode b_RF_fuse 22 = .ok (.iconst 1, 1) := by decide +kernel
theorem d_RF_fuse_23 : decode b_RF_fuse 23 = .ok (.putfield 74, 3) := by decide +kernel
theorem d_RF_fuse_26 : decode b_RF_fuse 26 = .ok (.aload_n 0, 1) := by decide +kernel
theorem d_RF_fuse_27 : decode b_RF_fuse 27 = .ok (.getfield 74, 3) := by decide +kernel
theorem d_RF_fuse_30 : decode b_RF_fuse 30 = .ok (.ifCond .le 7, 3) := by decide +kernel
theorem d_RF_fuse_33 : decode b_RF_fuse 33 = .ok (.iconst 0, 1) := by decide +kernel
theorem d_RF_fuse_34 : decode b_RF_fuse 34 = .ok (.goto 35, 3) := by decide +kernel
theorem d_RF_fuse_37 : decode b_RF_fuse 37 = .ok (.iload_n 1, 1) := by decide +kernel
theorem d_RF_fuse_38 : decode b_RF_fuse 38 = .ok (.aload_n 0, 1) := by decide +kernel
theorem d_RF_fuse_39 : decode b_RF_fuse 39 = .ok (.getfield 64, 3) := by decide +kernel
theorem d_RF_fuse_42 : decode b_RF_fuse 42 = .ok (.if_icmp .ge 14, 3) := by decide +kernel
theorem d_RF_fuse_45 : decode b_RF_fuse 45 = .ok (.aload_n 0, 1) := by decide +kernel
theorem d_RF_fuse_46 : decode b_RF_fuse 46 = .ok (.getfield 147, 3) := by decide +kernel
theorem d_RF_fuse_49 : decode b_RF_fuse 49 = .ok (.iload_n 1, 1) := by decide +kernel
theorem d_RF_fuse_50 : decode b_RF_fuse 50 = .ok (.ishr, 1) := by decide +kernel
theorem d_RF_fuse_51 : decode b_RF_fuse 51 = .ok (.iconst 1, 1) := by decide +kernel
theorem d_RF_fuse_52 : decode b_RF_fuse 52 = .ok (.iand, 1) := by decide +kernel
theorem d_RF_fuse_53 : decode b_RF_fuse 53 = .ok (.goto 16, 3) := by decide +kernel
theorem d_RF_fuse_56 : decode b_RF_fuse 56 = .ok (.aload_n 0, 1) := by decide +kernel
theorem d_RF_fuse_57 : decode b_RF_fuse 57 = .ok (.getfield 150, 3) := by decide +kernel
theorem d_RF_fuse_60 : decode b_RF_fuse 60 = .ok (.iload_n 1, 1) := by decide +kernel
theorem d_RF_fuse_61 : decode b_RF_fuse 61 = .ok (.aload_n 0, 1) := by decide +kernel
theorem d_RF_fuse_62 : decode b_RF_fuse 62 = .ok (.getfield 64, 3) := by decide +kernel
theorem d_RF_fuse_65 : decode b_RF_fuse 65 = .ok (.isub, 1) := by decide +kernel
theorem d_RF_fuse_66 : decode b_RF_fuse 66 = .ok (.ishr, 1) := by decide +kernel
theorem d_RF_fuse_67 : decode b_RF_fuse 67 = .ok (.iconst 1, 1) := by decide +kernel
theorem d_RF_fuse_68 : decode b_RF_fuse 68 = .ok (.iand, 1) := by decide +kernel
theorem d_RF_fuse_69 : decode b_RF_fuse 69 = .ok (.ireturn, 1) := by decide +kernel
