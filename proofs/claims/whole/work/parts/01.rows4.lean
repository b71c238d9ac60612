theorem d_RF_read_82 : decode b_RF_read 82 = .ok (.aload_n 0, 1) := by decide +kernel
theorem d_RF_read_83 : decode b_RF_read 83 = .ok (.dup, 1) := by decide +kernel
theorem d_RF_read_84 : decode b_RF_read 84 = .ok (.getfield 80, 3) := by decide +kernel
theorem d_RF_read_87 : decode b_RF_read 87 = .ok (.iconst 1, 1) := by decide +kernel
theorem d_RF_read_88 : decode b_RF_read 88 = .ok (.iadd, 1) := by decide +kernel
theorem d_RF_read_89 : decode b_RF_read 89 = .ok (.putfield 80, 3) := by decide +kernel
theorem d_RF_read_92 : decode b_RF_read 92 = .ok (.aload_n 0, 1) := by decide +kernel
theorem d_RF_read_93 : decode b_RF_read 93 = .ok (.getfield 49, 3) := by decide +kernel
theorem d_RF_read_96 : decode b_RF_read 96 = .ok (.iload_n 1, 1) := by decide +kernel
theorem d_RF_read_97 : decode b_RF_read 97 = .ok (.iload 4, 2) := by decide +kernel
theorem d_RF_read_99 : decode b_RF_read 99 = .ok (.bipush 100, 2) := by decide +kernel
theorem d_RF_read_101 : decode b_RF_read 101 = .ok (.if_icmp .ne 7, 3) := by decide +kernel
theorem d_RF_read_104 : decode b_RF_read 104 = .ok (.iconst 2, 1) := by decide +kernel
theorem d_RF_read_105 : decode b_RF_read 105 = .ok (.goto 15, 3) := by decide +kernel
theorem d_RF_read_108 : decode b_RF_read 108 = .ok (.iload 4, 2) := by decide +kernel
theorem d_RF_read_110 : decode b_RF_read 110 = .ok (.bipush 118, 2) := by decide +kernel
theorem d_RF_read_112 : decode b_RF_read 112 = .ok (.if_icmp .ne 7, 3) := by decide +kernel
theorem d_RF_read_115 : decode b_RF_read 115 = .ok (.iconst 1, 1) := by decide +kernel
theorem d_RF_read_116 : decode b_RF_read 116 = .ok (.goto 4, 3) := by decide +kernel
theorem d_RF_read_119 : decode b_RF_read 119 = .ok (.iconst 0, 1) := by decide +kernel
theorem d_RF_read_120 : decode b_RF_read 120 = .ok (.iastore, 1) := by decide +kernel
theorem d_RF_read_121 : decode b_RF_read 121 = .ok (.aload_n 0, 1) := by decide +kernel
theorem d_RF_read_122 : decode b_RF_read 122 = .ok (.getfield 52, 3) := by decide +kernel
theorem d_RF_read_125 : decode b_RF_read 125 = .ok (.iload_n 1, 1) := by decide +kernel
theorem d_RF_read_126 : decode b_RF_read 126 = .ok (.iconst 0, 1) := by decide +kernel
theorem d_RF_read_127 : decode b_RF_read 127 = .ok (.iastore, 1) := by decide +kernel
theorem d_RF_read_128 : decode b_RF_read 128 = .ok (.iload 4, 2) := by decide +kernel
theorem d_RF_read_130 : decode b_RF_read 130 = .ok (.bipush 100, 2) := by decide +kernel
theorem d_RF_read_132 : decode b_RF_read 132 = .ok (.if_icmp .eq 11, 3) := by decide +kernel
theorem d_RF_read_135 : decode b_RF_read 135 = .ok (.aload_n 0, 1) := by decide +kernel
theorem d_RF_read_136 : decode b_RF_read 136 = .ok (.iload_n 1, 1) := by decide +kernel
theorem d_RF_read_137 : decode b_RF_read 137 = .ok (.invokevirtual 87, 3) := by decide +kernel
theorem d_RF_read_140 : decode b_RF_read 140 = .ok (.ifCond .eq 7, 3) := by decide +kernel
theorem d_RF_read_143 : decode b_RF_read 143 = .ok (.iconst 1, 1) := by decide +kernel
theorem d_RF_read_144 : decode b_RF_read 144 = .ok (.goto 4, 3) := by decide +kernel
theorem d_RF_read_147 : decode b_RF_read 147 = .ok (.iconst 0, 1) := by decide +kernel
theorem d_RF_read_148 : decode b_RF_read 148 = .ok (.istore_n 2, 1) := by decide +kernel
theorem d_RF_read_149 : decode b_RF_read 149 = .ok (.iinc 1 1, 3) := by decide +kernel
theorem d_RF_read_152 : decode b_RF_read 152 = .ok (.iload_n 2, 1) := by decide +kernel
theorem d_RF_read_153 : decode b_RF_read 153 = .ok (.ifCond .eq 15, 3) := by decide +kernel
theorem d_RF_read_156 : decode b_RF_read 156 = .ok (.aload_n 0, 1) := by decide +kernel
theorem d_RF_read_157 : decode b_RF_read 157 = .ok (.invokevirtual 83, 3) := by decide +kernel
theorem d_RF_read_160 : decode b_RF_read 160 = .ok (.iconst (-1), 1) := by decide +kernel
theorem d_RF_read_161 : decode b_RF_read 161 = .ok (.if_icmp .eq 7, 3) := by decide +kernel
theorem d_RF_read_164 : decode b_RF_read 164 = .ok (.iconst 1, 1) := by decide +kernel
theorem d_RF_read_165 : decode b_RF_read 165 = .ok (.goto 4, 3) := by decide +kernel
theorem d_RF_read_168 : decode b_RF_read 168 = .ok (.iconst 0, 1) := by decide +kernel
theorem d_RF_read_169 : decode b_RF_read 169 = .ok (.istore_n 3, 1) := by decide +kernel
theorem d_RF_read_170 : decode b_RF_read 170 = .ok (.iload_n 3, 1) := by decide +kernel
theorem d_RF_read_171 : decode b_RF_read 171 = .ok (.ifCond .eq 22, 3) := by decide +kernel
theorem d_RF_read_174 : decode b_RF_read 174 = .ok (.aload_n 0, 1) := by decide +kernel
theorem d_RF_read_175 : decode b_RF_read 175 = .ok (.invokevirtual 83, 3) := by decide +kernel
theorem d_RF_read_178 : decode b_RF_read 178 = .ok (.bipush 59, 2) := by decide +kernel
theorem d_RF_read_180 : decode b_RF_read 180 = .ok (.if_icmp .ne 13, 3) := by decide +kernel
theorem d_RF_read_183 : decode b_RF_read 183 = .ok (.aload_n 0, 1) := by decide +kernel
theorem d_RF_read_184 : decode b_RF_read 184 = .ok (.dup, 1) := by decide +kernel
theorem d_RF_read_185 : decode b_RF_read 185 = .ok (.getfield 80, 3) := by decide +kernel
theorem d_RF_read_188 : decode b_RF_read 188 = .ok (.iconst 1, 1) := by decide +kernel
theorem d_RF_read_189 : decode b_RF_read 189 = .ok (.iadd, 1) := by decide +kernel
theorem d_RF_read_190 : decode b_RF_read 190 = .ok (.putfield 80, 3) := by decide +kernel
theorem d_RF_read_193 : decode b_RF_read 193 = .ok (.goto (-177), 3) := by decide +kernel
theorem d_RF_read_196 : decode b_RF_read 196 = .ok (.aload_n 0, 1) := by decide +kernel
theorem d_RF_read_197 : decode b_RF_read 197 = .ok (.getfield 80, 3) := by decide +kernel
theorem d_RF_read_200 : decode b_RF_read 200 = .ok (.istore 4, 2) := by decide +kernel
theorem d_RF_read_202 : decode b_RF_read 202 = .ok (.aload_n 0, 1) := by decide +kernel
theorem d_RF_read_203 : decode b_RF_read 203 = .ok (.iconst 0, 1) := by decide +kernel
theorem d_RF_read_204 : decode b_RF_read 204 = .ok (.putfield 77, 3) := by decide +kernel
theorem d_RF_read_207 : decode b_RF_read 207 = .ok (.iload_n 2, 1) := by decide +kernel
theorem d_RF_read_208 : decode b_RF_read 208 = .ok (.ifCond .ne 8, 3) := by decide +kernel
theorem d_RF_read_211 : decode b_RF_read 211 = .ok (.iconst (-1), 1) := by decide +kernel
theorem d_RF_read_212 : decode b_RF_read 212 = .ok (.iload 4, 2) := by decide +kernel
theorem d_RF_read_214 : decode b_RF_read 214 = .ok (.isub, 1) := by decide +kernel
theorem d_RF_read_215 : decode b_RF_read 215 = .ok (.ireturn, 1) := by decide +kernel
theorem d_RF_read_216 : decode b_RF_read 216 = .ok (.aload_n 0, 1) := by decide +kernel
theorem d_RF_read_217 : decode b_RF_read 217 = .ok (.iload_n 1, 1) := by decide +kernel
theorem d_RF_read_218 : decode b_RF_read 218 = .ok (.putfield 91, 3) := by decide +kernel
theorem d_RF_read_221 : decode b_RF_read 221 = .ok (.iconst 0, 1) := by decide +kernel
theorem d_RF_read_222 : decode b_RF_read 222 = .ok (.istore 5, 2) := by decide +kernel
theorem d_RF_read_224 : decode b_RF_read 224 = .ok (.iload 5, 2) := by decide +kernel
theorem d_RF_read_226 : decode b_RF_read 226 = .ok (.iload_n 1, 1) := by decide +kernel
theorem d_RF_read_227 : decode b_RF_read 227 = .ok (.if_icmp .ge 79, 3) := by decide +kernel
theorem d_RF_read_230 : decode b_RF_read 230 = .ok (.aload_n 0, 1) := by decide +kernel
theorem d_RF_read_231 : decode b_RF_read 231 = .ok (.getfield 40, 3) := by decide +kernel
theorem d_RF_read_234 : decode b_RF_read 234 = .ok (.iload 5, 2) := by decide +kernel
theorem d_RF_read_236 : decode b_RF_read 236 = .ok (.aload_n 0, 1) := by decide +kernel
theorem d_RF_read_237 : decode b_RF_read 237 = .ok (.getfield 49, 3) := by decide +kernel
theorem d_RF_read_240 : decode b_RF_read 240 = .ok (.iload 5, 2) := by decide +kernel
theorem d_RF_read_242 : decode b_RF_read 242 = .ok (.iaload, 1) := by decide +kernel
theorem d_RF_read_243 : decode b_RF_read 243 = .ok (.iastore, 1) := by decide +kernel
theorem d_RF_read_244 : decode b_RF_read 244 = .ok (.aload_n 0, 1) := by decide +kernel
theorem d_RF_read_245 : decode b_RF_read 245 = .ok (.getfield 43, 3) := by decide +kernel
theorem d_RF_read_248 : decode b_RF_read 248 = .ok (.iload 5, 2) := by decide +kernel
theorem d_RF_read_250 : decode b_RF_read 250 = .ok (.aload_n 0, 1) := by decide +kernel
theorem d_RF_read_251 : decode b_RF_read 251 = .ok (.getfield 52, 3) := by decide +kernel
theorem d_RF_read_254 : decode b_RF_read 254 = .ok (.iload 5, 2) := by decide +kernel
theorem d_RF_read_256 : decode b_RF_read 256 = .ok (.iaload, 1) := by decide +kernel
theorem d_RF_read_257 : decode b_RF_read 257 = .ok (.iastore, 1) := by decide +kernel
theorem d_RF_read_258 : decode b_RF_read 258 = .ok (.iconst 0, 1) := by decide +kernel
theorem d_RF_read_259 : decode b_RF_read 259 = .ok (.istore 6, 2) := by decide +kernel
theorem d_RF_read_261 : decode b_RF_read 261 = .ok (.iload 6, 2) := by decide +kernel
theorem d_RF_read_263 : decode b_RF_read 263 = .ok (.bipush 8, 2) := by decide +kernel
theorem d_RF_read_265 : decode b_RF_read 265 = .ok (.if_icmp .ge 35, 3) := by decide +kernel
theorem d_RF_read_268 : decode b_RF_read 268 = .ok (.aload_n 0, 1) := by decide +kernel
theorem d_RF_read_269 : decode b_RF_read 269 = .ok (.getfield 46, 3) := by decide +kernel
theorem d_RF_read_272 : decode b_RF_read 272 = .ok (.bipush 8, 2) := by decide +kernel
theorem d_RF_read_274 : decode b_RF_read 274 = .ok (.iload 5, 2) := by decide +kernel
theorem d_RF_read_276 : decode b_RF_read 276 = .ok (.imul, 1) := by decide +kernel
theorem d_RF_read_277 : decode b_RF_read 277 = .ok (.iload 6, 2) := by decide +kernel
theorem d_RF_read_279 : decode b_RF_read 279 = .ok (.iadd, 1) := by decide +kernel
theorem d_RF_read_280 : decode b_RF_read 280 = .ok (.aload_n 0, 1) := by decide +kernel
theorem d_RF_read_281 : decode b_RF_read 281 = .ok (.getfield 55, 3) := by decide +kernel
theorem d_RF_read_284 : decode b_RF_read 284 = .ok (.bipush 8, 2) := by decide +kernel
theorem d_RF_read_286 : decode b_RF_read 286 = .ok (.iload 5, 2) := by decide +kernel
theorem d_RF_read_288 : decode b_RF_read 288 = .ok (.imul, 1) := by decide +kernel
theorem d_RF_read_289 : decode b_RF_read 289 = .ok (.iload 6, 2) := by decide +kernel
theorem d_RF_read_291 : decode b_RF_read 291 = .ok (.iadd, 1) := by decide +kernel
theorem d_RF_read_292 : decode b_RF_read 292 = .ok (.iaload, 1) := by decide +kernel
theorem d_RF_read_293 : decode b_RF_read 293 = .ok (.iastore, 1) := by decide +kernel
theorem d_RF_read_294 : decode b_RF_read 294 = .ok (.iinc 6 1, 3) := by decide +kernel
theorem d_RF_read_297 : decode b_RF_read 297 = .ok (.goto (-36), 3) := by decide +kernel
theorem d_RF_read_300 : decode b_RF_read 300 = .ok (.iinc 5 1, 3) := by decide +kernel
theorem d_RF_read_303 : decode b_RF_read 303 = .ok (.goto (-79), 3) := by decide +kernel
theorem d_RF_read_306 : decode b_RF_read 306 = .ok (.iload_n 1, 1) := by decide +kernel
theorem d_RF_read_307 : decode b_RF_read 307 = .ok (.ireturn, 1) := by decide +kernel
theorem d_RF_set_0 : decode b_RF_set 0 = .ok (.aload_n 0, 1) := by decide +kernel
theorem d_RF_set_1 : decode b_RF_set 1 = .ok (.getfield 7, 3) := by decide +kernel
theorem d_RF_set_4 : decode b_RF_set 4 = .ok (.iload_n 1, 1) := by decide +kernel
theorem d_RF_set_5 : decode b_RF_set 5 = .ok (.iaload, 1) := by decide +kernel
theorem d_RF_set_6 : decode b_RF_set 6 = .ok (.iload_n 2, 1) := by decide +kernel
theorem d_RF_set_7 : decode b_RF_set 7 = .ok (.if_icmp .ne 4, 3) := by decide +kernel
theorem d_RF_set_10 : decode b_RF_set 10 = .ok (.return_, 1) := by decide +kernel
theorem d_RF_set_11 : decode b_RF_set 11 = .ok (.aload_n 0, 1) := by decide +kernel
theorem d_RF_set_12 : decode b_RF_set 12 = .ok (.getfield 7, 3) := by decide +kernel
theorem d_RF_set_15 : decode b_RF_set 15 = .ok (.iload_n 1, 1) := by decide +kernel
theorem d_RF_set_16 : decode b_RF_set 16 = .ok (.iload_n 2, 1) := by decide +kernel
theorem d_RF_set_17 : decode b_RF_set 17 = .ok (.iastore, 1) := by decide +kernel
theorem d_RF_set_18 : decode b_RF_set 18 = .ok (.iconst 0, 1) := by decide +kernel
theorem d_RF_set_19 : decode b_RF_set 19 = .ok (.istore_n 3, 1) := by decide +kernel
theorem d_RF_set_20 : decode b_RF_set 20 = .ok (.iload_n 3, 1) := by decide +kernel
theorem d_RF_set_21 : decode b_RF_set 21 = .ok (.aload_n 0, 1) := by decide +kernel
theorem d_RF_set_22 : decode b_RF_set 22 = .ok (.getfield 94, 3) := by decide +kernel
theorem d_RF_set_25 : decode b_RF_set 25 = .ok (.if_icmp .ge 64, 3) := by decide +kernel
theorem d_RF_set_28 : decode b_RF_set 28 = .ok (.aload_n 0, 1) := by decide +kernel
theorem d_RF_set_29 : decode b_RF_set 29 = .ok (.getfield 22, 3) := by decide +kernel
theorem d_RF_set_32 : decode b_RF_set 32 = .ok (.iload_n 3, 1) := by decide +kernel
theorem d_RF_set_33 : decode b_RF_set 33 = .ok (.iaload, 1) := by decide +kernel
theorem d_RF_set_34 : decode b_RF_set 34 = .ok (.iload_n 1, 1) := by decide +kernel
theorem d_RF_set_35 : decode b_RF_set 35 = .ok (.if_icmp .ne 48, 3) := by decide +kernel
theorem d_RF_set_38 : decode b_RF_set 38 = .ok (.aload_n 0, 1) := by decide +kernel
theorem d_RF_set_39 : decode b_RF_set 39 = .ok (.getfield 16, 3) := by decide +kernel
theorem d_RF_set_42 : decode b_RF_set 42 = .ok (.iload_n 3, 1) := by decide +kernel
theorem d_RF_set_43 : decode b_RF_set 43 = .ok (.iaload, 1) := by decide +kernel
theorem d_RF_set_44 : decode b_RF_set 44 = .ok (.iload_n 2, 1) := by decide +kernel
theorem d_RF_set_45 : decode b_RF_set 45 = .ok (.iconst 1, 1) := by decide +kernel
theorem d_RF_set_46 : decode b_RF_set 46 = .ok (.if_icmp .ne 8, 3) := by decide +kernel
theorem d_RF_set_49 : decode b_RF_set 49 = .ok (.bipush 10, 2) := by decide +kernel
theorem d_RF_set_51 : decode b_RF_set 51 = .ok (.goto 5, 3) := by decide +kernel
theorem d_RF_set_54 : decode b_RF_set 54 = .ok (.bipush 11, 2) := by decide +kernel
theorem d_RF_set_56 : decode b_RF_set 56 = .ok (.if_icmp .ne 27, 3) := by decide +kernel
theorem d_RF_set_59 : decode b_RF_set 59 = .ok (.aload_n 0, 1) := by decide +kernel
theorem d_RF_set_60 : decode b_RF_set 60 = .ok (.getfield 7, 3) := by decide +kernel
theorem d_RF_set_63 : decode b_RF_set 63 = .ok (.aload_n 0, 1) := by decide +kernel
theorem d_RF_set_64 : decode b_RF_set 64 = .ok (.getfield 19, 3) := by decide +kernel
theorem d_RF_set_67 : decode b_RF_set 67 = .ok (.iload_n 3, 1) := by decide +kernel
theorem d_RF_set_68 : decode b_RF_set 68 = .ok (.iaload, 1) := by decide +kernel
theorem d_RF_set_69 : decode b_RF_set 69 = .ok (.iconst 1, 1) := by decide +kernel
theorem d_RF_set_70 : decode b_RF_set 70 = .ok (.aload_n 0, 1) := by decide +kernel
theorem d_RF_set_71 : decode b_RF_set 71 = .ok (.getfield 7, 3) := by decide +kernel
theorem d_RF_set_74 : decode b_RF_set 74 = .ok (.aload_n 0, 1) := by decide +kernel
theorem d_RF_set_75 : decode b_RF_set 75 = .ok (.getfield 19, 3) := by decide +kernel
theorem d_RF_set_78 : decode b_RF_set 78 = .ok (.iload_n 3, 1) := by decide +kernel
theorem d_RF_set_79 : decode b_RF_set 79 = .ok (.iaload, 1) := by decide +kernel
theorem d_RF_set_80 : decode b_RF_set 80 = .ok (.iaload, 1) := by decide +kernel
theorem d_RF_set_81 : decode b_RF_set 81 = .ok (.isub, 1) := by decide +kernel
theorem d_RF_set_82 : decode b_RF_set 82 = .ok (.iastore, 1) := by decide +kernel
theorem d_RF_set_83 : decode b_RF_set 83 = .ok (.iinc 3 1, 3) := by decide +kernel
theorem d_RF_set_86 : decode b_RF_set 86 = .ok (.goto (-66), 3) := by decide +kernel
theorem d_RF_set_89 : decode b_RF_set 89 = .ok (.return_, 1) := by decide +kernel
theorem d_RF_behind_0 : decode b_RF_behind 0 = .ok (.iconst 0, 1) := by decide +kernel
theorem d_RF_behind_1 : decode b_RF_behind 1 = .ok (.istore_n 1, 1) := by decide +kernel
theorem d_RF_behind_2 : decode b_RF_behind 2 = .ok (.iload_n 1, 1) := by decide +kernel
theorem d_RF_behind_3 : decode b_RF_behind 3 = .ok (.aload_n 0, 1) := by decide +kernel
theorem d_RF_behind_4 : decode b_RF_behind 4 = .ok (.getfield 94, 3) := by decide +kernel
theorem d_RF_behind_7 : decode b_RF_behind 7 = .ok (.if_icmp .ge 91, 3) := by decide +kernel
theorem d_RF_behind_10 : decode b_RF_behind 10 = .ok (.aload_n 0, 1) := by decide +kernel
theorem d_RF_behind_11 : decode b_RF_behind 11 = .ok (.getfield 19, 3) := by decide +kernel
theorem d_RF_behind_14 : decode b_RF_behind 14 = .ok (.iload_n 1, 1) := by decide +kernel
theorem d_RF_behind_15 : decode b_RF_behind 15 = .ok (.iaload, 1) := by decide +kernel
theorem d_RF_behind_16 : decode b_RF_behind 16 = .ok (.istore_n 2, 1) := by decide +kernel
theorem d_RF_behind_17 : decode b_RF_behind 17 = .ok (.aload_n 0, 1) := by decide +kernel
theorem d_RF_behind_18 : decode b_RF_behind 18 = .ok (.getfield 16, 3) := by decide +kernel
theorem d_RF_behind_21 : decode b_RF_behind 21 = .ok (.iload_n 1, 1) := by decide +kernel
theorem d_RF_behind_22 : decode b_RF_behind 22 = .ok (.iaload, 1) := by decide +kernel
theorem d_RF_behind_23 : decode b_RF_behind 23 = .ok (.ifCond .eq 29, 3) := by decide +kernel
theorem d_RF_behind_26 : decode b_RF_behind 26 = .ok (.aload_n 0, 1) := by decide +kernel
theorem d_RF_behind_27 : decode b_RF_behind 27 = .ok (.getfield 16, 3) := by decide +kernel
theorem d_RF_behind_30 : decode b_RF_behind 30 = .ok (.iload_n 1, 1) := by decide +kernel
theorem d_RF_behind_31 : decode b_RF_behind 31 = .ok (.iaload, 1) := by decide +kernel
theorem d_RF_behind_32 : decode b_RF_behind 32 = .ok (.bipush 12, 2) := by decide +kernel
theorem d_RF_behind_34 : decode b_RF_behind 34 = .ok (.if_icmp .ne 22, 3) := by decide +kernel
theorem d_RF_behind_37 : decode b_RF_behind 37 = .ok (.aload_n 0, 1) := by decide +kernel
theorem d_RF_behind_38 : decode b_RF_behind 38 = .ok (.getfield 7, 3) := by decide +kernel
theorem d_RF_behind_41 : decode b_RF_behind 41 = .ok (.aload_n 0, 1) := by decide +kernel
theorem d_RF_behind_42 : decode b_RF_behind 42 = .ok (.getfield 22, 3) := by decide +kernel
theorem d_RF_behind_45 : decode b_RF_behind 45 = .ok (.iload_n 1, 1) := by decide +kernel
theorem d_RF_behind_46 : decode b_RF_behind 46 = .ok (.iaload, 1) := by decide +kernel
theorem d_RF_behind_47 : decode b_RF_behind 47 = .ok (.iaload, 1) := by decide +kernel
theorem d_RF_behind_48 : decode b_RF_behind 48 = .ok (.iconst 1, 1) := by decide +kernel
theorem d_RF_behind_49 : decode b_RF_behind 49 = .ok (.if_icmp .ne 7, 3) := by decide +kernel
theorem d_RF_behind_52 : decode b_RF_behind 52 = .ok (.iconst 1, 1) := by decide +kernel
theorem d_RF_behind_53 : decode b_RF_behind 53 = .ok (.goto 4, 3) := by decide +kernel
theorem d_RF_behind_56 : decode b_RF_behind 56 = .ok (.iconst 0, 1) := by decide +kernel
theorem d_RF_behind_57 : decode b_RF_behind 57 = .ok (.istore_n 3, 1) := by decide +kernel
theorem d_RF_behind_58 : decode b_RF_behind 58 = .ok (.aload_n 0, 1) := by decide +kernel
theorem d_RF_behind_59 : decode b_RF_behind 59 = .ok (.getfield 7, 3) := by decide +kernel
theorem d_RF_behind_62 : decode b_RF_behind 62 = .ok (.iload_n 2, 1) := by decide +kernel
theorem d_RF_behind_63 : decode b_RF_behind 63 = .ok (.iload_n 3, 1) := by decide +kernel
theorem d_RF_behind_64 : decode b_RF_behind 64 = .ok (.ifCond .eq 7, 3) := by decide +kernel
theorem d_RF_behind_67 : decode b_RF_behind 67 = .ok (.iconst 0, 1) := by decide +kernel
theorem d_RF_behind_68 : decode b_RF_behind 68 = .ok (.goto 23, 3) := by decide +kernel
theorem d_RF_behind_71 : decode b_RF_behind 71 = .ok (.aload_n 0, 1) := by decide +kernel
theorem d_RF_behind_72 : decode b_RF_behind 72 = .ok (.getfield 16, 3) := by decide +kernel
theorem d_RF_behind_75 : decode b_RF_behind 75 = .ok (.iload_n 1, 1) := by decide +kernel
theorem d_RF_behind_76 : decode b_RF_behind 76 = .ok (.iaload, 1) := by decide +kernel
theorem d_RF_behind_77 : decode b_RF_behind 77 = .ok (.iconst 1, 1) := by decide +kernel
theorem d_RF_behind_78 : decode b_RF_behind 78 = .ok (.if_icmp .ne 7, 3) := by decide +kernel
theorem d_RF_behind_81 : decode b_RF_behind 81 = .ok (.iconst 1, 1) := by decide +kernel
theorem d_RF_behind_82 : decode b_RF_behind 82 = .ok (.goto 9, 3) := by decide +kernel
theorem d_RF_behind_85 : decode b_RF_behind 85 = .ok (.aload_n 0, 1) := by decide +kernel
theorem d_RF_behind_86 : decode b_RF_behind 86 = .ok (.getfield 7, 3) := by decide +kernel
theorem d_RF_behind_89 : decode b_RF_behind 89 = .ok (.iload_n 2, 1) := by decide +kernel
theorem d_RF_behind_90 : decode b_RF_behind 90 = .ok (.iaload, 1) := by decide +kernel
theorem d_RF_behind_91 : decode b_RF_behind 91 = .ok (.iastore, 1) := by decide +kernel
theorem d_RF_behind_92 : decode b_RF_behind 92 = .ok (.iinc 1 1, 3) := by decide +kernel
theorem d_RF_behind_95 : decode b_RF_behind 95 = .ok (.goto (-93), 3) := by decide +kernel
theorem d_RF_behind_98 : decode b_RF_behind 98 = .ok (.return_, 1) := by decide +kernel
theorem d_RF_groundAt_0 : decode b_RF_groundAt 0 = .ok (.aload_n 0, 1) := by decide +kernel
theorem d_RF_groundAt_1 : decode b_RF_groundAt 1 = .ok (.getfield 97, 3) := by decide +kernel
theorem d_RF_groundAt_4 : decode b_RF_groundAt 4 = .ok (.ifCond .ne 7, 3) := by decide +kernel
theorem d_RF_groundAt_7 : decode b_RF_groundAt 7 = .ok (.iconst 0, 1) := by decide +kernel
theorem d_RF_groundAt_8 : decode b_RF_groundAt 8 = .ok (.goto 36, 3) := by decide +kernel
theorem d_RF_groundAt_11 : decode b_RF_groundAt 11 = .ok (.aload_n 0, 1) := by decide +kernel
theorem d_RF_groundAt_12 : decode b_RF_groundAt 12 = .ok (.getfield 97, 3) := by decide +kernel
theorem d_RF_groundAt_15 : decode b_RF_groundAt 15 = .ok (.iconst 1, 1) := by decide +kernel
theorem d_RF_groundAt_16 : decode b_RF_groundAt 16 = .ok (.if_icmp .ne 11, 3) := by decide +kernel
theorem d_RF_groundAt_19 : decode b_RF_groundAt 19 = .ok (.iload_n 1, 1) := by decide +kernel
theorem d_RF_groundAt_20 : decode b_RF_groundAt 20 = .ok (.iload_n 2, 1) := by decide +kernel
theorem d_RF_groundAt_21 : decode b_RF_groundAt 21 = .ok (.iadd, 1) := by decide +kernel
theorem d_RF_groundAt_22 : decode b_RF_groundAt 22 = .ok (.iconst 2, 1) := by decide +kernel
theorem d_RF_groundAt_23 : decode b_RF_groundAt 23 = .ok (.irem, 1) := by decide +kernel
theorem d_RF_groundAt_24 : decode b_RF_groundAt 24 = .ok (.goto 20, 3) := by decide +kernel
theorem d_RF_groundAt_27 : decode b_RF_groundAt 27 = .ok (.aload_n 0, 1) := by decide +kernel
theorem d_RF_groundAt_28 : decode b_RF_groundAt 28 = .ok (.getfield 97, 3) := by decide +kernel
theorem d_RF_groundAt_31 : decode b_RF_groundAt 31 = .ok (.iconst 2, 1) := by decide +kernel
theorem d_RF_groundAt_32 : decode b_RF_groundAt 32 = .ok (.if_icmp .ne 9, 3) := by decide +kernel
theorem d_RF_groundAt_35 : decode b_RF_groundAt 35 = .ok (.iload_n 1, 1) := by decide +kernel
theorem d_RF_groundAt_36 : decode b_RF_groundAt 36 = .ok (.iconst 2, 1) := by decide +kernel
theorem d_RF_groundAt_37 : decode b_RF_groundAt 37 = .ok (.irem, 1) := by decide +kernel
theorem d_RF_groundAt_38 : decode b_RF_groundAt 38 = .ok (.goto 6, 3) := by decide +kernel
theorem d_RF_groundAt_41 : decode b_RF_groundAt 41 = .ok (.iload_n 2, 1) := by decide +kernel
theorem d_RF_groundAt_42 : decode b_RF_groundAt 42 = .ok (.iconst 2, 1) := by decide +kernel
theorem d_RF_groundAt_43 : decode b_RF_groundAt 43 = .ok (.irem, 1) := by decide +kernel
theorem d_RF_groundAt_44 : decode b_RF_groundAt 44 = .ok (.ireturn, 1) := by decide +kernel
theorem d_RF_write_0 : decode b_RF_write 0 = .ok (.iconst 0, 1) := by decide +kernel
theorem d_RF_write_1 : decode b_RF_write 1 = .ok (.istore_n 3, 1) := by decide +kernel
theorem d_RF_write_2 : decode b_RF_write 2 = .ok (.iload_n 3, 1) := by decide +kernel
theorem d_RF_write_3 : decode b_RF_write 3 = .ok (.aload_n 0, 1) := by decide +kernel
theorem d_RF_write_4 : decode b_RF_write 4 = .ok (.getfield 68, 3) := by decide +kernel
theorem d_RF_write_7 : decode b_RF_write 7 = .ok (.if_icmp .ge 167, 3) := by decide +kernel
theorem d_RF_write_10 : decode b_RF_write 10 = .ok (.aload_n 0, 1) := by decide +kernel
theorem d_RF_write_11 : decode b_RF_write 11 = .ok (.getfield 68, 3) := by decide +kernel
theorem d_RF_write_14 : decode b_RF_write 14 = .ok (.iload_n 1, 1) := by decide +kernel
theorem d_RF_write_15 : decode b_RF_write 15 = .ok (.imul, 1) := by decide +kernel
theorem d_RF_write_16 : decode b_RF_write 16 = .ok (.iload_n 3, 1) := by decide +kernel
theorem d_RF_write_17 : decode b_RF_write 17 = .ok (.iadd, 1) := by decide +kernel
theorem d_RF_write_18 : decode b_RF_write 18 = .ok (.istore 4, 2) := by decide +kernel
theorem d_RF_write_20 : decode b_RF_write 20 = .ok (.iload_n 2, 1) := by decide +kernel
theorem d_RF_write_21 : decode b_RF_write 21 = .ok (.aload_n 0, 1) := by decide +kernel
theorem d_RF_write_22 : decode b_RF_write 22 = .ok (.iload_n 1, 1) := by decide +kernel
theorem d_RF_write_23 : decode b_RF_write 23 = .ok (.iload_n 3, 1) := by decide +kernel
theorem d_RF_write_24 : decode b_RF_write 24 = .ok (.invokevirtual 100, 3) := by decide +kernel
theorem d_RF_write_27 : decode b_RF_write 27 = .ok (.ixor, 1) := by decide +kernel
theorem d_RF_write_28 : decode b_RF_write 28 = .ok (.istore 5, 2) := by decide +kernel
theorem d_RF_write_30 : decode b_RF_write 30 = .ok (.iload 5, 2) := by decide +kernel
theorem d_RF_write_32 : decode b_RF_write 32 = .ok (.istore 6, 2) := by decide +kernel
theorem d_RF_write_34 : decode b_RF_write 34 = .ok (.aload_n 0, 1) := by decide +kernel
theorem d_RF_write_35 : decode b_RF_write 35 = .ok (.getfield 7, 3) := by decide +kernel
theorem d_RF_write_38 : decode b_RF_write 38 = .ok (.iload 4, 2) := by decide +kernel
theorem d_RF_write_40 : decode b_RF_write 40 = .ok (.iaload, 1) := by decide +kernel
theorem d_RF_write_41 : decode b_RF_write 41 = .ok (.istore 7, 2) := by decide +kernel
theorem d_RF_write_43 : decode b_RF_write 43 = .ok (.iconst 0, 1) := by decide +kernel
theorem d_RF_write_44 : decode b_RF_write 44 = .ok (.istore 8, 2) := by decide +kernel
theorem d_RF_write_46 : decode b_RF_write 46 = .ok (.iload 8, 2) := by decide +kernel
theorem d_RF_write_48 : decode b_RF_write 48 = .ok (.aload_n 0, 1) := by decide +kernel
theorem d_RF_write_49 : decode b_RF_write 49 = .ok (.getfield 94, 3) := by decide +kernel
theorem d_RF_write_52 : decode b_RF_write 52 = .ok (.if_icmp .ge 108, 3) := by decide +kernel
theorem d_RF_write_55 : decode b_RF_write 55 = .ok (.aload_n 0, 1) := by decide +kernel
theorem d_RF_write_56 : decode b_RF_write 56 = .ok (.getfield 19, 3) := by decide +kernel
theorem d_RF_write_59 : decode b_RF_write 59 = .ok (.iload 8, 2) := by decide +kernel
theorem d_RF_write_61 : decode b_RF_write 61 = .ok (.iaload, 1) := by decide +kernel
theorem d_RF_write_62 : decode b_RF_write 62 = .ok (.iload 4, 2) := by decide +kernel
theorem d_RF_write_64 : decode b_RF_write 64 = .ok (.if_icmp .ne 90, 3) := by decide +kernel
theorem d_RF_write_67 : decode b_RF_write 67 = .ok (.aload_n 0, 1) := by decide +kernel
theorem d_RF_write_68 : decode b_RF_write 68 = .ok (.getfield 16, 3) := by decide +kernel
theorem d_RF_write_71 : decode b_RF_write 71 = .ok (.iload 8, 2) := by decide +kernel
theorem d_RF_write_73 : decode b_RF_write 73 = .ok (.iaload, 1) := by decide +kernel
theorem d_RF_write_74 : decode b_RF_write 74 = .ok (.istore 9, 2) := by decide +kernel
theorem d_RF_write_76 : decode b_RF_write 76 = .ok (.iload 9, 2) := by decide +kernel
theorem d_RF_write_78 : decode b_RF_write 78 = .ok (.ifCond .eq 14, 3) := by decide +kernel
theorem d_RF_write_81 : decode b_RF_write 81 = .ok (.iload 9, 2) := by decide +kernel
theorem d_RF_write_83 : decode b_RF_write 83 = .ok (.iconst 2, 1) := by decide +kernel
theorem d_RF_write_84 : decode b_RF_write 84 = .ok (.if_icmp .ne 12, 3) := by decide +kernel
theorem d_RF_write_87 : decode b_RF_write 87 = .ok (.iload 7, 2) := by decide +kernel
theorem d_RF_write_89 : decode b_RF_write 89 = .ok (.ifCond .ne 7, 3) := by decide +kernel
theorem d_RF_write_92 : decode b_RF_write 92 = .ok (.iconst 0, 1) := by decide +kernel
theorem d_RF_write_93 : decode b_RF_write 93 = .ok (.goto 59, 3) := by decide +kernel
theorem d_RF_write_96 : decode b_RF_write 96 = .ok (.iload 9, 2) := by decide +kernel
theorem d_RF_write_98 : decode b_RF_write 98 = .ok (.iconst 1, 1) := by decide +kernel
theorem d_RF_write_99 : decode b_RF_write 99 = .ok (.if_icmp .eq 15, 3) := by decide +kernel
theorem d_RF_write_102 : decode b_RF_write 102 = .ok (.iload 9, 2) := by decide +kernel
theorem d_RF_write_104 : decode b_RF_write 104 = .ok (.iconst 3, 1) := by decide +kernel
theorem d_RF_write_105 : decode b_RF_write 105 = .ok (.if_icmp .ne 13, 3) := by decide +kernel
theorem d_RF_write_108 : decode b_RF_write 108 = .ok (.iload 7, 2) := by decide +kernel
theorem d_RF_write_110 : decode b_RF_write 110 = .ok (.iconst 1, 1) := by decide +kernel
theorem d_RF_write_111 : decode b_RF_write 111 = .ok (.if_icmp .ne 7, 3) := by decide +kernel
theorem d_RF_write_114 : decode b_RF_write 114 = .ok (.iconst 1, 1) := by decide +kernel
theorem d_RF_write_115 : decode b_RF_write 115 = .ok (.goto 37, 3) := by decide +kernel
theorem d_RF_write_118 : decode b_RF_write 118 = .ok (.iload 9, 2) := by decide +kernel
theorem d_RF_write_120 : decode b_RF_write 120 = .ok (.iconst 4, 1) := by decide +kernel
theorem d_RF_write_121 : decode b_RF_write 121 = .ok (.if_icmp .ne 8, 3) := by decide +kernel
theorem d_RF_write_124 : decode b_RF_write 124 = .ok (.iload 7, 2) := by decide +kernel
theorem d_RF_write_126 : decode b_RF_write 126 = .ok (.goto 26, 3) := by decide +kernel
theorem d_RF_write_129 : decode b_RF_write 129 = .ok (.iload 9, 2) := by decide +kernel
theorem d_RF_write_131 : decode b_RF_write 131 = .ok (.bipush 9, 2) := by decide +kernel
theorem d_RF_write_133 : decode b_RF_write 133 = .ok (.if_icmp .ne 17, 3) := by decide +kernel
theorem d_RF_write_136 : decode b_RF_write 136 = .ok (.iload 5, 2) := by decide +kernel
theorem d_RF_write_138 : decode b_RF_write 138 = .ok (.iload 7, 2) := by decide +kernel
theorem d_RF_write_140 : decode b_RF_write 140 = .ok (.if_icmp .ne 10, 3) := by decide +kernel
theorem d_RF_write_143 : decode b_RF_write 143 = .ok (.iconst 1, 1) := by decide +kernel
theorem d_RF_write_144 : decode b_RF_write 144 = .ok (.iload 7, 2) := by decide +kernel
theorem d_RF_write_146 : decode b_RF_write 146 = .ok (.isub, 1) := by decide +kernel
theorem d_RF_write_147 : decode b_RF_write 147 = .ok (.goto 5, 3) := by decide +kernel
theorem d_RF_write_150 : decode b_RF_write 150 = .ok (.iload 6, 2) := by decide +kernel
theorem d_RF_write_152 : decode b_RF_write 152 = .ok (.istore 6, 2) := by decide +kernel
theorem d_RF_write_154 : decode b_RF_write 154 = .ok (.iinc 8 1, 3) := by decide +kernel
theorem d_RF_write_157 : decode b_RF_write 157 = .ok (.goto (-111), 3) := by decide +kernel
theorem d_RF_write_160 : decode b_RF_write 160 = .ok (.aload_n 0, 1) := by decide +kernel
theorem d_RF_write_161 : decode b_RF_write 161 = .ok (.iload 4, 2) := by decide +kernel
theorem d_RF_write_163 : decode b_RF_write 163 = .ok (.iload 6, 2) := by decide +kernel
theorem d_RF_write_165 : decode b_RF_write 165 = .ok (.invokevirtual 104, 3) := by decide +kernel
theorem d_RF_write_168 : decode b_RF_write 168 = .ok (.iinc 3 1, 3) := by decide +kernel
theorem d_RF_write_171 : decode b_RF_write 171 = .ok (.goto (-169), 3) := by decide +kernel
theorem d_RF_write_174 : decode b_RF_write 174 = .ok (.aload_n 0, 1) := by decide +kernel
theorem d_RF_write_175 : decode b_RF_write 175 = .ok (.invokevirtual 108, 3) := by decide +kernel
theorem d_RF_write_178 : decode b_RF_write 178 = .ok (.return_, 1) := by decide +kernel
theorem d_RF_check_0 : decode b_RF_check 0 = .ok (.iconst 0, 1) := by decide +kernel
theorem d_RF_check_1 : decode b_RF_check 1 = .ok (.istore_n 3, 1) := by decide +kernel
theorem d_RF_check_2 : decode b_RF_check 2 = .ok (.iconst 0, 1) := by decide +kernel
theorem d_RF_check_3 : decode b_RF_check 3 = .ok (.istore 4, 2) := by decide +kernel
theorem d_RF_check_5 : decode b_RF_check 5 = .ok (.iload 4, 2) := by decide +kernel
theorem d_RF_check_7 : decode b_RF_check 7 = .ok (.aload_n 0, 1) := by decide +kernel
theorem d_RF_check_8 : decode b_RF_check 8 = .ok (.getfield 68, 3) := by decide +kernel
theorem d_RF_check_11 : decode b_RF_check 11 = .ok (.if_icmp .ge 293, 3) := by decide +kernel
theorem d_RF_check_14 : decode b_RF_check 14 = .ok (.aload_n 0, 1) := by decide +kernel
theorem d_RF_check_15 : decode b_RF_check 15 = .ok (.getfield 68, 3) := by decide +kernel
theorem d_RF_check_18 : decode b_RF_check 18 = .ok (.iload_n 1, 1) := by decide +kernel
theorem d_RF_check_19 : decode b_RF_check 19 = .ok (.imul, 1) := by decide +kernel
theorem d_RF_check_20 : decode b_RF_check 20 = .ok (.iload 4, 2) := by decide +kernel
theorem d_RF_check_22 : decode b_RF_check 22 = .ok (.iadd, 1) := by decide +kernel
theorem d_RF_check_23 : decode b_RF_check 23 = .ok (.istore 5, 2) := by decide +kernel
theorem d_RF_check_25 : decode b_RF_check 25 = .ok (.aload_n 0, 1) := by decide +kernel
theorem d_RF_check_26 : decode b_RF_check 26 = .ok (.getfield 7, 3) := by decide +kernel
theorem d_RF_check_29 : decode b_RF_check 29 = .ok (.iload 5, 2) := by decide +kernel
theorem d_RF_check_31 : decode b_RF_check 31 = .ok (.iaload, 1) := by decide +kernel
theorem d_RF_check_32 : decode b_RF_check 32 = .ok (.istore 6, 2) := by decide +kernel
theorem d_RF_check_34 : decode b_RF_check 34 = .ok (.iconst 0, 1) := by decide +kernel
theorem d_RF_check_35 : decode b_RF_check 35 = .ok (.istore 7, 2) := by decide +kernel
theorem d_RF_check_37 : decode b_RF_check 37 = .ok (.iload 7, 2) := by decide +kernel
theorem d_RF_check_39 : decode b_RF_check 39 = .ok (.aload_n 0, 1) := by decide +kernel
theorem d_RF_check_40 : decode b_RF_check 40 = .ok (.getfield 94, 3) := by decide +kernel
theorem d_RF_check_43 : decode b_RF_check 43 = .ok (.if_icmp .ge 221, 3) := by decide +kernel
theorem d_RF_check_46 : decode b_RF_check 46 = .ok (.aload_n 0, 1) := by decide +kernel
theorem d_RF_check_47 : decode b_RF_check 47 = .ok (.getfield 16, 3) := by decide +kernel
theorem d_RF_check_50 : decode b_RF_check 50 = .ok (.iload 7, 2) := by decide +kernel
theorem d_RF_check_52 : decode b_RF_check 52 = .ok (.iaload, 1) := by decide +kernel
theorem d_RF_check_53 : decode b_RF_check 53 = .ok (.istore 8, 2) := by decide +kernel
theorem d_RF_check_55 : decode b_RF_check 55 = .ok (.iload 8, 2) := by decide +kernel
theorem d_RF_check_57 : decode b_RF_check 57 = .ok (.bipush 13, 2) := by decide +kernel
theorem d_RF_check_59 : decode b_RF_check 59 = .ok (.if_icmp .ne 79, 3) := by decide +kernel
theorem d_RF_check_62 : decode b_RF_check 62 = .ok (.aload_n 0, 1) := by decide +kernel
theorem d_RF_check_63 : decode b_RF_check 63 = .ok (.getfield 19, 3) := by decide +kernel
theorem d_RF_check_66 : decode b_RF_check 66 = .ok (.iload 7, 2) := by decide +kernel
theorem d_RF_check_68 : decode b_RF_check 68 = .ok (.iaload, 1) := by decide +kernel
theorem d_RF_check_69 : decode b_RF_check 69 = .ok (.iload 5, 2) := by decide +kernel
theorem d_RF_check_71 : decode b_RF_check 71 = .ok (.if_icmp .eq 15, 3) := by decide +kernel
theorem d_RF_check_74 : decode b_RF_check 74 = .ok (.aload_n 0, 1) := by decide +kernel
theorem d_RF_check_75 : decode b_RF_check 75 = .ok (.getfield 22, 3) := by decide +kernel
theorem d_RF_check_78 : decode b_RF_check 78 = .ok (.iload 7, 2) := by decide +kernel
theorem d_RF_check_80 : decode b_RF_check 80 = .ok (.iaload, 1) := by decide +kernel
theorem d_RF_check_81 : decode b_RF_check 81 = .ok (.iload 5, 2) := by decide +kernel
theorem d_RF_check_83 : decode b_RF_check 83 = .ok (.if_icmp .ne 55, 3) := by decide +kernel
theorem d_RF_check_86 : decode b_RF_check 86 = .ok (.aload_n 0, 1) := by decide +kernel
theorem d_RF_check_87 : decode b_RF_check 87 = .ok (.getfield 19, 3) := by decide +kernel
theorem d_RF_check_90 : decode b_RF_check 90 = .ok (.iload 7, 2) := by decide +kernel
theorem d_RF_check_92 : decode b_RF_check 92 = .ok (.iaload, 1) := by decide +kernel
theorem d_RF_check_93 : decode b_RF_check 93 = .ok (.iload 5, 2) := by decide +kernel
theorem d_RF_check_95 : decode b_RF_check 95 = .ok (.if_icmp .ne 13, 3) := by decide +kernel
theorem d_RF_check_98 : decode b_RF_check 98 = .ok (.aload_n 0, 1) := by decide +kernel
theorem d_RF_check_99 : decode b_RF_check 99 = .ok (.getfield 22, 3) := by decide +kernel
theorem d_RF_check_102 : decode b_RF_check 102 = .ok (.iload 7, 2) := by decide +kernel
theorem d_RF_check_104 : decode b_RF_check 104 = .ok (.iaload, 1) := by decide +kernel
theorem d_RF_check_105 : decode b_RF_check 105 = .ok (.goto 10, 3) := by decide +kernel
theorem d_RF_check_108 : decode b_RF_check 108 = .ok (.aload_n 0, 1) := by decide +kernel
theorem d_RF_check_109 : decode b_RF_check 109 = .ok (.getfield 19, 3) := by decide +kernel
theorem d_RF_check_112 : decode b_RF_check 112 = .ok (.iload 7, 2) := by decide +kernel
theorem d_RF_check_114 : decode b_RF_check 114 = .ok (.iaload, 1) := by decide +kernel
theorem d_RF_check_115 : decode b_RF_check 115 = .ok (.istore 9, 2) := by decide +kernel
theorem d_RF_check_117 : decode b_RF_check 117 = .ok (.aload_n 0, 1) := by decide +kernel
theorem d_RF_check_118 : decode b_RF_check 118 = .ok (.getfield 7, 3) := by decide +kernel
theorem d_RF_check_121 : decode b_RF_check 121 = .ok (.iload 9, 2) := by decide +kernel
theorem d_RF_check_123 : decode b_RF_check 123 = .ok (.iaload, 1) := by decide +kernel
theorem d_RF_check_124 : decode b_RF_check 124 = .ok (.ifCond .ne 7, 3) := by decide +kernel
theorem d_RF_check_127 : decode b_RF_check 127 = .ok (.iconst 0, 1) := by decide +kernel
theorem d_RF_check_128 : decode b_RF_check 128 = .ok (.goto 5, 3) := by decide +kernel
theorem d_RF_check_131 : decode b_RF_check 131 = .ok (.iload 6, 2) := by decide +kernel
theorem d_RF_check_133 : decode b_RF_check 133 = .ok (.istore 6, 2) := by decide +kernel
theorem d_RF_check_135 : decode b_RF_check 135 = .ok (.goto 123, 3) := by decide +kernel
theorem d_RF_check_138 : decode b_RF_check 138 = .ok (.aload_n 0, 1) := by decide +kernel
theorem d_RF_check_139 : decode b_RF_check 139 = .ok (.getfield 19, 3) := by decide +kernel
theorem d_RF_check_142 : decode b_RF_check 142 = .ok (.iload 7, 2) := by decide +kernel
theorem d_RF_check_144 : decode b_RF_check 144 = .ok (.iaload, 1) := by decide +kernel
theorem d_RF_check_145 : decode b_RF_check 145 = .ok (.iload 5, 2) := by decide +kernel
theorem d_RF_check_147 : decode b_RF_check 147 = .ok (.if_icmp .ne 21, 3) := by decide +kernel
theorem d_RF_check_150 : decode b_RF_check 150 = .ok (.iload 8, 2) := by decide +kernel
theorem d_RF_check_152 : decode b_RF_check 152 = .ok (.iconst 4, 1) := by decide +kernel
theorem d_RF_check_153 : decode b_RF_check 153 = .ok (.if_icmp .ne 15, 3) := by decide +kernel
theorem d_RF_check_156 : decode b_RF_check 156 = .ok (.aload_n 0, 1) := by decide +kernel
theorem d_RF_check_157 : decode b_RF_check 157 = .ok (.getfield 13, 3) := by decide +kernel
theorem d_RF_check_160 : decode b_RF_check 160 = .ok (.iload 4, 2) := by decide +kernel
theorem d_RF_check_162 : decode b_RF_check 162 = .ok (.iaload, 1) := by decide +kernel
theorem d_RF_check_163 : decode b_RF_check 163 = .ok (.istore 6, 2) := by decide +kernel
theorem d_RF_check_165 : decode b_RF_check 165 = .ok (.goto 93, 3) := by decide +kernel
theorem d_RF_check_168 : decode b_RF_check 168 = .ok (.aload_n 0, 1) := by decide +kernel
theorem d_RF_check_169 : decode b_RF_check 169 = .ok (.getfield 19, 3) := by decide +kernel
theorem d_RF_check_172 : decode b_RF_check 172 = .ok (.iload 7, 2) := by decide +kernel
theorem d_RF_check_174 : decode b_RF_check 174 = .ok (.iaload, 1) := by decide +kernel
theorem d_RF_check_175 : decode b_RF_check 175 = .ok (.iload 5, 2) := by decide +kernel
theorem d_RF_check_177 : decode b_RF_check 177 = .ok (.if_icmp .ne 56, 3) := by decide +kernel
theorem d_RF_check_180 : decode b_RF_check 180 = .ok (.iload 8, 2) := by decide +kernel
theorem d_RF_check_182 : decode b_RF_check 182 = .ok (.bipush 6, 2) := by decide +kernel
theorem d_RF_check_184 : decode b_RF_check 184 = .ok (.if_icmp .eq 10, 3) := by decide +kernel
theorem d_RF_check_187 : decode b_RF_check 187 = .ok (.iload 8, 2) := by decide +kernel
theorem d_RF_check_189 : decode b_RF_check 189 = .ok (.bipush 7, 2) := by decide +kernel
theorem d_RF_check_191 : decode b_RF_check 191 = .ok (.if_icmp .ne 42, 3) := by decide +kernel
theorem d_RF_check_194 : decode b_RF_check 194 = .ok (.aload_n 0, 1) := by decide +kernel
theorem d_RF_check_195 : decode b_RF_check 195 = .ok (.iload 5, 2) := by decide +kernel
theorem d_RF_check_197 : decode b_RF_check 197 = .ok (.iconst 1, 1) := by decide +kernel
theorem d_RF_check_198 : decode b_RF_check 198 = .ok (.aload_n 0, 1) := by decide +kernel
theorem d_RF_check_199 : decode b_RF_check 199 = .ok (.getfield 7, 3) := by decide +kernel
theorem d_RF_check_202 : decode b_RF_check 202 = .ok (.iload 5, 2) := by decide +kernel
theorem d_RF_check_204 : decode b_RF_check 204 = .ok (.iaload, 1) := by decide +kernel
theorem d_RF_check_205 : decode b_RF_check 205 = .ok (.isub, 1) := by decide +kernel
theorem d_RF_check_206 : decode b_RF_check 206 = .ok (.invokevirtual 104, 3) := by decide +kernel
theorem d_RF_check_209 : decode b_RF_check 209 = .ok (.iload 8, 2) := by decide +kernel
theorem d_RF_check_211 : decode b_RF_check 211 = .ok (.bipush 6, 2) := by decide +kernel
theorem d_RF_check_213 : decode b_RF_check 213 = .ok (.if_icmp .ne 13, 3) := by decide +kernel
theorem d_RF_check_216 : decode b_RF_check 216 = .ok (.aload_n 0, 1) := by decide +kernel
theorem d_RF_check_217 : decode b_RF_check 217 = .ok (.getfield 7, 3) := by decide +kernel
theorem d_RF_check_220 : decode b_RF_check 220 = .ok (.iload 5, 2) := by decide +kernel
theorem d_RF_check_222 : decode b_RF_check 222 = .ok (.iaload, 1) := by decide +kernel
theorem d_RF_check_223 : decode b_RF_check 223 = .ok (.goto 5, 3) := by decide +kernel
theorem d_RF_check_226 : decode b_RF_check 226 = .ok (.iload 6, 2) := by decide +kernel
theorem d_RF_check_228 : decode b_RF_check 228 = .ok (.istore 6, 2) := by decide +kernel
theorem d_RF_check_230 : decode b_RF_check 230 = .ok (.goto 28, 3) := by decide +kernel
theorem d_RF_check_233 : decode b_RF_check 233 = .ok (.aload_n 0, 1) := by decide +kernel
theorem d_RF_check_234 : decode b_RF_check 234 = .ok (.getfield 19, 3) := by decide +kernel
theorem d_RF_check_237 : decode b_RF_check 237 = .ok (.iload 7, 2) := by decide +kernel
theorem d_RF_check_239 : decode b_RF_check 239 = .ok (.iaload, 1) := by decide +kernel
theorem d_RF_check_240 : decode b_RF_check 240 = .ok (.iload 5, 2) := by decide +kernel
theorem d_RF_check_242 : decode b_RF_check 242 = .ok (.if_icmp .ne 16, 3) := by decide +kernel
theorem d_RF_check_245 : decode b_RF_check 245 = .ok (.iload 8, 2) := by decide +kernel
theorem d_RF_check_247 : decode b_RF_check 247 = .ok (.bipush 8, 2) := by decide +kernel
theorem d_RF_check_249 : decode b_RF_check 249 = .ok (.if_icmp .ne 9, 3) := by decide +kernel
theorem d_RF_check_252 : decode b_RF_check 252 = .ok (.iconst 1, 1) := by decide +kernel
theorem d_RF_check_253 : decode b_RF_check 253 = .ok (.iload 6, 2) := by decide +kernel
theorem d_RF_check_255 : decode b_RF_check 255 = .ok (.isub, 1) := by decide +kernel
theorem d_RF_check_256 : decode b_RF_check 256 = .ok (.istore 6, 2) := by decide +kernel
theorem d_RF_check_258 : decode b_RF_check 258 = .ok (.iinc 7 1, 3) := by decide +kernel
theorem d_RF_check_261 : decode b_RF_check 261 = .ok (.goto (-224), 3) := by decide +kernel
theorem d_RF_check_264 : decode b_RF_check 264 = .ok (.aload_n 0, 1) := by decide +kernel
theorem d_RF_check_265 : decode b_RF_check 265 = .ok (.getfield 13, 3) := by decide +kernel
theorem d_RF_check_268 : decode b_RF_check 268 = .ok (.iload 4, 2) := by decide +kernel
theorem d_RF_check_270 : decode b_RF_check 270 = .ok (.iload 6, 2) := by decide +kernel
theorem d_RF_check_272 : decode b_RF_check 272 = .ok (.iastore, 1) := by decide +kernel
theorem d_RF_check_273 : decode b_RF_check 273 = .ok (.iload 6, 2) := by decide +kernel
theorem d_RF_check_275 : decode b_RF_check 275 = .ok (.iload_n 2, 1) := by decide +kernel
theorem d_RF_check_276 : decode b_RF_check 276 = .ok (.aload_n 0, 1) := by decide +kernel
theorem d_RF_check_277 : decode b_RF_check 277 = .ok (.iload_n 1, 1) := by decide +kernel
theorem d_RF_check_278 : decode b_RF_check 278 = .ok (.iload 4, 2) := by decide +kernel
theorem d_RF_check_280 : decode b_RF_check 280 = .ok (.invokevirtual 100, 3) := by decide +kernel
theorem d_RF_check_283 : decode b_RF_check 283 = .ok (.ixor, 1) := by decide +kernel
theorem d_RF_check_284 : decode b_RF_check 284 = .ok (.if_icmp .ne 7, 3) := by decide +kernel
theorem d_RF_check_287 : decode b_RF_check 287 = .ok (.iload_n 3, 1) := by decide +kernel
theorem d_RF_check_288 : decode b_RF_check 288 = .ok (.goto 9, 3) := by decide +kernel
theorem d_RF_check_291 : decode b_RF_check 291 = .ok (.iload_n 3, 1) := by decide +kernel
theorem d_RF_check_292 : decode b_RF_check 292 = .ok (.iconst 1, 1) := by decide +kernel
theorem d_RF_check_293 : decode b_RF_check 293 = .ok (.iload 4, 2) := by decide +kernel
theorem d_RF_check_295 : decode b_RF_check 295 = .ok (.ishl, 1) := by decide +kernel
theorem d_RF_check_296 : decode b_RF_check 296 = .ok (.ior, 1) := by decide +kernel
theorem d_RF_check_297 : decode b_RF_check 297 = .ok (.istore_n 3, 1) := by decide +kernel
theorem d_RF_check_298 : decode b_RF_check 298 = .ok (.iinc 4 1, 3) := by decide +kernel
theorem d_RF_check_301 : decode b_RF_check 301 = .ok (.goto (-296), 3) := by decide +kernel
theorem d_RF_check_304 : decode b_RF_check 304 = .ok (.aload_n 0, 1) := by decide +kernel
theorem d_RF_check_305 : decode b_RF_check 305 = .ok (.invokevirtual 108, 3) := by decide +kernel
theorem d_RF_check_308 : decode b_RF_check 308 = .ok (.iload_n 3, 1) := by decide +kernel
theorem d_RF_check_309 : decode b_RF_check 309 = .ok (.ireturn, 1) := by decide +kernel
theorem d_RF_findPlaces_0 : decode b_RF_findPlaces 0 = .ok (.iconst 0, 1) := by decide +kernel
theorem d_RF_findPlaces_1 : decode b_RF_findPlaces 1 = .ok (.istore_n 2, 1) := by decide +kernel
theorem d_RF_findPlaces_2 : decode b_RF_findPlaces 2 = .ok (.iconst 0, 1) := by decide +kernel
theorem d_RF_findPlaces_3 : decode b_RF_findPlaces 3 = .ok (.istore_n 3, 1) := by decide +kernel
theorem d_RF_findPlaces_4 : decode b_RF_findPlaces 4 = .ok (.iload_n 3, 1) := by decide +kernel
theorem d_RF_findPlaces_5 : decode b_RF_findPlaces 5 = .ok (.bipush 16, 2) := by decide +kernel
theorem d_RF_findPlaces_7 : decode b_RF_findPlaces 7 = .ok (.if_icmp .ge 93, 3) := by decide +kernel
theorem d_RF_findPlaces_10 : decode b_RF_findPlaces 10 = .ok (.iload_n 3, 1) := by decide +kernel
theorem d_RF_findPlaces_11 : decode b_RF_findPlaces 11 = .ok (.iconst 1, 1) := by decide +kernel
theorem d_RF_findPlaces_12 : decode b_RF_findPlaces 12 = .ok (.iand, 1) := by decide +kernel
theorem d_RF_findPlaces_13 : decode b_RF_findPlaces 13 = .ok (.iconst 3, 1) := by decide +kernel
theorem d_RF_findPlaces_14 : decode b_RF_findPlaces 14 = .ok (.ishl, 1) := by decide +kernel
theorem d_RF_findPlaces_15 : decode b_RF_findPlaces 15 = .ok (.iload_n 3, 1) := by decide +kernel
theorem d_RF_findPlaces_16 : decode b_RF_findPlaces 16 = .ok (.iconst 2, 1) := by decide +kernel
theorem d_RF_findPlaces_17 : decode b_RF_findPlaces 17 = .ok (.iand, 1) := by decide +kernel
theorem d_RF_findPlaces_18 : decode b_RF_findPlaces 18 = .ok (.iconst 1, 1) := by decide +kernel
theorem d_RF_findPlaces_19 : decode b_RF_findPlaces 19 = .ok (.ishl, 1) := by decide +kernel
theorem d_RF_findPlaces_20 : decode b_RF_findPlaces 20 = .ok (.ior, 1) := by decide +kernel
theorem d_RF_findPlaces_21 : decode b_RF_findPlaces 21 = .ok (.iload_n 3, 1) := by decide +kernel
theorem d_RF_findPlaces_22 : decode b_RF_findPlaces 22 = .ok (.iconst 4, 1) := by decide +kernel
theorem d_RF_findPlaces_23 : decode b_RF_findPlaces 23 = .ok (.iand, 1) := by decide +kernel
theorem d_RF_findPlaces_24 : decode b_RF_findPlaces 24 = .ok (.iconst 1, 1) := by decide +kernel
theorem d_RF_findPlaces_25 : decode b_RF_findPlaces 25 = .ok (.ishr, 1) := by decide +kernel
theorem d_RF_findPlaces_26 : decode b_RF_findPlaces 26 = .ok (.ior, 1) := by decide +kernel
theorem d_RF_findPlaces_27 : decode b_RF_findPlaces 27 = .ok (.iload_n 3, 1) := by decide +kernel
theorem d_RF_findPlaces_28 : decode b_RF_findPlaces 28 = .ok (.bipush 8, 2) := by decide +kernel
theorem d_RF_findPlaces_30 : decode b_RF_findPlaces 30 = .ok (.iand, 1) := by decide +kernel
theorem d_RF_findPlaces_31 : decode b_RF_findPlaces 31 = .ok (.iconst 3, 1) := by decide +kernel
theorem d_RF_findPlaces_32 : decode b_RF_findPlaces 32 = .ok (.ishr, 1) := by decide +kernel
theorem d_RF_findPlaces_33 : decode b_RF_findPlaces 33 = .ok (.ior, 1) := by decide +kernel
theorem d_RF_findPlaces_34 : decode b_RF_findPlaces 34 = .ok (.istore 4, 2) := by decide +kernel
theorem d_RF_findPlaces_36 : decode b_RF_findPlaces 36 = .ok (.iload_n 1, 1) := by decide +kernel
theorem d_RF_findPlaces_37 : decode b_RF_findPlaces 37 = .ok (.ifCond .ne 7, 3) := by decide +kernel
theorem d_RF_findPlaces_40 : decode b_RF_findPlaces 40 = .ok (.iload_n 3, 1) := by decide +kernel
theorem d_RF_findPlaces_41 : decode b_RF_findPlaces 41 = .ok (.goto 21, 3) := by decide +kernel
theorem d_RF_findPlaces_44 : decode b_RF_findPlaces 44 = .ok (.iload_n 1, 1) := by decide +kernel
theorem d_RF_findPlaces_45 : decode b_RF_findPlaces 45 = .ok (.iconst 1, 1) := by decide +kernel
theorem d_RF_findPlaces_46 : decode b_RF_findPlaces 46 = .ok (.if_icmp .ne 8, 3) := by decide +kernel
theorem d_RF_findPlaces_49 : decode b_RF_findPlaces 49 = .ok (.iload 4, 2) := by decide +kernel
theorem d_RF_findPlaces_51 : decode b_RF_findPlaces 51 = .ok (.goto 11, 3) := by decide +kernel
theorem d_RF_findPlaces_54 : decode b_RF_findPlaces 54 = .ok (.aload_n 0, 1) := by decide +kernel
theorem d_RF_findPlaces_55 : decode b_RF_findPlaces 55 = .ok (.getfield 64, 3) := by decide +kernel
theorem d_RF_findPlaces_58 : decode b_RF_findPlaces 58 = .ok (.iconst 1, 1) := by decide +kernel
theorem d_RF_findPlaces_59 : decode b_RF_findPlaces 59 = .ok (.isub, 1) := by decide +kernel
theorem d_RF_findPlaces_60 : decode b_RF_findPlaces 60 = .ok (.iload_n 3, 1) := by decide +kernel
theorem d_RF_findPlaces_61 : decode b_RF_findPlaces 61 = .ok (.isub, 1) := by decide +kernel
theorem d_RF_findPlaces_62 : decode b_RF_findPlaces 62 = .ok (.istore 5, 2) := by decide +kernel
theorem d_RF_findPlaces_64 : decode b_RF_findPlaces 64 = .ok (.iload 5, 2) := by decide +kernel
theorem d_RF_findPlaces_66 : decode b_RF_findPlaces 66 = .ok (.ifCond .lt 28, 3) := by decide +kernel
theorem d_RF_findPlaces_69 : decode b_RF_findPlaces 69 = .ok (.iload 5, 2) := by decide +kernel
theorem d_RF_findPlaces_71 : decode b_RF_findPlaces 71 = .ok (.aload_n 0, 1) := by decide +kernel
theorem d_RF_findPlaces_72 : decode b_RF_findPlaces 72 = .ok (.getfield 64, 3) := by decide +kernel
theorem d_RF_findPlaces_75 : decode b_RF_findPlaces 75 = .ok (.if_icmp .ge 19, 3) := by decide +kernel
theorem d_RF_findPlaces_78 : decode b_RF_findPlaces 78 = .ok (.aload_n 0, 1) := by decide +kernel
theorem d_RF_findPlaces_79 : decode b_RF_findPlaces 79 = .ok (.getfield 37, 3) := by decide +kernel
theorem d_RF_findPlaces_82 : decode b_RF_findPlaces 82 = .ok (.iload_n 2, 1) := by decide +kernel
theorem d_RF_findPlaces_83 : decode b_RF_findPlaces 83 = .ok (.aload_n 0, 1) := by decide +kernel
theorem d_RF_findPlaces_84 : decode b_RF_findPlaces 84 = .ok (.getfield 34, 3) := by decide +kernel
theorem d_RF_findPlaces_87 : decode b_RF_findPlaces 87 = .ok (.iload 5, 2) := by decide +kernel
theorem d_RF_findPlaces_89 : decode b_RF_findPlaces 89 = .ok (.iaload, 1) := by decide +kernel
theorem d_RF_findPlaces_90 : decode b_RF_findPlaces 90 = .ok (.iastore, 1) := by decide +kernel
theorem d_RF_findPlaces_91 : decode b_RF_findPlaces 91 = .ok (.iinc 2 1, 3) := by decide +kernel
theorem d_RF_findPlaces_94 : decode b_RF_findPlaces 94 = .ok (.iinc 3 1, 3) := by decide +kernel
theorem d_RF_findPlaces_97 : decode b_RF_findPlaces 97 = .ok (.goto (-93), 3) := by decide +kernel
theorem d_RF_findPlaces_100 : decode b_RF_findPlaces 100 = .ok (.return_, 1) := by decide +kernel
theorem d_RF_fail_0 : decode b_RF_fail 0 = .ok (.iload 4, 2) := by decide +kernel
theorem d_RF_fail_2 : decode b_RF_fail 2 = .ok (.ifCond .le 82, 3) := by decide +kernel
theorem d_RF_fail_5 : decode b_RF_fail 5 = .ok (.aload_n 0, 1) := by decide +kernel
theorem d_RF_fail_6 : decode b_RF_fail 6 = .ok (.iconst 1, 1) := by decide +kernel
theorem d_RF_fail_7 : decode b_RF_fail 7 = .ok (.putfield 121, 3) := by decide +kernel
theorem d_RF_fail_10 : decode b_RF_fail 10 = .ok (.aload_n 0, 1) := by decide +kernel
theorem d_RF_fail_11 : decode b_RF_fail 11 = .ok (.getfield 125, 3) := by decide +kernel
theorem d_RF_fail_14 : decode b_RF_fail 14 = .ok (.ifCond .eq 70, 3) := by decide +kernel
theorem d_RF_fail_17 : decode b_RF_fail 17 = .ok (.aload_n 0, 1) := by decide +kernel
theorem d_RF_fail_18 : decode b_RF_fail 18 = .ok (.getfield 128, 3) := by decide +kernel
theorem d_RF_fail_21 : decode b_RF_fail 21 = .ok (.sipush 300, 3) := by decide +kernel
theorem d_RF_fail_24 : decode b_RF_fail 24 = .ok (.if_icmp .ge 60, 3) := by decide +kernel
theorem d_RF_fail_27 : decode b_RF_fail 27 = .ok (.iconst 4, 1) := by decide +kernel
theorem d_RF_fail_28 : decode b_RF_fail 28 = .ok (.aload_n 0, 1) := by decide +kernel
theorem d_RF_fail_29 : decode b_RF_fail 29 = .ok (.getfield 128, 3) := by decide +kernel
theorem d_RF_fail_32 : decode b_RF_fail 32 = .ok (.imul, 1) := by decide +kernel
theorem d_RF_fail_33 : decode b_RF_fail 33 = .ok (.istore 5, 2) := by decide +kernel
theorem d_RF_fail_35 : decode b_RF_fail 35 = .ok (.aload_n 0, 1) := by decide +kernel
theorem d_RF_fail_36 : decode b_RF_fail 36 = .ok (.getfield 61, 3) := by decide +kernel
theorem d_RF_fail_39 : decode b_RF_fail 39 = .ok (.iload 5, 2) := by decide +kernel
theorem d_RF_fail_41 : decode b_RF_fail 41 = .ok (.iload_n 1, 1) := by decide +kernel
theorem d_RF_fail_42 : decode b_RF_fail 42 = .ok (.iastore, 1) := by decide +kernel
theorem d_RF_fail_43 : decode b_RF_fail 43 = .ok (.aload_n 0, 1) := by decide +kernel
theorem d_RF_fail_44 : decode b_RF_fail 44 = .ok (.getfield 61, 3) := by decide +kernel
theorem d_RF_fail_47 : decode b_RF_fail 47 = .ok (.iload 5, 2) := by decide +kernel
theorem d_RF_fail_49 : decode b_RF_fail 49 = .ok (.iconst 1, 1) := by decide +kernel
theorem d_RF_fail_50 : decode b_RF_fail 50 = .ok (.iadd, 1) := by decide +kernel
theorem d_RF_fail_51 : decode b_RF_fail 51 = .ok (.iload_n 2, 1) := by decide +kernel
theorem d_RF_fail_52 : decode b_RF_fail 52 = .ok (.iastore, 1) := by decide +kernel
theorem d_RF_fail_53 : decode b_RF_fail 53 = .ok (.aload_n 0, 1) := by decide +kernel
theorem d_RF_fail_54 : decode b_RF_fail 54 = .ok (.getfield 61, 3) := by decide +kernel
theorem d_RF_fail_57 : decode b_RF_fail 57 = .ok (.iload 5, 2) := by decide +kernel
theorem d_RF_fail_59 : decode b_RF_fail 59 = .ok (.iconst 2, 1) := by decide +kernel
theorem d_RF_fail_60 : decode b_RF_fail 60 = .ok (.iadd, 1) := by decide +kernel
theorem d_RF_fail_61 : decode b_RF_fail 61 = .ok (.iload_n 3, 1) := by decide +kernel
theorem d_RF_fail_62 : decode b_RF_fail 62 = .ok (.iastore, 1) := by decide +kernel
theorem d_RF_fail_63 : decode b_RF_fail 63 = .ok (.aload_n 0, 1) := by decide +kernel
theorem d_RF_fail_64 : decode b_RF_fail 64 = .ok (.getfield 61, 3) := by decide +kernel
theorem d_RF_fail_67 : decode b_RF_fail 67 = .ok (.iload 5, 2) := by decide +kernel
theorem d_RF_fail_69 : decode b_RF_fail 69 = .ok (.iconst 3, 1) := by decide +kernel
theorem d_RF_fail_70 : decode b_RF_fail 70 = .ok (.iadd, 1) := by decide +kernel
theorem d_RF_fail_71 : decode b_RF_fail 71 = .ok (.iload 4, 2) := by decide +kernel
theorem d_RF_fail_73 : decode b_RF_fail 73 = .ok (.iastore, 1) := by decide +kernel
theorem d_RF_fail_74 : decode b_RF_fail 74 = .ok (.aload_n 0, 1) := by decide +kernel
theorem d_RF_fail_75 : decode b_RF_fail 75 = .ok (.dup, 1) := by decide +kernel
theorem d_RF_fail_76 : decode b_RF_fail 76 = .ok (.getfield 128, 3) := by decide +kernel
theorem d_RF_fail_79 : decode b_RF_fail 79 = .ok (.iconst 1, 1) := by decide +kernel
theorem d_RF_fail_80 : decode b_RF_fail 80 = .ok (.iadd, 1) := by decide +kernel
theorem d_RF_fail_81 : decode b_RF_fail 81 = .ok (.putfield 128, 3) := by decide +kernel
theorem d_RF_fail_84 : decode b_RF_fail 84 = .ok (.return_, 1) := by decide +kernel
theorem d_RF_doElement_0 : decode b_RF_doElement 0 = .ok (.iconst 0, 1) := by decide +kernel
theorem d_RF_doElement_1 : decode b_RF_doElement 1 = .ok (.istore_n 2, 1) := by decide +kernel
theorem d_RF_doElement_2 : decode b_RF_doElement 2 = .ok (.iload_n 2, 1) := by decide +kernel
theorem d_RF_doElement_3 : decode b_RF_doElement 3 = .ok (.aload_n 0, 1) := by decide +kernel
theorem d_RF_doElement_4 : decode b_RF_doElement 4 = .ok (.getfield 64, 3) := by decide +kernel
theorem d_RF_doElement_7 : decode b_RF_doElement 7 = .ok (.if_icmp .ge 141, 3) := by decide +kernel
theorem d_RF_doElement_10 : decode b_RF_doElement 10 = .ok (.aload_n 0, 1) := by decide +kernel
theorem d_RF_doElement_11 : decode b_RF_doElement 11 = .ok (.getfield 40, 3) := by decide +kernel
theorem d_RF_doElement_14 : decode b_RF_doElement 14 = .ok (.iload_n 1, 1) := by decide +kernel
theorem d_RF_doElement_15 : decode b_RF_doElement 15 = .ok (.iaload, 1) := by decide +kernel
theorem d_RF_doElement_16 : decode b_RF_doElement 16 = .ok (.iconst 1, 1) := by decide +kernel
theorem d_RF_doElement_17 : decode b_RF_doElement 17 = .ok (.if_icmp .ne 14, 3) := by decide +kernel
theorem d_RF_doElement_20 : decode b_RF_doElement 20 = .ok (.aload_n 0, 1) := by decide +kernel
theorem d_RF_doElement_21 : decode b_RF_doElement 21 = .ok (.getfield 64, 3) := by decide +kernel
theorem d_RF_doElement_24 : decode b_RF_doElement 24 = .ok (.iconst 1, 1) := by decide +kernel
theorem d_RF_doElement_25 : decode b_RF_doElement 25 = .ok (.isub, 1) := by decide +kernel
theorem d_RF_doElement_26 : decode b_RF_doElement 26 = .ok (.iload_n 2, 1) := by decide +kernel
theorem d_RF_doElement_27 : decode b_RF_doElement 27 = .ok (.isub, 1) := by decide +kernel
theorem d_RF_doElement_28 : decode b_RF_doElement 28 = .ok (.goto 4, 3) := by decide +kernel
theorem d_RF_doElement_31 : decode b_RF_doElement 31 = .ok (.iload_n 2, 1) := by decide +kernel
theorem d_RF_doElement_32 : decode b_RF_doElement 32 = .ok (.istore_n 3, 1) := by decide +kernel
theorem d_RF_doElement_33 : decode b_RF_doElement 33 = .ok (.aload_n 0, 1) := by decide +kernel
theorem d_RF_doElement_34 : decode b_RF_doElement 34 = .ok (.getfield 37, 3) := by decide +kernel
theorem d_RF_doElement_37 : decode b_RF_doElement 37 = .ok (.iload_n 3, 1) := by decide +kernel
theorem d_RF_doElement_38 : decode b_RF_doElement 38 = .ok (.iaload, 1) := by decide +kernel
theorem d_RF_doElement_39 : decode b_RF_doElement 39 = .ok (.istore 4, 2) := by decide +kernel
theorem d_RF_doElement_41 : decode b_RF_doElement 41 = .ok (.iconst 0, 1) := by decide +kernel
theorem d_RF_doElement_42 : decode b_RF_doElement 42 = .ok (.istore 5, 2) := by decide +kernel
theorem d_RF_doElement_44 : decode b_RF_doElement 44 = .ok (.iload 5, 2) := by decide +kernel
theorem d_RF_doElement_46 : decode b_RF_doElement 46 = .ok (.aload_n 0, 1) := by decide +kernel
theorem d_RF_doElement_47 : decode b_RF_doElement 47 = .ok (.getfield 43, 3) := by decide +kernel
theorem d_RF_doElement_50 : decode b_RF_doElement 50 = .ok (.iload_n 1, 1) := by decide +kernel
theorem d_RF_doElement_51 : decode b_RF_doElement 51 = .ok (.iaload, 1) := by decide +kernel
theorem d_RF_doElement_52 : decode b_RF_doElement 52 = .ok (.if_icmp .ge 90, 3) := by decide +kernel
theorem d_RF_doElement_55 : decode b_RF_doElement 55 = .ok (.aload_n 0, 1) := by decide +kernel
theorem d_RF_doElement_56 : decode b_RF_doElement 56 = .ok (.getfield 46, 3) := by decide +kernel
theorem d_RF_doElement_59 : decode b_RF_doElement 59 = .ok (.bipush 8, 2) := by decide +kernel
theorem d_RF_doElement_61 : decode b_RF_doElement 61 = .ok (.iload_n 1, 1) := by decide +kernel
theorem d_RF_doElement_62 : decode b_RF_doElement 62 = .ok (.imul, 1) := by decide +kernel
theorem d_RF_doElement_63 : decode b_RF_doElement 63 = .ok (.iload 5, 2) := by decide +kernel
theorem d_RF_doElement_65 : decode b_RF_doElement 65 = .ok (.iadd, 1) := by decide +kernel
theorem d_RF_doElement_66 : decode b_RF_doElement 66 = .ok (.iaload, 1) := by decide +kernel
theorem d_RF_doElement_67 : decode b_RF_doElement 67 = .ok (.istore 6, 2) := by decide +kernel
theorem d_RF_doElement_69 : decode b_RF_doElement 69 = .ok (.iload 6, 2) := by decide +kernel
theorem d_RF_doElement_71 : decode b_RF_doElement 71 = .ok (.iconst 2, 1) := by decide +kernel
theorem d_RF_doElement_72 : decode b_RF_doElement 72 = .ok (.if_icmp .ge 14, 3) := by decide +kernel
theorem d_RF_doElement_75 : decode b_RF_doElement 75 = .ok (.aload_n 0, 1) := by decide +kernel
theorem d_RF_doElement_76 : decode b_RF_doElement 76 = .ok (.iload 4, 2) := by decide +kernel
theorem d_RF_doElement_78 : decode b_RF_doElement 78 = .ok (.iload 6, 2) := by decide +kernel
theorem d_RF_doElement_80 : decode b_RF_doElement 80 = .ok (.invokevirtual 111, 3) := by decide +kernel
theorem d_RF_doElement_83 : decode b_RF_doElement 83 = .ok (.goto 53, 3) := by decide +kernel
theorem d_RF_doElement_86 : decode b_RF_doElement 86 = .ok (.aload_n 0, 1) := by decide +kernel
theorem d_RF_doElement_87 : decode b_RF_doElement 87 = .ok (.iload 4, 2) := by decide +kernel
theorem d_RF_doElement_89 : decode b_RF_doElement 89 = .ok (.iload 6, 2) := by decide +kernel
theorem d_RF_doElement_91 : decode b_RF_doElement 91 = .ok (.iconst 2, 1) := by decide +kernel
theorem d_RF_doElement_92 : decode b_RF_doElement 92 = .ok (.isub, 1) := by decide +kernel
theorem d_RF_doElement_93 : decode b_RF_doElement 93 = .ok (.invokevirtual 114, 3) := by decide +kernel
theorem d_RF_doElement_96 : decode b_RF_doElement 96 = .ok (.istore 7, 2) := by decide +kernel
theorem d_RF_doElement_98 : decode b_RF_doElement 98 = .ok (.aload_n 0, 1) := by decide +kernel
theorem d_RF_doElement_99 : decode b_RF_doElement 99 = .ok (.iload_n 1, 1) := by decide +kernel
theorem d_RF_doElement_100 : decode b_RF_doElement 100 = .ok (.iload 5, 2) := by decide +kernel
theorem d_RF_doElement_102 : decode b_RF_doElement 102 = .ok (.iload 4, 2) := by decide +kernel
theorem d_RF_doElement_104 : decode b_RF_doElement 104 = .ok (.iload 7, 2) := by decide +kernel
theorem d_RF_doElement_106 : decode b_RF_doElement 106 = .ok (.invokevirtual 117, 3) := by decide +kernel
theorem d_RF_doElement_109 : decode b_RF_doElement 109 = .ok (.aload_n 0, 1) := by decide +kernel
theorem d_RF_doElement_110 : decode b_RF_doElement 110 = .ok (.getfield 71, 3) := by decide +kernel
theorem d_RF_doElement_113 : decode b_RF_doElement 113 = .ok (.iconst 2, 1) := by decide +kernel
theorem d_RF_doElement_114 : decode b_RF_doElement 114 = .ok (.if_icmp .ne 22, 3) := by decide +kernel
theorem d_RF_doElement_117 : decode b_RF_doElement 117 = .ok (.aload_n 0, 1) := by decide +kernel
