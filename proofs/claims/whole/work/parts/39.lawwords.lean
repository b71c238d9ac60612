theorem d_LW_law_0 : decode b_LW_law 0 = .ok (.new 8, 3) := by decide +kernel
theorem d_LW_law_3 : decode b_LW_law 3 = .ok (.dup, 1) := by decide +kernel
theorem d_LW_law_4 : decode b_LW_law 4 = .ok (.aload_n 0, 1) := by decide +kernel
theorem d_LW_law_5 : decode b_LW_law 5 = .ok (.iconst 0, 1) := by decide +kernel
theorem d_LW_law_6 : decode b_LW_law 6 = .ok (.invokestatic 55, 3) := by decide +kernel
theorem d_LW_law_9 : decode b_LW_law 9 = .ok (.aload_n 0, 1) := by decide +kernel
theorem d_LW_law_10 : decode b_LW_law 10 = .ok (.iconst 1, 1) := by decide +kernel
theorem d_LW_law_11 : decode b_LW_law 11 = .ok (.invokestatic 55, 3) := by decide +kernel
theorem d_LW_law_14 : decode b_LW_law 14 = .ok (.invokespecial 61, 3) := by decide +kernel
theorem d_LW_law_17 : decode b_LW_law 17 = .ok (.astore_n 1, 1) := by decide +kernel
theorem d_LW_law_18 : decode b_LW_law 18 = .ok (.new 64, 3) := by decide +kernel
theorem d_LW_law_21 : decode b_LW_law 21 = .ok (.dup, 1) := by decide +kernel
theorem d_LW_law_22 : decode b_LW_law 22 = .ok (.aload_n 0, 1) := by decide +kernel
theorem d_LW_law_23 : decode b_LW_law 23 = .ok (.iconst 0, 1) := by decide +kernel
theorem d_LW_law_24 : decode b_LW_law 24 = .ok (.invokestatic 55, 3) := by decide +kernel
theorem d_LW_law_27 : decode b_LW_law 27 = .ok (.aload_n 0, 1) := by decide +kernel
theorem d_LW_law_28 : decode b_LW_law 28 = .ok (.iconst 1, 1) := by decide +kernel
theorem d_LW_law_29 : decode b_LW_law 29 = .ok (.invokestatic 55, 3) := by decide +kernel
theorem d_LW_law_32 : decode b_LW_law 32 = .ok (.invokespecial 66, 3) := by decide +kernel
theorem d_LW_law_35 : decode b_LW_law 35 = .ok (.astore_n 2, 1) := by decide +kernel
theorem d_LW_law_36 : decode b_LW_law 36 = .ok (.iconst 1, 1) := by decide +kernel
theorem d_LW_law_37 : decode b_LW_law 37 = .ok (.newarray .long, 2) := by decide +kernel
theorem d_LW_law_39 : decode b_LW_law 39 = .ok (.astore_n 3, 1) := by decide +kernel
theorem d_LW_law_40 : decode b_LW_law 40 = .ok (.iconst 2, 1) := by decide +kernel
theorem d_LW_law_41 : decode b_LW_law 41 = .ok (.istore 4, 2) := by decide +kernel
theorem d_LW_law_43 : decode b_LW_law 43 = .ok (.iload 4, 2) := by decide +kernel
theorem d_LW_law_45 : decode b_LW_law 45 = .ok (.aload_n 0, 1) := by decide +kernel
theorem d_LW_law_46 : decode b_LW_law 46 = .ok (.arraylength, 1) := by decide +kernel
theorem d_LW_law_47 : decode b_LW_law 47 = .ok (.iconst 5, 1) := by decide +kernel
theorem d_LW_law_48 : decode b_LW_law 48 = .ok (.isub, 1) := by decide +kernel
theorem d_LW_law_49 : decode b_LW_law 49 = .ok (.if_icmp .gt 893, 3) := by decide +kernel
theorem d_LW_law_52 : decode b_LW_law 52 = .ok (.aload_n 0, 1) := by decide +kernel
theorem d_LW_law_53 : decode b_LW_law 53 = .ok (.iload 4, 2) := by decide +kernel
theorem d_LW_law_55 : decode b_LW_law 55 = .ok (.iaload, 1) := by decide +kernel
theorem d_LW_law_56 : decode b_LW_law 56 = .ok (.bipush 15, 2) := by decide +kernel
theorem d_LW_law_58 : decode b_LW_law 58 = .ok (.iand, 1) := by decide +kernel
theorem d_LW_law_59 : decode b_LW_law 59 = .ok (.tableswitch 877 0 13 #[69, 94, 107, 187, 243, 310, 366, 441, 509, 621, 689, 702, 758, 814], 69) := by decide +kernel
theorem d_LW_law_128 : decode b_LW_law 128 = .ok (.aload_n 1, 1) := by decide +kernel
theorem d_LW_law_129 : decode b_LW_law 129 = .ok (.aload_n 0, 1) := by decide +kernel
theorem d_LW_law_130 : decode b_LW_law 130 = .ok (.iload 4, 2) := by decide +kernel
theorem d_LW_law_132 : decode b_LW_law 132 = .ok (.iconst 1, 1) := by decide +kernel
theorem d_LW_law_133 : decode b_LW_law 133 = .ok (.iadd, 1) := by decide +kernel
theorem d_LW_law_134 : decode b_LW_law 134 = .ok (.iaload, 1) := by decide +kernel
theorem d_LW_law_135 : decode b_LW_law 135 = .ok (.invokevirtual 67, 3) := by decide +kernel
theorem d_LW_law_138 : decode b_LW_law 138 = .ok (.aload_n 2, 1) := by decide +kernel
theorem d_LW_law_139 : decode b_LW_law 139 = .ok (.aload_n 0, 1) := by decide +kernel
theorem d_LW_law_140 : decode b_LW_law 140 = .ok (.iload 4, 2) := by decide +kernel
theorem d_LW_law_142 : decode b_LW_law 142 = .ok (.iconst 1, 1) := by decide +kernel
theorem d_LW_law_143 : decode b_LW_law 143 = .ok (.iadd, 1) := by decide +kernel
theorem d_LW_law_144 : decode b_LW_law 144 = .ok (.iaload, 1) := by decide +kernel
theorem d_LW_law_145 : decode b_LW_law 145 = .ok (.invokevirtual 70, 3) := by decide +kernel
theorem d_LW_law_148 : decode b_LW_law 148 = .ok (.if_icmp .eq 788, 3) := by decide +kernel
theorem d_LW_law_151 : decode b_LW_law 151 = .ok (.iconst 0, 1) := by decide +kernel
theorem d_LW_law_152 : decode b_LW_law 152 = .ok (.ireturn, 1) := by decide +kernel
theorem d_LW_law_153 : decode b_LW_law 153 = .ok (.aload_n 1, 1) := by decide +kernel
theorem d_LW_law_154 : decode b_LW_law 154 = .ok (.invokevirtual 71, 3) := by decide +kernel
theorem d_LW_law_157 : decode b_LW_law 157 = .ok (.aload_n 2, 1) := by decide +kernel
theorem d_LW_law_158 : decode b_LW_law 158 = .ok (.invokevirtual 75, 3) := by decide +kernel
theorem d_LW_law_161 : decode b_LW_law 161 = .ok (.if_icmp .eq 775, 3) := by decide +kernel
theorem d_LW_law_164 : decode b_LW_law 164 = .ok (.iconst 0, 1) := by decide +kernel
theorem d_LW_law_165 : decode b_LW_law 165 = .ok (.ireturn, 1) := by decide +kernel
theorem d_LW_law_166 : decode b_LW_law 166 = .ok (.aload_n 1, 1) := by decide +kernel
theorem d_LW_law_167 : decode b_LW_law 167 = .ok (.aload_n 0, 1) := by decide +kernel
theorem d_LW_law_168 : decode b_LW_law 168 = .ok (.iload 4, 2) := by decide +kernel
theorem d_LW_law_170 : decode b_LW_law 170 = .ok (.iconst 1, 1) := by decide +kernel
theorem d_LW_law_171 : decode b_LW_law 171 = .ok (.iadd, 1) := by decide +kernel
theorem d_LW_law_172 : decode b_LW_law 172 = .ok (.iaload, 1) := by decide +kernel
theorem d_LW_law_173 : decode b_LW_law 173 = .ok (.aload_n 0, 1) := by decide +kernel
theorem d_LW_law_174 : decode b_LW_law 174 = .ok (.iload 4, 2) := by decide +kernel
theorem d_LW_law_176 : decode b_LW_law 176 = .ok (.iconst 2, 1) := by decide +kernel
theorem d_LW_law_177 : decode b_LW_law 177 = .ok (.iadd, 1) := by decide +kernel
theorem d_LW_law_178 : decode b_LW_law 178 = .ok (.iaload, 1) := by decide +kernel
theorem d_LW_law_179 : decode b_LW_law 179 = .ok (.aload_n 0, 1) := by decide +kernel
theorem d_LW_law_180 : decode b_LW_law 180 = .ok (.iload 4, 2) := by decide +kernel
theorem d_LW_law_182 : decode b_LW_law 182 = .ok (.iconst 3, 1) := by decide +kernel
theorem d_LW_law_183 : decode b_LW_law 183 = .ok (.iadd, 1) := by decide +kernel
theorem d_LW_law_184 : decode b_LW_law 184 = .ok (.iaload, 1) := by decide +kernel
theorem d_LW_law_185 : decode b_LW_law 185 = .ok (.aload_n 3, 1) := by decide +kernel
theorem d_LW_law_186 : decode b_LW_law 186 = .ok (.invokestatic 76, 3) := by decide +kernel
theorem d_LW_law_189 : decode b_LW_law 189 = .ok (.istore 5, 2) := by decide +kernel
theorem d_LW_law_191 : decode b_LW_law 191 = .ok (.aload_n 2, 1) := by decide +kernel
theorem d_LW_law_192 : decode b_LW_law 192 = .ok (.aload_n 0, 1) := by decide +kernel
theorem d_LW_law_193 : decode b_LW_law 193 = .ok (.iload 4, 2) := by decide +kernel
theorem d_LW_law_195 : decode b_LW_law 195 = .ok (.iconst 1, 1) := by decide +kernel
theorem d_LW_law_196 : decode b_LW_law 196 = .ok (.iadd, 1) := by decide +kernel
theorem d_LW_law_197 : decode b_LW_law 197 = .ok (.iaload, 1) := by decide +kernel
theorem d_LW_law_198 : decode b_LW_law 198 = .ok (.aload_n 0, 1) := by decide +kernel
theorem d_LW_law_199 : decode b_LW_law 199 = .ok (.iload 4, 2) := by decide +kernel
theorem d_LW_law_201 : decode b_LW_law 201 = .ok (.iconst 2, 1) := by decide +kernel
theorem d_LW_law_202 : decode b_LW_law 202 = .ok (.iadd, 1) := by decide +kernel
theorem d_LW_law_203 : decode b_LW_law 203 = .ok (.iaload, 1) := by decide +kernel
theorem d_LW_law_204 : decode b_LW_law 204 = .ok (.aload_n 0, 1) := by decide +kernel
theorem d_LW_law_205 : decode b_LW_law 205 = .ok (.iload 4, 2) := by decide +kernel
theorem d_LW_law_207 : decode b_LW_law 207 = .ok (.iconst 3, 1) := by decide +kernel
theorem d_LW_law_208 : decode b_LW_law 208 = .ok (.iadd, 1) := by decide +kernel
theorem d_LW_law_209 : decode b_LW_law 209 = .ok (.iaload, 1) := by decide +kernel
theorem d_LW_law_210 : decode b_LW_law 210 = .ok (.invokevirtual 79, 3) := by decide +kernel
theorem d_LW_law_213 : decode b_LW_law 213 = .ok (.istore 6, 2) := by decide +kernel
theorem d_LW_law_215 : decode b_LW_law 215 = .ok (.aload_n 2, 1) := by decide +kernel
theorem d_LW_law_216 : decode b_LW_law 216 = .ok (.invokevirtual 80, 3) := by decide +kernel
theorem d_LW_law_219 : decode b_LW_law 219 = .ok (.iload 5, 2) := by decide +kernel
theorem d_LW_law_221 : decode b_LW_law 221 = .ok (.if_icmp .eq 5, 3) := by decide +kernel
theorem d_LW_law_224 : decode b_LW_law 224 = .ok (.iconst 0, 1) := by decide +kernel
theorem d_LW_law_225 : decode b_LW_law 225 = .ok (.ireturn, 1) := by decide +kernel
theorem d_LW_law_226 : decode b_LW_law 226 = .ok (.iload 5, 2) := by decide +kernel
theorem d_LW_law_228 : decode b_LW_law 228 = .ok (.ifCond .ne 15, 3) := by decide +kernel
theorem d_LW_law_231 : decode b_LW_law 231 = .ok (.aload_n 3, 1) := by decide +kernel
theorem d_LW_law_232 : decode b_LW_law 232 = .ok (.iconst 0, 1) := by decide +kernel
theorem d_LW_law_233 : decode b_LW_law 233 = .ok (.laload, 1) := by decide +kernel
theorem d_LW_law_234 : decode b_LW_law 234 = .ok (.iload 6, 2) := by decide +kernel
theorem d_LW_law_236 : decode b_LW_law 236 = .ok (.i2l, 1) := by decide +kernel
theorem d_LW_law_237 : decode b_LW_law 237 = .ok (.lcmp, 1) := by decide +kernel
theorem d_LW_law_238 : decode b_LW_law 238 = .ok (.ifCond .eq 5, 3) := by decide +kernel
theorem d_LW_law_241 : decode b_LW_law 241 = .ok (.iconst 0, 1) := by decide +kernel
theorem d_LW_law_242 : decode b_LW_law 242 = .ok (.ireturn, 1) := by decide +kernel
theorem d_LW_law_243 : decode b_LW_law 243 = .ok (.goto 693, 3) := by decide +kernel
theorem d_LW_law_246 : decode b_LW_law 246 = .ok (.aload_n 1, 1) := by decide +kernel
theorem d_LW_law_247 : decode b_LW_law 247 = .ok (.aload_n 0, 1) := by decide +kernel
theorem d_LW_law_248 : decode b_LW_law 248 = .ok (.iload 4, 2) := by decide +kernel
theorem d_LW_law_250 : decode b_LW_law 250 = .ok (.iconst 1, 1) := by decide +kernel
theorem d_LW_law_251 : decode b_LW_law 251 = .ok (.iadd, 1) := by decide +kernel
theorem d_LW_law_252 : decode b_LW_law 252 = .ok (.iaload, 1) := by decide +kernel
theorem d_LW_law_253 : decode b_LW_law 253 = .ok (.aload_n 3, 1) := by decide +kernel
theorem d_LW_law_254 : decode b_LW_law 254 = .ok (.invokestatic 83, 3) := by decide +kernel
theorem d_LW_law_257 : decode b_LW_law 257 = .ok (.istore 5, 2) := by decide +kernel
theorem d_LW_law_259 : decode b_LW_law 259 = .ok (.aload_n 2, 1) := by decide +kernel
theorem d_LW_law_260 : decode b_LW_law 260 = .ok (.aload_n 0, 1) := by decide +kernel
theorem d_LW_law_261 : decode b_LW_law 261 = .ok (.iload 4, 2) := by decide +kernel
theorem d_LW_law_263 : decode b_LW_law 263 = .ok (.iconst 1, 1) := by decide +kernel
theorem d_LW_law_264 : decode b_LW_law 264 = .ok (.iadd, 1) := by decide +kernel
theorem d_LW_law_265 : decode b_LW_law 265 = .ok (.iaload, 1) := by decide +kernel
theorem d_LW_law_266 : decode b_LW_law 266 = .ok (.invokevirtual 86, 3) := by decide +kernel
theorem d_LW_law_269 : decode b_LW_law 269 = .ok (.istore 6, 2) := by decide +kernel
theorem d_LW_law_271 : decode b_LW_law 271 = .ok (.aload_n 2, 1) := by decide +kernel
theorem d_LW_law_272 : decode b_LW_law 272 = .ok (.invokevirtual 80, 3) := by decide +kernel
theorem d_LW_law_275 : decode b_LW_law 275 = .ok (.iload 5, 2) := by decide +kernel
theorem d_LW_law_277 : decode b_LW_law 277 = .ok (.if_icmp .eq 5, 3) := by decide +kernel
theorem d_LW_law_280 : decode b_LW_law 280 = .ok (.iconst 0, 1) := by decide +kernel
theorem d_LW_law_281 : decode b_LW_law 281 = .ok (.ireturn, 1) := by decide +kernel
theorem d_LW_law_282 : decode b_LW_law 282 = .ok (.iload 5, 2) := by decide +kernel
theorem d_LW_law_284 : decode b_LW_law 284 = .ok (.ifCond .ne 15, 3) := by decide +kernel
theorem d_LW_law_287 : decode b_LW_law 287 = .ok (.aload_n 3, 1) := by decide +kernel
theorem d_LW_law_288 : decode b_LW_law 288 = .ok (.iconst 0, 1) := by decide +kernel
theorem d_LW_law_289 : decode b_LW_law 289 = .ok (.laload, 1) := by decide +kernel
theorem d_LW_law_290 : decode b_LW_law 290 = .ok (.iload 6, 2) := by decide +kernel
theorem d_LW_law_292 : decode b_LW_law 292 = .ok (.i2l, 1) := by decide +kernel
theorem d_LW_law_293 : decode b_LW_law 293 = .ok (.lcmp, 1) := by decide +kernel
theorem d_LW_law_294 : decode b_LW_law 294 = .ok (.ifCond .eq 5, 3) := by decide +kernel
theorem d_LW_law_297 : decode b_LW_law 297 = .ok (.iconst 0, 1) := by decide +kernel
theorem d_LW_law_298 : decode b_LW_law 298 = .ok (.ireturn, 1) := by decide +kernel
theorem d_LW_law_299 : decode b_LW_law 299 = .ok (.goto 637, 3) := by decide +kernel
theorem d_LW_law_302 : decode b_LW_law 302 = .ok (.aload_n 1, 1) := by decide +kernel
theorem d_LW_law_303 : decode b_LW_law 303 = .ok (.aload_n 0, 1) := by decide +kernel
theorem d_LW_law_304 : decode b_LW_law 304 = .ok (.iload 4, 2) := by decide +kernel
theorem d_LW_law_306 : decode b_LW_law 306 = .ok (.iconst 1, 1) := by decide +kernel
theorem d_LW_law_307 : decode b_LW_law 307 = .ok (.iadd, 1) := by decide +kernel
theorem d_LW_law_308 : decode b_LW_law 308 = .ok (.iaload, 1) := by decide +kernel
theorem d_LW_law_309 : decode b_LW_law 309 = .ok (.aload_n 0, 1) := by decide +kernel
theorem d_LW_law_310 : decode b_LW_law 310 = .ok (.iload 4, 2) := by decide +kernel
theorem d_LW_law_312 : decode b_LW_law 312 = .ok (.iconst 2, 1) := by decide +kernel
theorem d_LW_law_313 : decode b_LW_law 313 = .ok (.iadd, 1) := by decide +kernel
theorem d_LW_law_314 : decode b_LW_law 314 = .ok (.iaload, 1) := by decide +kernel
theorem d_LW_law_315 : decode b_LW_law 315 = .ok (.aload_n 3, 1) := by decide +kernel
theorem d_LW_law_316 : decode b_LW_law 316 = .ok (.invokestatic 87, 3) := by decide +kernel
theorem d_LW_law_319 : decode b_LW_law 319 = .ok (.istore 5, 2) := by decide +kernel
theorem d_LW_law_321 : decode b_LW_law 321 = .ok (.aload_n 2, 1) := by decide +kernel
theorem d_LW_law_322 : decode b_LW_law 322 = .ok (.aload_n 0, 1) := by decide +kernel
theorem d_LW_law_323 : decode b_LW_law 323 = .ok (.iload 4, 2) := by decide +kernel
theorem d_LW_law_325 : decode b_LW_law 325 = .ok (.iconst 1, 1) := by decide +kernel
theorem d_LW_law_326 : decode b_LW_law 326 = .ok (.iadd, 1) := by decide +kernel
theorem d_LW_law_327 : decode b_LW_law 327 = .ok (.iaload, 1) := by decide +kernel
theorem d_LW_law_328 : decode b_LW_law 328 = .ok (.aload_n 0, 1) := by decide +kernel
theorem d_LW_law_329 : decode b_LW_law 329 = .ok (.iload 4, 2) := by decide +kernel
theorem d_LW_law_331 : decode b_LW_law 331 = .ok (.iconst 2, 1) := by decide +kernel
theorem d_LW_law_332 : decode b_LW_law 332 = .ok (.iadd, 1) := by decide +kernel
theorem d_LW_law_333 : decode b_LW_law 333 = .ok (.iaload, 1) := by decide +kernel
theorem d_LW_law_334 : decode b_LW_law 334 = .ok (.invokevirtual 90, 3) := by decide +kernel
theorem d_LW_law_337 : decode b_LW_law 337 = .ok (.lstore 6, 2) := by decide +kernel
theorem d_LW_law_339 : decode b_LW_law 339 = .ok (.aload_n 2, 1) := by decide +kernel
theorem d_LW_law_340 : decode b_LW_law 340 = .ok (.invokevirtual 80, 3) := by decide +kernel
theorem d_LW_law_343 : decode b_LW_law 343 = .ok (.iload 5, 2) := by decide +kernel
theorem d_LW_law_345 : decode b_LW_law 345 = .ok (.if_icmp .eq 5, 3) := by decide +kernel
theorem d_LW_law_348 : decode b_LW_law 348 = .ok (.iconst 0, 1) := by decide +kernel
theorem d_LW_law_349 : decode b_LW_law 349 = .ok (.ireturn, 1) := by decide +kernel
theorem d_LW_law_350 : decode b_LW_law 350 = .ok (.iload 5, 2) := by decide +kernel
theorem d_LW_law_352 : decode b_LW_law 352 = .ok (.ifCond .ne 14, 3) := by decide +kernel
theorem d_LW_law_355 : decode b_LW_law 355 = .ok (.aload_n 3, 1) := by decide +kernel
theorem d_LW_law_356 : decode b_LW_law 356 = .ok (.iconst 0, 1) := by decide +kernel
theorem d_LW_law_357 : decode b_LW_law 357 = .ok (.laload, 1) := by decide +kernel
theorem d_LW_law_358 : decode b_LW_law 358 = .ok (.lload 6, 2) := by decide +kernel
theorem d_LW_law_360 : decode b_LW_law 360 = .ok (.lcmp, 1) := by decide +kernel
theorem d_LW_law_361 : decode b_LW_law 361 = .ok (.ifCond .eq 5, 3) := by decide +kernel
theorem d_LW_law_364 : decode b_LW_law 364 = .ok (.iconst 0, 1) := by decide +kernel
theorem d_LW_law_365 : decode b_LW_law 365 = .ok (.ireturn, 1) := by decide +kernel
theorem d_LW_law_366 : decode b_LW_law 366 = .ok (.goto 570, 3) := by decide +kernel
theorem d_LW_law_369 : decode b_LW_law 369 = .ok (.aload_n 1, 1) := by decide +kernel
theorem d_LW_law_370 : decode b_LW_law 370 = .ok (.aload_n 0, 1) := by decide +kernel
theorem d_LW_law_371 : decode b_LW_law 371 = .ok (.iload 4, 2) := by decide +kernel
theorem d_LW_law_373 : decode b_LW_law 373 = .ok (.iconst 1, 1) := by decide +kernel
theorem d_LW_law_374 : decode b_LW_law 374 = .ok (.iadd, 1) := by decide +kernel
theorem d_LW_law_375 : decode b_LW_law 375 = .ok (.iaload, 1) := by decide +kernel
theorem d_LW_law_376 : decode b_LW_law 376 = .ok (.aload_n 3, 1) := by decide +kernel
theorem d_LW_law_377 : decode b_LW_law 377 = .ok (.invokestatic 91, 3) := by decide +kernel
theorem d_LW_law_380 : decode b_LW_law 380 = .ok (.istore 5, 2) := by decide +kernel
theorem d_LW_law_382 : decode b_LW_law 382 = .ok (.aload_n 2, 1) := by decide +kernel
theorem d_LW_law_383 : decode b_LW_law 383 = .ok (.aload_n 0, 1) := by decide +kernel
theorem d_LW_law_384 : decode b_LW_law 384 = .ok (.iload 4, 2) := by decide +kernel
theorem d_LW_law_386 : decode b_LW_law 386 = .ok (.iconst 1, 1) := by decide +kernel
theorem d_LW_law_387 : decode b_LW_law 387 = .ok (.iadd, 1) := by decide +kernel
theorem d_LW_law_388 : decode b_LW_law 388 = .ok (.iaload, 1) := by decide +kernel
theorem d_LW_law_389 : decode b_LW_law 389 = .ok (.invokevirtual 93, 3) := by decide +kernel
theorem d_LW_law_392 : decode b_LW_law 392 = .ok (.istore 6, 2) := by decide +kernel
theorem d_LW_law_394 : decode b_LW_law 394 = .ok (.aload_n 2, 1) := by decide +kernel
theorem d_LW_law_395 : decode b_LW_law 395 = .ok (.invokevirtual 80, 3) := by decide +kernel
theorem d_LW_law_398 : decode b_LW_law 398 = .ok (.iload 5, 2) := by decide +kernel
theorem d_LW_law_400 : decode b_LW_law 400 = .ok (.if_icmp .eq 5, 3) := by decide +kernel
theorem d_LW_law_403 : decode b_LW_law 403 = .ok (.iconst 0, 1) := by decide +kernel
theorem d_LW_law_404 : decode b_LW_law 404 = .ok (.ireturn, 1) := by decide +kernel
theorem d_LW_law_405 : decode b_LW_law 405 = .ok (.iload 5, 2) := by decide +kernel
theorem d_LW_law_407 : decode b_LW_law 407 = .ok (.ifCond .ne 15, 3) := by decide +kernel
theorem d_LW_law_410 : decode b_LW_law 410 = .ok (.aload_n 3, 1) := by decide +kernel
theorem d_LW_law_411 : decode b_LW_law 411 = .ok (.iconst 0, 1) := by decide +kernel
theorem d_LW_law_412 : decode b_LW_law 412 = .ok (.laload, 1) := by decide +kernel
theorem d_LW_law_413 : decode b_LW_law 413 = .ok (.iload 6, 2) := by decide +kernel
theorem d_LW_law_415 : decode b_LW_law 415 = .ok (.i2l, 1) := by decide +kernel
theorem d_LW_law_416 : decode b_LW_law 416 = .ok (.lcmp, 1) := by decide +kernel
theorem d_LW_law_417 : decode b_LW_law 417 = .ok (.ifCond .eq 5, 3) := by decide +kernel
theorem d_LW_law_420 : decode b_LW_law 420 = .ok (.iconst 0, 1) := by decide +kernel
theorem d_LW_law_421 : decode b_LW_law 421 = .ok (.ireturn, 1) := by decide +kernel
theorem d_LW_law_422 : decode b_LW_law 422 = .ok (.goto 514, 3) := by decide +kernel
theorem d_LW_law_425 : decode b_LW_law 425 = .ok (.aload_n 1, 1) := by decide +kernel
theorem d_LW_law_426 : decode b_LW_law 426 = .ok (.aload_n 0, 1) := by decide +kernel
theorem d_LW_law_427 : decode b_LW_law 427 = .ok (.iload 4, 2) := by decide +kernel
theorem d_LW_law_429 : decode b_LW_law 429 = .ok (.iconst 1, 1) := by decide +kernel
theorem d_LW_law_430 : decode b_LW_law 430 = .ok (.iadd, 1) := by decide +kernel
theorem d_LW_law_431 : decode b_LW_law 431 = .ok (.iaload, 1) := by decide +kernel
theorem d_LW_law_432 : decode b_LW_law 432 = .ok (.aload_n 0, 1) := by decide +kernel
theorem d_LW_law_433 : decode b_LW_law 433 = .ok (.iload 4, 2) := by decide +kernel
theorem d_LW_law_435 : decode b_LW_law 435 = .ok (.iconst 2, 1) := by decide +kernel
theorem d_LW_law_436 : decode b_LW_law 436 = .ok (.iadd, 1) := by decide +kernel
theorem d_LW_law_437 : decode b_LW_law 437 = .ok (.iaload, 1) := by decide +kernel
theorem d_LW_law_438 : decode b_LW_law 438 = .ok (.aload_n 3, 1) := by decide +kernel
theorem d_LW_law_439 : decode b_LW_law 439 = .ok (.invokestatic 94, 3) := by decide +kernel
theorem d_LW_law_442 : decode b_LW_law 442 = .ok (.istore 5, 2) := by decide +kernel
theorem d_LW_law_444 : decode b_LW_law 444 = .ok (.aload_n 2, 1) := by decide +kernel
theorem d_LW_law_445 : decode b_LW_law 445 = .ok (.aload_n 0, 1) := by decide +kernel
theorem d_LW_law_446 : decode b_LW_law 446 = .ok (.iload 4, 2) := by decide +kernel
theorem d_LW_law_448 : decode b_LW_law 448 = .ok (.iconst 1, 1) := by decide +kernel
theorem d_LW_law_449 : decode b_LW_law 449 = .ok (.iadd, 1) := by decide +kernel
theorem d_LW_law_450 : decode b_LW_law 450 = .ok (.iaload, 1) := by decide +kernel
theorem d_LW_law_451 : decode b_LW_law 451 = .ok (.aload_n 0, 1) := by decide +kernel
theorem d_LW_law_452 : decode b_LW_law 452 = .ok (.iload 4, 2) := by decide +kernel
theorem d_LW_law_454 : decode b_LW_law 454 = .ok (.iconst 2, 1) := by decide +kernel
theorem d_LW_law_455 : decode b_LW_law 455 = .ok (.iadd, 1) := by decide +kernel
theorem d_LW_law_456 : decode b_LW_law 456 = .ok (.iaload, 1) := by decide +kernel
theorem d_LW_law_457 : decode b_LW_law 457 = .ok (.invokevirtual 96, 3) := by decide +kernel
theorem d_LW_law_460 : decode b_LW_law 460 = .ok (.istore 6, 2) := by decide +kernel
theorem d_LW_law_462 : decode b_LW_law 462 = .ok (.aload_n 2, 1) := by decide +kernel
theorem d_LW_law_463 : decode b_LW_law 463 = .ok (.invokevirtual 80, 3) := by decide +kernel
theorem d_LW_law_466 : decode b_LW_law 466 = .ok (.iload 5, 2) := by decide +kernel
theorem d_LW_law_468 : decode b_LW_law 468 = .ok (.if_icmp .eq 5, 3) := by decide +kernel
theorem d_LW_law_471 : decode b_LW_law 471 = .ok (.iconst 0, 1) := by decide +kernel
theorem d_LW_law_472 : decode b_LW_law 472 = .ok (.ireturn, 1) := by decide +kernel
theorem d_LW_law_473 : decode b_LW_law 473 = .ok (.iload 5, 2) := by decide +kernel
theorem d_LW_law_475 : decode b_LW_law 475 = .ok (.ifCond .ne 22, 3) := by decide +kernel
theorem d_LW_law_478 : decode b_LW_law 478 = .ok (.aload_n 3, 1) := by decide +kernel
theorem d_LW_law_479 : decode b_LW_law 479 = .ok (.iconst 0, 1) := by decide +kernel
theorem d_LW_law_480 : decode b_LW_law 480 = .ok (.laload, 1) := by decide +kernel
theorem d_LW_law_481 : decode b_LW_law 481 = .ok (.iload 6, 2) := by decide +kernel
theorem d_LW_law_483 : decode b_LW_law 483 = .ok (.ifCond .eq 7, 3) := by decide +kernel
theorem d_LW_law_486 : decode b_LW_law 486 = .ok (.lconst 1, 1) := by decide +kernel
theorem d_LW_law_487 : decode b_LW_law 487 = .ok (.goto 4, 3) := by decide +kernel
theorem d_LW_law_490 : decode b_LW_law 490 = .ok (.lconst 0, 1) := by decide +kernel
theorem d_LW_law_491 : decode b_LW_law 491 = .ok (.lcmp, 1) := by decide +kernel
theorem d_LW_law_492 : decode b_LW_law 492 = .ok (.ifCond .eq 5, 3) := by decide +kernel
theorem d_LW_law_495 : decode b_LW_law 495 = .ok (.iconst 0, 1) := by decide +kernel
theorem d_LW_law_496 : decode b_LW_law 496 = .ok (.ireturn, 1) := by decide +kernel
theorem d_LW_law_497 : decode b_LW_law 497 = .ok (.goto 439, 3) := by decide +kernel
theorem d_LW_law_500 : decode b_LW_law 500 = .ok (.aload_n 1, 1) := by decide +kernel
theorem d_LW_law_501 : decode b_LW_law 501 = .ok (.aload_n 0, 1) := by decide +kernel
theorem d_LW_law_502 : decode b_LW_law 502 = .ok (.iload 4, 2) := by decide +kernel
theorem d_LW_law_504 : decode b_LW_law 504 = .ok (.iconst 1, 1) := by decide +kernel
theorem d_LW_law_505 : decode b_LW_law 505 = .ok (.iadd, 1) := by decide +kernel
theorem d_LW_law_506 : decode b_LW_law 506 = .ok (.iaload, 1) := by decide +kernel
theorem d_LW_law_507 : decode b_LW_law 507 = .ok (.aload_n 0, 1) := by decide +kernel
theorem d_LW_law_508 : decode b_LW_law 508 = .ok (.iload 4, 2) := by decide +kernel
theorem d_LW_law_510 : decode b_LW_law 510 = .ok (.iconst 2, 1) := by decide +kernel
theorem d_LW_law_511 : decode b_LW_law 511 = .ok (.iadd, 1) := by decide +kernel
theorem d_LW_law_512 : decode b_LW_law 512 = .ok (.iaload, 1) := by decide +kernel
theorem d_LW_law_513 : decode b_LW_law 513 = .ok (.aload_n 3, 1) := by decide +kernel
theorem d_LW_law_514 : decode b_LW_law 514 = .ok (.invokestatic 97, 3) := by decide +kernel
theorem d_LW_law_517 : decode b_LW_law 517 = .ok (.istore 5, 2) := by decide +kernel
theorem d_LW_law_519 : decode b_LW_law 519 = .ok (.aload_n 2, 1) := by decide +kernel
theorem d_LW_law_520 : decode b_LW_law 520 = .ok (.aload_n 0, 1) := by decide +kernel
theorem d_LW_law_521 : decode b_LW_law 521 = .ok (.iload 4, 2) := by decide +kernel
theorem d_LW_law_523 : decode b_LW_law 523 = .ok (.iconst 1, 1) := by decide +kernel
theorem d_LW_law_524 : decode b_LW_law 524 = .ok (.iadd, 1) := by decide +kernel
theorem d_LW_law_525 : decode b_LW_law 525 = .ok (.iaload, 1) := by decide +kernel
theorem d_LW_law_526 : decode b_LW_law 526 = .ok (.aload_n 0, 1) := by decide +kernel
theorem d_LW_law_527 : decode b_LW_law 527 = .ok (.iload 4, 2) := by decide +kernel
theorem d_LW_law_529 : decode b_LW_law 529 = .ok (.iconst 2, 1) := by decide +kernel
theorem d_LW_law_530 : decode b_LW_law 530 = .ok (.iadd, 1) := by decide +kernel
theorem d_LW_law_531 : decode b_LW_law 531 = .ok (.iaload, 1) := by decide +kernel
theorem d_LW_law_532 : decode b_LW_law 532 = .ok (.invokevirtual 99, 3) := by decide +kernel
theorem d_LW_law_535 : decode b_LW_law 535 = .ok (.istore 6, 2) := by decide +kernel
theorem d_LW_law_537 : decode b_LW_law 537 = .ok (.aload_n 2, 1) := by decide +kernel
theorem d_LW_law_538 : decode b_LW_law 538 = .ok (.invokevirtual 80, 3) := by decide +kernel
theorem d_LW_law_541 : decode b_LW_law 541 = .ok (.iload 5, 2) := by decide +kernel
theorem d_LW_law_543 : decode b_LW_law 543 = .ok (.if_icmp .eq 5, 3) := by decide +kernel
theorem d_LW_law_546 : decode b_LW_law 546 = .ok (.iconst 0, 1) := by decide +kernel
theorem d_LW_law_547 : decode b_LW_law 547 = .ok (.ireturn, 1) := by decide +kernel
theorem d_LW_law_548 : decode b_LW_law 548 = .ok (.iload 5, 2) := by decide +kernel
theorem d_LW_law_550 : decode b_LW_law 550 = .ok (.ifCond .ne 15, 3) := by decide +kernel
theorem d_LW_law_553 : decode b_LW_law 553 = .ok (.aload_n 3, 1) := by decide +kernel
theorem d_LW_law_554 : decode b_LW_law 554 = .ok (.iconst 0, 1) := by decide +kernel
theorem d_LW_law_555 : decode b_LW_law 555 = .ok (.laload, 1) := by decide +kernel
theorem d_LW_law_556 : decode b_LW_law 556 = .ok (.iload 6, 2) := by decide +kernel
theorem d_LW_law_558 : decode b_LW_law 558 = .ok (.i2l, 1) := by decide +kernel
theorem d_LW_law_559 : decode b_LW_law 559 = .ok (.lcmp, 1) := by decide +kernel
theorem d_LW_law_560 : decode b_LW_law 560 = .ok (.ifCond .eq 5, 3) := by decide +kernel
theorem d_LW_law_563 : decode b_LW_law 563 = .ok (.iconst 0, 1) := by decide +kernel
theorem d_LW_law_564 : decode b_LW_law 564 = .ok (.ireturn, 1) := by decide +kernel
theorem d_LW_law_565 : decode b_LW_law 565 = .ok (.goto 371, 3) := by decide +kernel
theorem d_LW_law_568 : decode b_LW_law 568 = .ok (.aload_n 1, 1) := by decide +kernel
theorem d_LW_law_569 : decode b_LW_law 569 = .ok (.aload_n 0, 1) := by decide +kernel
theorem d_LW_law_570 : decode b_LW_law 570 = .ok (.iload 4, 2) := by decide +kernel
theorem d_LW_law_572 : decode b_LW_law 572 = .ok (.iconst 1, 1) := by decide +kernel
theorem d_LW_law_573 : decode b_LW_law 573 = .ok (.iadd, 1) := by decide +kernel
theorem d_LW_law_574 : decode b_LW_law 574 = .ok (.iaload, 1) := by decide +kernel
theorem d_LW_law_575 : decode b_LW_law 575 = .ok (.aload_n 0, 1) := by decide +kernel
theorem d_LW_law_576 : decode b_LW_law 576 = .ok (.iload 4, 2) := by decide +kernel
theorem d_LW_law_578 : decode b_LW_law 578 = .ok (.iconst 2, 1) := by decide +kernel
theorem d_LW_law_579 : decode b_LW_law 579 = .ok (.iadd, 1) := by decide +kernel
theorem d_LW_law_580 : decode b_LW_law 580 = .ok (.iaload, 1) := by decide +kernel
theorem d_LW_law_581 : decode b_LW_law 581 = .ok (.aload_n 0, 1) := by decide +kernel
theorem d_LW_law_582 : decode b_LW_law 582 = .ok (.iload 4, 2) := by decide +kernel
theorem d_LW_law_584 : decode b_LW_law 584 = .ok (.iconst 3, 1) := by decide +kernel
theorem d_LW_law_585 : decode b_LW_law 585 = .ok (.iadd, 1) := by decide +kernel
theorem d_LW_law_586 : decode b_LW_law 586 = .ok (.iaload, 1) := by decide +kernel
theorem d_LW_law_587 : decode b_LW_law 587 = .ok (.i2l, 1) := by decide +kernel
theorem d_LW_law_588 : decode b_LW_law 588 = .ok (.bipush 32, 2) := by decide +kernel
theorem d_LW_law_590 : decode b_LW_law 590 = .ok (.lshl, 1) := by decide +kernel
theorem d_LW_law_591 : decode b_LW_law 591 = .ok (.aload_n 0, 1) := by decide +kernel
theorem d_LW_law_592 : decode b_LW_law 592 = .ok (.iload 4, 2) := by decide +kernel
theorem d_LW_law_594 : decode b_LW_law 594 = .ok (.iconst 4, 1) := by decide +kernel
theorem d_LW_law_595 : decode b_LW_law 595 = .ok (.iadd, 1) := by decide +kernel
theorem d_LW_law_596 : decode b_LW_law 596 = .ok (.iaload, 1) := by decide +kernel
theorem d_LW_law_597 : decode b_LW_law 597 = .ok (.i2l, 1) := by decide +kernel
theorem d_LW_law_598 : decode b_LW_law 598 = .ok (.ldc2_w 100, 3) := by decide +kernel
theorem d_LW_law_601 : decode b_LW_law 601 = .ok (.land, 1) := by decide +kernel
theorem d_LW_law_602 : decode b_LW_law 602 = .ok (.lor, 1) := by decide +kernel
theorem d_LW_law_603 : decode b_LW_law 603 = .ok (.aload_n 3, 1) := by decide +kernel
theorem d_LW_law_604 : decode b_LW_law 604 = .ok (.invokestatic 102, 3) := by decide +kernel
theorem d_LW_law_607 : decode b_LW_law 607 = .ok (.istore 5, 2) := by decide +kernel
theorem d_LW_law_609 : decode b_LW_law 609 = .ok (.aload_n 2, 1) := by decide +kernel
theorem d_LW_law_610 : decode b_LW_law 610 = .ok (.aload_n 0, 1) := by decide +kernel
theorem d_LW_law_611 : decode b_LW_law 611 = .ok (.iload 4, 2) := by decide +kernel
theorem d_LW_law_613 : decode b_LW_law 613 = .ok (.iconst 1, 1) := by decide +kernel
theorem d_LW_law_614 : decode b_LW_law 614 = .ok (.iadd, 1) := by decide +kernel
theorem d_LW_law_615 : decode b_LW_law 615 = .ok (.iaload, 1) := by decide +kernel
theorem d_LW_law_616 : decode b_LW_law 616 = .ok (.aload_n 0, 1) := by decide +kernel
theorem d_LW_law_617 : decode b_LW_law 617 = .ok (.iload 4, 2) := by decide +kernel
theorem d_LW_law_619 : decode b_LW_law 619 = .ok (.iconst 2, 1) := by decide +kernel
theorem d_LW_law_620 : decode b_LW_law 620 = .ok (.iadd, 1) := by decide +kernel
theorem d_LW_law_621 : decode b_LW_law 621 = .ok (.iaload, 1) := by decide +kernel
theorem d_LW_law_622 : decode b_LW_law 622 = .ok (.aload_n 0, 1) := by decide +kernel
theorem d_LW_law_623 : decode b_LW_law 623 = .ok (.iload 4, 2) := by decide +kernel
theorem d_LW_law_625 : decode b_LW_law 625 = .ok (.iconst 3, 1) := by decide +kernel
theorem d_LW_law_626 : decode b_LW_law 626 = .ok (.iadd, 1) := by decide +kernel
theorem d_LW_law_627 : decode b_LW_law 627 = .ok (.iaload, 1) := by decide +kernel
theorem d_LW_law_628 : decode b_LW_law 628 = .ok (.i2l, 1) := by decide +kernel
theorem d_LW_law_629 : decode b_LW_law 629 = .ok (.bipush 32, 2) := by decide +kernel
theorem d_LW_law_631 : decode b_LW_law 631 = .ok (.lshl, 1) := by decide +kernel
theorem d_LW_law_632 : decode b_LW_law 632 = .ok (.aload_n 0, 1) := by decide +kernel
theorem d_LW_law_633 : decode b_LW_law 633 = .ok (.iload 4, 2) := by decide +kernel
theorem d_LW_law_635 : decode b_LW_law 635 = .ok (.iconst 4, 1) := by decide +kernel
theorem d_LW_law_636 : decode b_LW_law 636 = .ok (.iadd, 1) := by decide +kernel
theorem d_LW_law_637 : decode b_LW_law 637 = .ok (.iaload, 1) := by decide +kernel
theorem d_LW_law_638 : decode b_LW_law 638 = .ok (.i2l, 1) := by decide +kernel
theorem d_LW_law_639 : decode b_LW_law 639 = .ok (.ldc2_w 100, 3) := by decide +kernel
theorem d_LW_law_642 : decode b_LW_law 642 = .ok (.land, 1) := by decide +kernel
theorem d_LW_law_643 : decode b_LW_law 643 = .ok (.lor, 1) := by decide +kernel
theorem d_LW_law_644 : decode b_LW_law 644 = .ok (.invokevirtual 105, 3) := by decide +kernel
theorem d_LW_law_647 : decode b_LW_law 647 = .ok (.istore 6, 2) := by decide +kernel
theorem d_LW_law_649 : decode b_LW_law 649 = .ok (.aload_n 2, 1) := by decide +kernel
theorem d_LW_law_650 : decode b_LW_law 650 = .ok (.invokevirtual 80, 3) := by decide +kernel
theorem d_LW_law_653 : decode b_LW_law 653 = .ok (.iload 5, 2) := by decide +kernel
theorem d_LW_law_655 : decode b_LW_law 655 = .ok (.if_icmp .eq 5, 3) := by decide +kernel
theorem d_LW_law_658 : decode b_LW_law 658 = .ok (.iconst 0, 1) := by decide +kernel
theorem d_LW_law_659 : decode b_LW_law 659 = .ok (.ireturn, 1) := by decide +kernel
theorem d_LW_law_660 : decode b_LW_law 660 = .ok (.iload 5, 2) := by decide +kernel
theorem d_LW_law_662 : decode b_LW_law 662 = .ok (.ifCond .ne 15, 3) := by decide +kernel
theorem d_LW_law_665 : decode b_LW_law 665 = .ok (.aload_n 3, 1) := by decide +kernel
theorem d_LW_law_666 : decode b_LW_law 666 = .ok (.iconst 0, 1) := by decide +kernel
theorem d_LW_law_667 : decode b_LW_law 667 = .ok (.laload, 1) := by decide +kernel
theorem d_LW_law_668 : decode b_LW_law 668 = .ok (.iload 6, 2) := by decide +kernel
theorem d_LW_law_670 : decode b_LW_law 670 = .ok (.i2l, 1) := by decide +kernel
theorem d_LW_law_671 : decode b_LW_law 671 = .ok (.lcmp, 1) := by decide +kernel
theorem d_LW_law_672 : decode b_LW_law 672 = .ok (.ifCond .eq 5, 3) := by decide +kernel
theorem d_LW_law_675 : decode b_LW_law 675 = .ok (.iconst 0, 1) := by decide +kernel
theorem d_LW_law_676 : decode b_LW_law 676 = .ok (.ireturn, 1) := by decide +kernel
theorem d_LW_law_677 : decode b_LW_law 677 = .ok (.goto 259, 3) := by decide +kernel
theorem d_LW_law_680 : decode b_LW_law 680 = .ok (.aload_n 1, 1) := by decide +kernel
theorem d_LW_law_681 : decode b_LW_law 681 = .ok (.aload_n 0, 1) := by decide +kernel
theorem d_LW_law_682 : decode b_LW_law 682 = .ok (.iload 4, 2) := by decide +kernel
theorem d_LW_law_684 : decode b_LW_law 684 = .ok (.iconst 1, 1) := by decide +kernel
theorem d_LW_law_685 : decode b_LW_law 685 = .ok (.iadd, 1) := by decide +kernel
theorem d_LW_law_686 : decode b_LW_law 686 = .ok (.iaload, 1) := by decide +kernel
theorem d_LW_law_687 : decode b_LW_law 687 = .ok (.aload_n 0, 1) := by decide +kernel
theorem d_LW_law_688 : decode b_LW_law 688 = .ok (.iload 4, 2) := by decide +kernel
theorem d_LW_law_690 : decode b_LW_law 690 = .ok (.iconst 2, 1) := by decide +kernel
theorem d_LW_law_691 : decode b_LW_law 691 = .ok (.iadd, 1) := by decide +kernel
theorem d_LW_law_692 : decode b_LW_law 692 = .ok (.iaload, 1) := by decide +kernel
theorem d_LW_law_693 : decode b_LW_law 693 = .ok (.aload_n 3, 1) := by decide +kernel
theorem d_LW_law_694 : decode b_LW_law 694 = .ok (.invokestatic 106, 3) := by decide +kernel
theorem d_LW_law_697 : decode b_LW_law 697 = .ok (.istore 5, 2) := by decide +kernel
theorem d_LW_law_699 : decode b_LW_law 699 = .ok (.aload_n 2, 1) := by decide +kernel
theorem d_LW_law_700 : decode b_LW_law 700 = .ok (.aload_n 0, 1) := by decide +kernel
theorem d_LW_law_701 : decode b_LW_law 701 = .ok (.iload 4, 2) := by decide +kernel
theorem d_LW_law_703 : decode b_LW_law 703 = .ok (.iconst 1, 1) := by decide +kernel
theorem d_LW_law_704 : decode b_LW_law 704 = .ok (.iadd, 1) := by decide +kernel
theorem d_LW_law_705 : decode b_LW_law 705 = .ok (.iaload, 1) := by decide +kernel
theorem d_LW_law_706 : decode b_LW_law 706 = .ok (.aload_n 0, 1) := by decide +kernel
theorem d_LW_law_707 : decode b_LW_law 707 = .ok (.iload 4, 2) := by decide +kernel
theorem d_LW_law_709 : decode b_LW_law 709 = .ok (.iconst 2, 1) := by decide +kernel
theorem d_LW_law_710 : decode b_LW_law 710 = .ok (.iadd, 1) := by decide +kernel
theorem d_LW_law_711 : decode b_LW_law 711 = .ok (.iaload, 1) := by decide +kernel
theorem d_LW_law_712 : decode b_LW_law 712 = .ok (.invokevirtual 108, 3) := by decide +kernel
theorem d_LW_law_715 : decode b_LW_law 715 = .ok (.istore 6, 2) := by decide +kernel
theorem d_LW_law_717 : decode b_LW_law 717 = .ok (.aload_n 2, 1) := by decide +kernel
theorem d_LW_law_718 : decode b_LW_law 718 = .ok (.invokevirtual 80, 3) := by decide +kernel
theorem d_LW_law_721 : decode b_LW_law 721 = .ok (.iload 5, 2) := by decide +kernel
theorem d_LW_law_723 : decode b_LW_law 723 = .ok (.if_icmp .eq 5, 3) := by decide +kernel
theorem d_LW_law_726 : decode b_LW_law 726 = .ok (.iconst 0, 1) := by decide +kernel
theorem d_LW_law_727 : decode b_LW_law 727 = .ok (.ireturn, 1) := by decide +kernel
theorem d_LW_law_728 : decode b_LW_law 728 = .ok (.iload 5, 2) := by decide +kernel
theorem d_LW_law_730 : decode b_LW_law 730 = .ok (.ifCond .ne 15, 3) := by decide +kernel
theorem d_LW_law_733 : decode b_LW_law 733 = .ok (.aload_n 3, 1) := by decide +kernel
theorem d_LW_law_734 : decode b_LW_law 734 = .ok (.iconst 0, 1) := by decide +kernel
theorem d_LW_law_735 : decode b_LW_law 735 = .ok (.laload, 1) := by decide +kernel
theorem d_LW_law_736 : decode b_LW_law 736 = .ok (.iload 6, 2) := by decide +kernel
theorem d_LW_law_738 : decode b_LW_law 738 = .ok (.i2l, 1) := by decide +kernel
theorem d_LW_law_739 : decode b_LW_law 739 = .ok (.lcmp, 1) := by decide +kernel
theorem d_LW_law_740 : decode b_LW_law 740 = .ok (.ifCond .eq 5, 3) := by decide +kernel
theorem d_LW_law_743 : decode b_LW_law 743 = .ok (.iconst 0, 1) := by decide +kernel
theorem d_LW_law_744 : decode b_LW_law 744 = .ok (.ireturn, 1) := by decide +kernel
theorem d_LW_law_745 : decode b_LW_law 745 = .ok (.goto 191, 3) := by decide +kernel
theorem d_LW_law_748 : decode b_LW_law 748 = .ok (.aload_n 1, 1) := by decide +kernel
theorem d_LW_law_749 : decode b_LW_law 749 = .ok (.invokevirtual 109, 3) := by decide +kernel
theorem d_LW_law_752 : decode b_LW_law 752 = .ok (.aload_n 2, 1) := by decide +kernel
theorem d_LW_law_753 : decode b_LW_law 753 = .ok (.invokevirtual 113, 3) := by decide +kernel
theorem d_LW_law_756 : decode b_LW_law 756 = .ok (.if_icmp .eq 180, 3) := by decide +kernel
theorem d_LW_law_759 : decode b_LW_law 759 = .ok (.iconst 0, 1) := by decide +kernel
theorem d_LW_law_760 : decode b_LW_law 760 = .ok (.ireturn, 1) := by decide +kernel
theorem d_LW_law_761 : decode b_LW_law 761 = .ok (.aload_n 1, 1) := by decide +kernel
theorem d_LW_law_762 : decode b_LW_law 762 = .ok (.aload_n 0, 1) := by decide +kernel
theorem d_LW_law_763 : decode b_LW_law 763 = .ok (.iload 4, 2) := by decide +kernel
theorem d_LW_law_765 : decode b_LW_law 765 = .ok (.iconst 1, 1) := by decide +kernel
theorem d_LW_law_766 : decode b_LW_law 766 = .ok (.iadd, 1) := by decide +kernel
theorem d_LW_law_767 : decode b_LW_law 767 = .ok (.iaload, 1) := by decide +kernel
theorem d_LW_law_768 : decode b_LW_law 768 = .ok (.aload_n 3, 1) := by decide +kernel
theorem d_LW_law_769 : decode b_LW_law 769 = .ok (.invokestatic 114, 3) := by decide +kernel
theorem d_LW_law_772 : decode b_LW_law 772 = .ok (.istore 5, 2) := by decide +kernel
theorem d_LW_law_774 : decode b_LW_law 774 = .ok (.aload_n 2, 1) := by decide +kernel
theorem d_LW_law_775 : decode b_LW_law 775 = .ok (.aload_n 0, 1) := by decide +kernel
theorem d_LW_law_776 : decode b_LW_law 776 = .ok (.iload 4, 2) := by decide +kernel
theorem d_LW_law_778 : decode b_LW_law 778 = .ok (.iconst 1, 1) := by decide +kernel
theorem d_LW_law_779 : decode b_LW_law 779 = .ok (.iadd, 1) := by decide +kernel
theorem d_LW_law_780 : decode b_LW_law 780 = .ok (.iaload, 1) := by decide +kernel
theorem d_LW_law_781 : decode b_LW_law 781 = .ok (.invokevirtual 116, 3) := by decide +kernel
theorem d_LW_law_784 : decode b_LW_law 784 = .ok (.istore 6, 2) := by decide +kernel
theorem d_LW_law_786 : decode b_LW_law 786 = .ok (.aload_n 2, 1) := by decide +kernel
theorem d_LW_law_787 : decode b_LW_law 787 = .ok (.invokevirtual 80, 3) := by decide +kernel
theorem d_LW_law_790 : decode b_LW_law 790 = .ok (.iload 5, 2) := by decide +kernel
theorem d_LW_law_792 : decode b_LW_law 792 = .ok (.if_icmp .eq 5, 3) := by decide +kernel
theorem d_LW_law_795 : decode b_LW_law 795 = .ok (.iconst 0, 1) := by decide +kernel
theorem d_LW_law_796 : decode b_LW_law 796 = .ok (.ireturn, 1) := by decide +kernel
theorem d_LW_law_797 : decode b_LW_law 797 = .ok (.iload 5, 2) := by decide +kernel
theorem d_LW_law_799 : decode b_LW_law 799 = .ok (.ifCond .ne 15, 3) := by decide +kernel
theorem d_LW_law_802 : decode b_LW_law 802 = .ok (.aload_n 3, 1) := by decide +kernel
theorem d_LW_law_803 : decode b_LW_law 803 = .ok (.iconst 0, 1) := by decide +kernel
theorem d_LW_law_804 : decode b_LW_law 804 = .ok (.laload, 1) := by decide +kernel
theorem d_LW_law_805 : decode b_LW_law 805 = .ok (.iload 6, 2) := by decide +kernel
theorem d_LW_law_807 : decode b_LW_law 807 = .ok (.i2l, 1) := by decide +kernel
theorem d_LW_law_808 : decode b_LW_law 808 = .ok (.lcmp, 1) := by decide +kernel
theorem d_LW_law_809 : decode b_LW_law 809 = .ok (.ifCond .eq 5, 3) := by decide +kernel
theorem d_LW_law_812 : decode b_LW_law 812 = .ok (.iconst 0, 1) := by decide +kernel
theorem d_LW_law_813 : decode b_LW_law 813 = .ok (.ireturn, 1) := by decide +kernel
theorem d_LW_law_814 : decode b_LW_law 814 = .ok (.goto 122, 3) := by decide +kernel
theorem d_LW_law_817 : decode b_LW_law 817 = .ok (.aload_n 1, 1) := by decide +kernel
theorem d_LW_law_818 : decode b_LW_law 818 = .ok (.aload_n 0, 1) := by decide +kernel
theorem d_LW_law_819 : decode b_LW_law 819 = .ok (.iload 4, 2) := by decide +kernel
theorem d_LW_law_821 : decode b_LW_law 821 = .ok (.iconst 1, 1) := by decide +kernel
theorem d_LW_law_822 : decode b_LW_law 822 = .ok (.iadd, 1) := by decide +kernel
theorem d_LW_law_823 : decode b_LW_law 823 = .ok (.iaload, 1) := by decide +kernel
theorem d_LW_law_824 : decode b_LW_law 824 = .ok (.aload_n 3, 1) := by decide +kernel
theorem d_LW_law_825 : decode b_LW_law 825 = .ok (.invokestatic 117, 3) := by decide +kernel
theorem d_LW_law_828 : decode b_LW_law 828 = .ok (.istore 5, 2) := by decide +kernel
theorem d_LW_law_830 : decode b_LW_law 830 = .ok (.aload_n 2, 1) := by decide +kernel
theorem d_LW_law_831 : decode b_LW_law 831 = .ok (.aload_n 0, 1) := by decide +kernel
theorem d_LW_law_832 : decode b_LW_law 832 = .ok (.iload 4, 2) := by decide +kernel
theorem d_LW_law_834 : decode b_LW_law 834 = .ok (.iconst 1, 1) := by decide +kernel
theorem d_LW_law_835 : decode b_LW_law 835 = .ok (.iadd, 1) := by decide +kernel
theorem d_LW_law_836 : decode b_LW_law 836 = .ok (.iaload, 1) := by decide +kernel
theorem d_LW_law_837 : decode b_LW_law 837 = .ok (.invokevirtual 119, 3) := by decide +kernel
theorem d_LW_law_840 : decode b_LW_law 840 = .ok (.istore 6, 2) := by decide +kernel
theorem d_LW_law_842 : decode b_LW_law 842 = .ok (.aload_n 2, 1) := by decide +kernel
theorem d_LW_law_843 : decode b_LW_law 843 = .ok (.invokevirtual 80, 3) := by decide +kernel
theorem d_LW_law_846 : decode b_LW_law 846 = .ok (.iload 5, 2) := by decide +kernel
theorem d_LW_law_848 : decode b_LW_law 848 = .ok (.if_icmp .eq 5, 3) := by decide +kernel
theorem d_LW_law_851 : decode b_LW_law 851 = .ok (.iconst 0, 1) := by decide +kernel
theorem d_LW_law_852 : decode b_LW_law 852 = .ok (.ireturn, 1) := by decide +kernel
theorem d_LW_law_853 : decode b_LW_law 853 = .ok (.iload 5, 2) := by decide +kernel
theorem d_LW_law_855 : decode b_LW_law 855 = .ok (.ifCond .ne 15, 3) := by decide +kernel
theorem d_LW_law_858 : decode b_LW_law 858 = .ok (.aload_n 3, 1) := by decide +kernel
theorem d_LW_law_859 : decode b_LW_law 859 = .ok (.iconst 0, 1) := by decide +kernel
theorem d_LW_law_860 : decode b_LW_law 860 = .ok (.laload, 1) := by decide +kernel
theorem d_LW_law_861 : decode b_LW_law 861 = .ok (.iload 6, 2) := by decide +kernel
theorem d_LW_law_863 : decode b_LW_law 863 = .ok (.i2l, 1) := by decide +kernel
theorem d_LW_law_864 : decode b_LW_law 864 = .ok (.lcmp, 1) := by decide +kernel
theorem d_LW_law_865 : decode b_LW_law 865 = .ok (.ifCond .eq 5, 3) := by decide +kernel
theorem d_LW_law_868 : decode b_LW_law 868 = .ok (.iconst 0, 1) := by decide +kernel
theorem d_LW_law_869 : decode b_LW_law 869 = .ok (.ireturn, 1) := by decide +kernel
theorem d_LW_law_870 : decode b_LW_law 870 = .ok (.goto 66, 3) := by decide +kernel
theorem d_LW_law_873 : decode b_LW_law 873 = .ok (.aload_n 1, 1) := by decide +kernel
theorem d_LW_law_874 : decode b_LW_law 874 = .ok (.aload_n 0, 1) := by decide +kernel
theorem d_LW_law_875 : decode b_LW_law 875 = .ok (.iload 4, 2) := by decide +kernel
theorem d_LW_law_877 : decode b_LW_law 877 = .ok (.iconst 1, 1) := by decide +kernel
theorem d_LW_law_878 : decode b_LW_law 878 = .ok (.iadd, 1) := by decide +kernel
theorem d_LW_law_879 : decode b_LW_law 879 = .ok (.iaload, 1) := by decide +kernel
theorem d_LW_law_880 : decode b_LW_law 880 = .ok (.aload_n 3, 1) := by decide +kernel
theorem d_LW_law_881 : decode b_LW_law 881 = .ok (.invokestatic 120, 3) := by decide +kernel
theorem d_LW_law_884 : decode b_LW_law 884 = .ok (.istore 5, 2) := by decide +kernel
theorem d_LW_law_886 : decode b_LW_law 886 = .ok (.aload_n 2, 1) := by decide +kernel
theorem d_LW_law_887 : decode b_LW_law 887 = .ok (.aload_n 0, 1) := by decide +kernel
theorem d_LW_law_888 : decode b_LW_law 888 = .ok (.iload 4, 2) := by decide +kernel
theorem d_LW_law_890 : decode b_LW_law 890 = .ok (.iconst 1, 1) := by decide +kernel
theorem d_LW_law_891 : decode b_LW_law 891 = .ok (.iadd, 1) := by decide +kernel
theorem d_LW_law_892 : decode b_LW_law 892 = .ok (.iaload, 1) := by decide +kernel
theorem d_LW_law_893 : decode b_LW_law 893 = .ok (.invokevirtual 122, 3) := by decide +kernel
theorem d_LW_law_896 : decode b_LW_law 896 = .ok (.istore 6, 2) := by decide +kernel
theorem d_LW_law_898 : decode b_LW_law 898 = .ok (.aload_n 2, 1) := by decide +kernel
theorem d_LW_law_899 : decode b_LW_law 899 = .ok (.invokevirtual 80, 3) := by decide +kernel
theorem d_LW_law_902 : decode b_LW_law 902 = .ok (.iload 5, 2) := by decide +kernel
theorem d_LW_law_904 : decode b_LW_law 904 = .ok (.if_icmp .eq 5, 3) := by decide +kernel
theorem d_LW_law_907 : decode b_LW_law 907 = .ok (.iconst 0, 1) := by decide +kernel
theorem d_LW_law_908 : decode b_LW_law 908 = .ok (.ireturn, 1) := by decide +kernel
theorem d_LW_law_909 : decode b_LW_law 909 = .ok (.iload 5, 2) := by decide +kernel
theorem d_LW_law_911 : decode b_LW_law 911 = .ok (.ifCond .ne 22, 3) := by decide +kernel
theorem d_LW_law_914 : decode b_LW_law 914 = .ok (.aload_n 3, 1) := by decide +kernel
theorem d_LW_law_915 : decode b_LW_law 915 = .ok (.iconst 0, 1) := by decide +kernel
theorem d_LW_law_916 : decode b_LW_law 916 = .ok (.laload, 1) := by decide +kernel
theorem d_LW_law_917 : decode b_LW_law 917 = .ok (.iload 6, 2) := by decide +kernel
theorem d_LW_law_919 : decode b_LW_law 919 = .ok (.ifCond .eq 7, 3) := by decide +kernel
theorem d_LW_law_922 : decode b_LW_law 922 = .ok (.lconst 1, 1) := by decide +kernel
theorem d_LW_law_923 : decode b_LW_law 923 = .ok (.goto 4, 3) := by decide +kernel
theorem d_LW_law_926 : decode b_LW_law 926 = .ok (.lconst 0, 1) := by decide +kernel
theorem d_LW_law_927 : decode b_LW_law 927 = .ok (.lcmp, 1) := by decide +kernel
theorem d_LW_law_928 : decode b_LW_law 928 = .ok (.ifCond .eq 5, 3) := by decide +kernel
theorem d_LW_law_931 : decode b_LW_law 931 = .ok (.iconst 0, 1) := by decide +kernel
theorem d_LW_law_932 : decode b_LW_law 932 = .ok (.ireturn, 1) := by decide +kernel
theorem d_LW_law_933 : decode b_LW_law 933 = .ok (.goto 3, 3) := by decide +kernel
theorem d_LW_law_936 : decode b_LW_law 936 = .ok (.iinc 4 5, 3) := by decide +kernel
theorem d_LW_law_939 : decode b_LW_law 939 = .ok (.goto (-896), 3) := by decide +kernel
theorem d_LW_law_942 : decode b_LW_law 942 = .ok (.iconst 1, 1) := by decide +kernel
theorem d_LW_law_943 : decode b_LW_law 943 = .ok (.ireturn, 1) := by decide +kernel
theorem w_532 : (.methodLink "MarchTestsLaw" 67 y_MT_unit : Cond) ∈ TB := tb_of (List.mem_of_getElem? (i := 306) (by decide +kernel)) rfl
theorem w_533 : (.instanceMethod y_MT_unit : Cond) ∈ TB := tb_of (List.mem_of_getElem? (i := 307) (by decide +kernel)) rfl
theorem w_534 : (.selects "MarchTests" y_MT_unit y_MT_unit : Cond) ∈ TB := tb_of (List.mem_of_getElem? (i := 308) (by decide +kernel)) rfl
theorem w_535 : (.code y_MT_unit b_MT_unit 2 (some .boolean) : Cond) ∈ TB := tb_of (List.mem_of_getElem? (i := 309) (by decide +kernel)) rfl
theorem w_536 : (.methodLink "MarchTestsLaw" 70 y_RF_unit : Cond) ∈ TB := tb_of (List.mem_of_getElem? (i := 843) (by decide +kernel)) rfl
theorem w_537 : (.instanceMethod y_RF_unit : Cond) ∈ TB := tb_of (List.mem_of_getElem? (i := 844) (by decide +kernel)) rfl
theorem w_538 : (.selects "MarchTestsModel" y_RF_unit y_RF_unit : Cond) ∈ TB := tb_of (List.mem_of_getElem? (i := 845) (by decide +kernel)) rfl
theorem w_539 : (.code y_RF_unit b_RF_unit 3 (some .boolean) : Cond) ∈ TB := tb_of (List.mem_of_getElem? (i := 846) (by decide +kernel)) rfl
theorem w_540 : (.methodLink "MarchTestsLaw" 71 y_MT_read : Cond) ∈ TB := tb_of (List.mem_of_getElem? (i := 314) (by decide +kernel)) rfl
theorem w_541 : (.instanceMethod y_MT_read : Cond) ∈ TB := tb_of (List.mem_of_getElem? (i := 315) (by decide +kernel)) rfl
theorem w_542 : (.selects "MarchTests" y_MT_read y_MT_read : Cond) ∈ TB := tb_of (List.mem_of_getElem? (i := 316) (by decide +kernel)) rfl
theorem w_543 : (.code y_MT_read b_MT_read 3 (some .int) : Cond) ∈ TB := tb_of (List.mem_of_getElem? (i := 317) (by decide +kernel)) rfl
theorem w_544 : (.methodLink "MarchTestsLaw" 75 y_RF_read : Cond) ∈ TB := tb_of (List.mem_of_getElem? (i := 847) (by decide +kernel)) rfl
theorem w_545 : (.instanceMethod y_RF_read : Cond) ∈ TB := tb_of (List.mem_of_getElem? (i := 848) (by decide +kernel)) rfl
theorem w_546 : (.selects "MarchTestsModel" y_RF_read y_RF_read : Cond) ∈ TB := tb_of (List.mem_of_getElem? (i := 849) (by decide +kernel)) rfl
theorem w_547 : (.code y_RF_read b_RF_read 7 (some .int) : Cond) ∈ TB := tb_of (List.mem_of_getElem? (i := 850) (by decide +kernel)) rfl
theorem w_548 : (.methodLink "MarchTestsLaw" 76 y_LW_fault : Cond) ∈ TB := tb_of (List.mem_of_getElem? (i := 382) (by decide +kernel)) rfl
theorem w_549 : (.static y_LW_fault : Cond) ∈ TB := tb_of (List.mem_of_getElem? (i := 383) (by decide +kernel)) rfl
theorem w_550 : (.initialized "MarchTestsLaw" : Cond) ∈ TB := tb_of (List.mem_of_getElem? (i := 33) (by decide +kernel)) rfl
theorem w_551 : (.codeWith y_LW_fault b_LW_fault 6 (some .int) hs_LW_fault : Cond) ∈ TB := tb_of (List.mem_of_getElem? (i := 384) (by decide +kernel)) rfl
theorem w_552 : (.methodLink "MarchTestsLaw" 79 y_RF_fault : Cond) ∈ TB := tb_of (List.mem_of_getElem? (i := 907) (by decide +kernel)) rfl
theorem w_553 : (.instanceMethod y_RF_fault : Cond) ∈ TB := tb_of (List.mem_of_getElem? (i := 908) (by decide +kernel)) rfl
theorem w_554 : (.selects "MarchTestsModel" y_RF_fault y_RF_fault : Cond) ∈ TB := tb_of (List.mem_of_getElem? (i := 909) (by decide +kernel)) rfl
theorem w_555 : (.code y_RF_fault b_RF_fault 6 (some .int) : Cond) ∈ TB := tb_of (List.mem_of_getElem? (i := 910) (by decide +kernel)) rfl
theorem w_556 : (.methodLink "MarchTestsLaw" 80 y_RF_thrown : Cond) ∈ TB := tb_of (List.mem_of_getElem? (i := 839) (by decide +kernel)) rfl
theorem w_557 : (.instanceMethod y_RF_thrown : Cond) ∈ TB := tb_of (List.mem_of_getElem? (i := 840) (by decide +kernel)) rfl
theorem w_558 : (.selects "MarchTestsModel" y_RF_thrown y_RF_thrown : Cond) ∈ TB := tb_of (List.mem_of_getElem? (i := 841) (by decide +kernel)) rfl
theorem w_559 : (.code y_RF_thrown b_RF_thrown 1 (some .int) : Cond) ∈ TB := tb_of (List.mem_of_getElem? (i := 842) (by decide +kernel)) rfl
theorem w_560 : (.methodLink "MarchTestsLaw" 83 y_LW_run : Cond) ∈ TB := tb_of (List.mem_of_getElem? (i := 511) (by decide +kernel)) rfl
theorem w_561 : (.static y_LW_run : Cond) ∈ TB := tb_of (List.mem_of_getElem? (i := 512) (by decide +kernel)) rfl
theorem w_562 : (.codeWith y_LW_run b_LW_run 4 (some .int) hs_LW_run : Cond) ∈ TB := tb_of (List.mem_of_getElem? (i := 513) (by decide +kernel)) rfl
theorem w_563 : (.methodLink "MarchTestsLaw" 86 y_RF_run : Cond) ∈ TB := tb_of (List.mem_of_getElem? (i := 859) (by decide +kernel)) rfl
theorem w_564 : (.instanceMethod y_RF_run : Cond) ∈ TB := tb_of (List.mem_of_getElem? (i := 860) (by decide +kernel)) rfl
theorem w_565 : (.selects "MarchTestsModel" y_RF_run y_RF_run : Cond) ∈ TB := tb_of (List.mem_of_getElem? (i := 861) (by decide +kernel)) rfl
theorem w_566 : (.code y_RF_run b_RF_run 2 (some .int) : Cond) ∈ TB := tb_of (List.mem_of_getElem? (i := 862) (by decide +kernel)) rfl
theorem w_567 : (.methodLink "MarchTestsLaw" 87 y_LW_covered : Cond) ∈ TB := tb_of (List.mem_of_getElem? (i := 606) (by decide +kernel)) rfl
theorem w_568 : (.static y_LW_covered : Cond) ∈ TB := tb_of (List.mem_of_getElem? (i := 607) (by decide +kernel)) rfl
theorem w_569 : (.codeWith y_LW_covered b_LW_covered 5 (some .int) hs_LW_covered : Cond) ∈ TB := tb_of (List.mem_of_getElem? (i := 608) (by decide +kernel)) rfl
theorem w_570 : (.methodLink "MarchTestsLaw" 90 y_RF_covered : Cond) ∈ TB := tb_of (List.mem_of_getElem? (i := 903) (by decide +kernel)) rfl
theorem w_571 : (.instanceMethod y_RF_covered : Cond) ∈ TB := tb_of (List.mem_of_getElem? (i := 904) (by decide +kernel)) rfl
theorem w_572 : (.selects "MarchTestsModel" y_RF_covered y_RF_covered : Cond) ∈ TB := tb_of (List.mem_of_getElem? (i := 905) (by decide +kernel)) rfl
theorem w_573 : (.code y_RF_covered b_RF_covered 9 (some .long) : Cond) ∈ TB := tb_of (List.mem_of_getElem? (i := 906) (by decide +kernel)) rfl
theorem w_574 : (.methodLink "MarchTestsLaw" 91 y_LW_machine : Cond) ∈ TB := tb_of (List.mem_of_getElem? (i := 614) (by decide +kernel)) rfl
theorem w_575 : (.static y_LW_machine : Cond) ∈ TB := tb_of (List.mem_of_getElem? (i := 615) (by decide +kernel)) rfl
theorem w_576 : (.codeWith y_LW_machine b_LW_machine 4 (some .int) hs_LW_machine : Cond) ∈ TB := tb_of (List.mem_of_getElem? (i := 616) (by decide +kernel)) rfl
theorem w_577 : (.methodLink "MarchTestsLaw" 93 y_RF_machine : Cond) ∈ TB := tb_of (List.mem_of_getElem? (i := 923) (by decide +kernel)) rfl
theorem w_578 : (.instanceMethod y_RF_machine : Cond) ∈ TB := tb_of (List.mem_of_getElem? (i := 924) (by decide +kernel)) rfl
theorem w_579 : (.selects "MarchTestsModel" y_RF_machine y_RF_machine : Cond) ∈ TB := tb_of (List.mem_of_getElem? (i := 925) (by decide +kernel)) rfl
theorem w_580 : (.code y_RF_machine b_RF_machine 6 (some .int) : Cond) ∈ TB := tb_of (List.mem_of_getElem? (i := 926) (by decide +kernel)) rfl
theorem w_581 : (.methodLink "MarchTestsLaw" 94 y_LW_scramble : Cond) ∈ TB := tb_of (List.mem_of_getElem? (i := 622) (by decide +kernel)) rfl
theorem w_582 : (.static y_LW_scramble : Cond) ∈ TB := tb_of (List.mem_of_getElem? (i := 623) (by decide +kernel)) rfl
theorem w_583 : (.codeWith y_LW_scramble b_LW_scramble 5 (some .int) hs_LW_scramble : Cond) ∈ TB := tb_of (List.mem_of_getElem? (i := 624) (by decide +kernel)) rfl
theorem w_584 : (.methodLink "MarchTestsLaw" 96 y_RF_scramble : Cond) ∈ TB := tb_of (List.mem_of_getElem? (i := 911) (by decide +kernel)) rfl
theorem w_585 : (.instanceMethod y_RF_scramble : Cond) ∈ TB := tb_of (List.mem_of_getElem? (i := 912) (by decide +kernel)) rfl
theorem w_586 : (.selects "MarchTestsModel" y_RF_scramble y_RF_scramble : Cond) ∈ TB := tb_of (List.mem_of_getElem? (i := 913) (by decide +kernel)) rfl
theorem w_587 : (.code y_RF_scramble b_RF_scramble 4 (some .boolean) : Cond) ∈ TB := tb_of (List.mem_of_getElem? (i := 914) (by decide +kernel)) rfl
theorem w_588 : (.methodLink "MarchTestsLaw" 97 y_LW_failing : Cond) ∈ TB := tb_of (List.mem_of_getElem? (i := 638) (by decide +kernel)) rfl
theorem w_589 : (.static y_LW_failing : Cond) ∈ TB := tb_of (List.mem_of_getElem? (i := 639) (by decide +kernel)) rfl
theorem w_590 : (.codeWith y_LW_failing b_LW_failing 5 (some .int) hs_LW_failing : Cond) ∈ TB := tb_of (List.mem_of_getElem? (i := 640) (by decide +kernel)) rfl
theorem w_591 : (.methodLink "MarchTestsLaw" 99 y_RF_failing : Cond) ∈ TB := tb_of (List.mem_of_getElem? (i := 927) (by decide +kernel)) rfl
theorem w_592 : (.instanceMethod y_RF_failing : Cond) ∈ TB := tb_of (List.mem_of_getElem? (i := 928) (by decide +kernel)) rfl
theorem w_593 : (.selects "MarchTestsModel" y_RF_failing y_RF_failing : Cond) ∈ TB := tb_of (List.mem_of_getElem? (i := 929) (by decide +kernel)) rfl
theorem w_594 : (.code y_RF_failing b_RF_failing 4 (some .int) : Cond) ∈ TB := tb_of (List.mem_of_getElem? (i := 930) (by decide +kernel)) rfl
theorem w_595 : (.constantLong "MarchTestsLaw" 100 4294967295 : Cond) ∈ TB := tb_of (List.mem_of_getElem? (i := 957) (by decide +kernel)) rfl
theorem w_596 : (.methodLink "MarchTestsLaw" 102 y_LW_repair : Cond) ∈ TB := tb_of (List.mem_of_getElem? (i := 650) (by decide +kernel)) rfl
theorem w_597 : (.static y_LW_repair : Cond) ∈ TB := tb_of (List.mem_of_getElem? (i := 651) (by decide +kernel)) rfl
theorem w_598 : (.codeWith y_LW_repair b_LW_repair 7 (some .int) hs_LW_repair : Cond) ∈ TB := tb_of (List.mem_of_getElem? (i := 652) (by decide +kernel)) rfl
theorem w_599 : (.methodLink "MarchTestsLaw" 105 y_RF_repair : Cond) ∈ TB := tb_of (List.mem_of_getElem? (i := 931) (by decide +kernel)) rfl
theorem w_600 : (.instanceMethod y_RF_repair : Cond) ∈ TB := tb_of (List.mem_of_getElem? (i := 932) (by decide +kernel)) rfl
theorem w_601 : (.selects "MarchTestsModel" y_RF_repair y_RF_repair : Cond) ∈ TB := tb_of (List.mem_of_getElem? (i := 933) (by decide +kernel)) rfl
theorem w_602 : (.code y_RF_repair b_RF_repair 14 (some .int) : Cond) ∈ TB := tb_of (List.mem_of_getElem? (i := 934) (by decide +kernel)) rfl
theorem w_603 : (.methodLink "MarchTestsLaw" 106 y_LW_spare : Cond) ∈ TB := tb_of (List.mem_of_getElem? (i := 688) (by decide +kernel)) rfl
theorem w_604 : (.static y_LW_spare : Cond) ∈ TB := tb_of (List.mem_of_getElem? (i := 689) (by decide +kernel)) rfl
theorem w_605 : (.codeWith y_LW_spare b_LW_spare 5 (some .int) hs_LW_spare : Cond) ∈ TB := tb_of (List.mem_of_getElem? (i := 690) (by decide +kernel)) rfl
theorem w_606 : (.methodLink "MarchTestsLaw" 108 y_RF_spare : Cond) ∈ TB := tb_of (List.mem_of_getElem? (i := 945) (by decide +kernel)) rfl
theorem w_607 : (.instanceMethod y_RF_spare : Cond) ∈ TB := tb_of (List.mem_of_getElem? (i := 946) (by decide +kernel)) rfl
theorem w_608 : (.selects "MarchTestsModel" y_RF_spare y_RF_spare : Cond) ∈ TB := tb_of (List.mem_of_getElem? (i := 947) (by decide +kernel)) rfl
theorem w_609 : (.code y_RF_spare b_RF_spare 6 (some .int) : Cond) ∈ TB := tb_of (List.mem_of_getElem? (i := 948) (by decide +kernel)) rfl
theorem w_610 : (.methodLink "MarchTestsLaw" 109 y_MT_proved : Cond) ∈ TB := tb_of (List.mem_of_getElem? (i := 375) (by decide +kernel)) rfl
theorem w_611 : (.instanceMethod y_MT_proved : Cond) ∈ TB := tb_of (List.mem_of_getElem? (i := 376) (by decide +kernel)) rfl
theorem w_612 : (.selects "MarchTests" y_MT_proved y_MT_proved : Cond) ∈ TB := tb_of (List.mem_of_getElem? (i := 377) (by decide +kernel)) rfl
theorem w_613 : (.code y_MT_proved b_MT_proved 1 (some .boolean) : Cond) ∈ TB := tb_of (List.mem_of_getElem? (i := 378) (by decide +kernel)) rfl
theorem w_614 : (.methodLink "MarchTestsLaw" 113 y_RF_proved : Cond) ∈ TB := tb_of (List.mem_of_getElem? (i := 949) (by decide +kernel)) rfl
theorem w_615 : (.instanceMethod y_RF_proved : Cond) ∈ TB := tb_of (List.mem_of_getElem? (i := 950) (by decide +kernel)) rfl
theorem w_616 : (.selects "MarchTestsModel" y_RF_proved y_RF_proved : Cond) ∈ TB := tb_of (List.mem_of_getElem? (i := 951) (by decide +kernel)) rfl
theorem w_617 : (.code y_RF_proved b_RF_proved 1 (some .boolean) : Cond) ∈ TB := tb_of (List.mem_of_getElem? (i := 952) (by decide +kernel)) rfl
theorem w_618 : (.methodLink "MarchTestsLaw" 114 y_LW_fuse : Cond) ∈ TB := tb_of (List.mem_of_getElem? (i := 705) (by decide +kernel)) rfl
theorem w_619 : (.static y_LW_fuse : Cond) ∈ TB := tb_of (List.mem_of_getElem? (i := 706) (by decide +kernel)) rfl
theorem w_620 : (.codeWith y_LW_fuse b_LW_fuse 4 (some .int) hs_LW_fuse : Cond) ∈ TB := tb_of (List.mem_of_getElem? (i := 707) (by decide +kernel)) rfl
theorem w_621 : (.methodLink "MarchTestsLaw" 116 y_RF_fuse : Cond) ∈ TB := tb_of (List.mem_of_getElem? (i := 953) (by decide +kernel)) rfl
theorem w_622 : (.instanceMethod y_RF_fuse : Cond) ∈ TB := tb_of (List.mem_of_getElem? (i := 954) (by decide +kernel)) rfl
theorem w_623 : (.selects "MarchTestsModel" y_RF_fuse y_RF_fuse : Cond) ∈ TB := tb_of (List.mem_of_getElem? (i := 955) (by decide +kernel)) rfl
theorem w_624 : (.code y_RF_fuse b_RF_fuse 2 (some .int) : Cond) ∈ TB := tb_of (List.mem_of_getElem? (i := 956) (by decide +kernel)) rfl
theorem w_625 : (.methodLink "MarchTestsLaw" 117 y_LW_port : Cond) ∈ TB := tb_of (List.mem_of_getElem? (i := 714) (by decide +kernel)) rfl
theorem w_626 : (.static y_LW_port : Cond) ∈ TB := tb_of (List.mem_of_getElem? (i := 715) (by decide +kernel)) rfl
theorem w_627 : (.codeWith y_LW_port b_LW_port 4 (some .int) hs_LW_port : Cond) ∈ TB := tb_of (List.mem_of_getElem? (i := 716) (by decide +kernel)) rfl
theorem w_628 : (.methodLink "MarchTestsLaw" 119 y_RF_port : Cond) ∈ TB := tb_of (List.mem_of_getElem? (i := 915) (by decide +kernel)) rfl
theorem w_629 : (.instanceMethod y_RF_port : Cond) ∈ TB := tb_of (List.mem_of_getElem? (i := 916) (by decide +kernel)) rfl
theorem w_630 : (.selects "MarchTestsModel" y_RF_port y_RF_port : Cond) ∈ TB := tb_of (List.mem_of_getElem? (i := 917) (by decide +kernel)) rfl
theorem w_631 : (.code y_RF_port b_RF_port 3 (some .int) : Cond) ∈ TB := tb_of (List.mem_of_getElem? (i := 918) (by decide +kernel)) rfl
theorem w_632 : (.methodLink "MarchTestsLaw" 120 y_LW_ground : Cond) ∈ TB := tb_of (List.mem_of_getElem? (i := 722) (by decide +kernel)) rfl
theorem w_633 : (.static y_LW_ground : Cond) ∈ TB := tb_of (List.mem_of_getElem? (i := 723) (by decide +kernel)) rfl
theorem w_634 : (.codeWith y_LW_ground b_LW_ground 4 (some .int) hs_LW_ground : Cond) ∈ TB := tb_of (List.mem_of_getElem? (i := 724) (by decide +kernel)) rfl
theorem w_635 : (.methodLink "MarchTestsLaw" 122 y_RF_ground : Cond) ∈ TB := tb_of (List.mem_of_getElem? (i := 919) (by decide +kernel)) rfl
theorem w_636 : (.instanceMethod y_RF_ground : Cond) ∈ TB := tb_of (List.mem_of_getElem? (i := 920) (by decide +kernel)) rfl
theorem w_637 : (.selects "MarchTestsModel" y_RF_ground y_RF_ground : Cond) ∈ TB := tb_of (List.mem_of_getElem? (i := 921) (by decide +kernel)) rfl
theorem w_638 : (.code y_RF_ground b_RF_ground 3 (some .boolean) : Cond) ∈ TB := tb_of (List.mem_of_getElem? (i := 922) (by decide +kernel)) rfl
theorem w_639 : (.classLink "MarchTestsLaw" 8 "MarchTests" : Cond) ∈ TB := tb_of (List.mem_of_getElem? (i := 52) (by decide +kernel)) rfl
theorem w_640 : (.instantiable "MarchTests" 10 : Cond) ∈ TB := tb_of (List.mem_of_getElem? (i := 53) (by decide +kernel)) rfl
theorem w_641 : (.methodLink "MarchTestsLaw" 55 y_LW_cell : Cond) ∈ TB := tb_of (List.mem_of_getElem? (i := 379) (by decide +kernel)) rfl
theorem w_642 : (.static y_LW_cell : Cond) ∈ TB := tb_of (List.mem_of_getElem? (i := 380) (by decide +kernel)) rfl
theorem w_643 : (.code y_LW_cell b_LW_cell 2 (some .int) : Cond) ∈ TB := tb_of (List.mem_of_getElem? (i := 381) (by decide +kernel)) rfl
theorem w_644 : (.methodLink "MarchTestsLaw" 61 y_MT_init : Cond) ∈ TB := tb_of (List.mem_of_getElem? (i := 54) (by decide +kernel)) rfl
theorem w_645 : (.instanceMethod y_MT_init : Cond) ∈ TB := tb_of (List.mem_of_getElem? (i := 55) (by decide +kernel)) rfl
theorem w_646 : (.code y_MT_init b_MT_init 4 none : Cond) ∈ TB := tb_of (List.mem_of_getElem? (i := 56) (by decide +kernel)) rfl
theorem w_647 : (.classLink "MarchTestsLaw" 64 "MarchTestsModel" : Cond) ∈ TB := tb_of (List.mem_of_getElem? (i := 730) (by decide +kernel)) rfl
theorem w_648 : (.instantiable "MarchTestsModel" 34 : Cond) ∈ TB := tb_of (List.mem_of_getElem? (i := 731) (by decide +kernel)) rfl
theorem w_649 : (.methodLink "MarchTestsLaw" 66 y_RF_init : Cond) ∈ TB := tb_of (List.mem_of_getElem? (i := 732) (by decide +kernel)) rfl
theorem w_650 : (.instanceMethod y_RF_init : Cond) ∈ TB := tb_of (List.mem_of_getElem? (i := 733) (by decide +kernel)) rfl
theorem w_651 : (.code y_RF_init b_RF_init 4 none : Cond) ∈ TB := tb_of (List.mem_of_getElem? (i := 734) (by decide +kernel)) rfl
theorem w_652 : (.arrayClass .long : Cond) ∈ TB := tb_of (List.mem_of_getElem? (i := 958) (by decide +kernel)) rfl
/-! THE CLAIM OUT OF ONE WALK OF THE LAW'S BODY. Your part is whole_start (and what it stands on); all else here is the same for every law, but numbers. -/
def R_law : String := "MarchTestsLaw"
def lw_P (b : Addr) (xs : List Int32) (args : Array Value) (s : State) : Prop := args = #[.ref b] ∧ s.IntsAt b xs ∧ xs.length ≤ 2562 ∧ (Jvm.Cond.and given_1 narrow_1).before args s = true
def lw_Q (_ : Array Value) (s : State) (o : Outcome) (t : State) : Prop := o = .returned (some (.int 1)) ∧ Framed s o t [] 601024 7293000
def lw_Z (below : List Frame) (a : Array Value) (s : State) : State → Prop := fun t => ∃ o, t.status = .running ∧ Ended t below o ∧ lw_Q a s o t
/-- the law's own end, with 1 on the stack, nothing written that was there before, its room as the claim has it -/
theorem lw_ret {p : Program} {l : Launch} {e : Env} {s : State} {m : MethodId} {below : List Frame} {meth : Method} {c : Code} {b : Nat} (hx : p.tables.exec = Jvm.exec) (hb : c.code = code) (hr : meth.sig.returnType = ret) (hlocks : meth.locks = false) {pc : Nat} {H : Heap} {ls : Array Slot} (hdg : decode code pc = .ok (.ireturn, 1)) : W p l e room_1 s m #[Value.ref b] below meth c H [] 601024 7293000 (lw_Z below #[Value.ref b] s) (F0 m pc ls [.int 1]) := by
  intro T hT X
  obtain ⟨fs, hret, hrun, hended, hW, hframe⟩ := X.leave (v := some (.int 1)) (hlocks := hlocks) (fun h => by rw [hr] at h; cases h)
  have hmeth' : T.vm.method? m = some meth := X.method'
  refine ⟨T.setFrames fs, ?_, .returned (some (.int 1)), hrun, hended, rfl, ⟨_, rfl⟩, hW, hframe⟩
  jvm_step X.here [X.here.top, hx, hb, hdg, hmeth', hr, ret, narrow_b1]
  (try refine ⟨rfl, ?_⟩); (try refine ⟨rfl, ?_⟩)
  first | (intro acts; rw [hret _ acts rfl rfl rfl]) | rw [hret _ _ rfl rfl rfl]
  exact Steps.refl _
/-- what holds at the law's entry: the machine, the code, the tables' words (any of lw_tbl by 'hts w (by decide +kernel)'), the script of L ints xs at the cell b, what the Statement gives of the start (any of its parts by flat_of_before) -/
def lw_At (p : Program) (s : State) (m : MethodId) (meth : Method) (c : Code) (b L : Nat) (xs : Nat → Int32) : Prop :=
  p.tables.exec = Jvm.exec ∧ c.code = code ∧ meth.sig.returnType = ret ∧ c.maxLocals = 8 ∧ s.vm.findClass R_law = some m.cls ∧ (∀ w ∈ lw_tbl, w.before #[Value.ref b] s = true) ∧ va_X b L xs s s.heap ∧ b < s.heap.size ∧ meth.locks = false ∧ (Jvm.Cond.and given_1 narrow_1).before #[Value.ref b] s = true
