theorem dX10_back_0 : decode cX10_back 0 = .ok (.aload_n 0, 1) := by decide +kernel
theorem dX10_back_1 : decode cX10_back 1 = .ok (.iconst 0, 1) := by decide +kernel
theorem dX10_back_2 : decode cX10_back 2 = .ok (.putfield 276, 3) := by decide +kernel
theorem dX10_back_5 : decode cX10_back 5 = .ok (.aload_n 0, 1) := by decide +kernel
theorem dX10_back_6 : decode cX10_back 6 = .ok (.getfield 29, 3) := by decide +kernel
theorem dX10_back_9 : decode cX10_back 9 = .ok (.iconst 4, 1) := by decide +kernel
theorem dX10_back_10 : decode cX10_back 10 = .ok (.baload, 1) := by decide +kernel
theorem dX10_back_11 : decode cX10_back 11 = .ok (.ifCond .eq 19, 3) := by decide +kernel
theorem dX10_back_14 : decode cX10_back 14 = .ok (.iload_n 1, 1) := by decide +kernel
theorem dX10_back_15 : decode cX10_back 15 = .ok (.iconst 0, 1) := by decide +kernel
theorem dX10_back_16 : decode cX10_back 16 = .ok (.aload_n 0, 1) := by decide +kernel
theorem dX10_back_17 : decode cX10_back 17 = .ok (.getfield 78, 3) := by decide +kernel
theorem dX10_back_20 : decode cX10_back 20 = .ok (.iconst 4, 1) := by decide +kernel
theorem dX10_back_21 : decode cX10_back 21 = .ok (.iaload, 1) := by decide +kernel
theorem dX10_back_22 : decode cX10_back 22 = .ok (.iconst 1, 1) := by decide +kernel
theorem dX10_back_23 : decode cX10_back 23 = .ok (.isub, 1) := by decide +kernel
theorem dX10_back_24 : decode cX10_back 24 = .ok (.invokestatic 138, 3) := by decide +kernel
theorem dX10_back_27 : decode cX10_back 27 = .ok (.ifCond .ne 5, 3) := by decide +kernel
theorem dX10_back_30 : decode cX10_back 30 = .ok (.iconst (-1), 1) := by decide +kernel
theorem dX10_back_31 : decode cX10_back 31 = .ok (.ireturn, 1) := by decide +kernel
theorem dX10_back_32 : decode cX10_back 32 = .ok (.aload_n 0, 1) := by decide +kernel
theorem dX10_back_33 : decode cX10_back 33 = .ok (.iconst 4, 1) := by decide +kernel
theorem dX10_back_34 : decode cX10_back 34 = .ok (.iload_n 1, 1) := by decide +kernel
theorem dX10_back_35 : decode cX10_back 35 = .ok (.invokevirtual 292, 3) := by decide +kernel
theorem dX10_back_38 : decode cX10_back 38 = .ok (.aload_n 0, 1) := by decide +kernel
theorem dX10_back_39 : decode cX10_back 39 = .ok (.getfield 276, 3) := by decide +kernel
theorem dX10_back_42 : decode cX10_back 42 = .ok (.istore_n 2, 1) := by decide +kernel
theorem dX10_back_43 : decode cX10_back 43 = .ok (.iconst 0, 1) := by decide +kernel
theorem dX10_back_44 : decode cX10_back 44 = .ok (.istore_n 3, 1) := by decide +kernel
theorem dX10_back_45 : decode cX10_back 45 = .ok (.iload_n 3, 1) := by decide +kernel
theorem dX10_back_46 : decode cX10_back 46 = .ok (.sipush 134, 3) := by decide +kernel
theorem dX10_back_49 : decode cX10_back 49 = .ok (.if_icmp .ge 21, 3) := by decide +kernel
theorem dX10_back_52 : decode cX10_back 52 = .ok (.aload_n 0, 1) := by decide +kernel
theorem dX10_back_53 : decode cX10_back 53 = .ok (.getfield 102, 3) := by decide +kernel
theorem dX10_back_56 : decode cX10_back 56 = .ok (.iload_n 3, 1) := by decide +kernel
theorem dX10_back_57 : decode cX10_back 57 = .ok (.aload_n 0, 1) := by decide +kernel
theorem dX10_back_58 : decode cX10_back 58 = .ok (.getfield 114, 3) := by decide +kernel
theorem dX10_back_61 : decode cX10_back 61 = .ok (.iload_n 3, 1) := by decide +kernel
theorem dX10_back_62 : decode cX10_back 62 = .ok (.iaload, 1) := by decide +kernel
theorem dX10_back_63 : decode cX10_back 63 = .ok (.iastore, 1) := by decide +kernel
theorem dX10_back_64 : decode cX10_back 64 = .ok (.iinc 3 1, 3) := by decide +kernel
theorem dX10_back_67 : decode cX10_back 67 = .ok (.goto (-22), 3) := by decide +kernel
theorem dX10_back_70 : decode cX10_back 70 = .ok (.aload_n 0, 1) := by decide +kernel
theorem dX10_back_71 : decode cX10_back 71 = .ok (.getfield 78, 3) := by decide +kernel
theorem dX10_back_74 : decode cX10_back 74 = .ok (.iconst 4, 1) := by decide +kernel
theorem dX10_back_75 : decode cX10_back 75 = .ok (.iload_n 1, 1) := by decide +kernel
theorem dX10_back_76 : decode cX10_back 76 = .ok (.iastore, 1) := by decide +kernel
theorem dX10_back_77 : decode cX10_back 77 = .ok (.iconst 0, 1) := by decide +kernel
theorem dX10_back_78 : decode cX10_back 78 = .ok (.istore_n 3, 1) := by decide +kernel
theorem dX10_back_79 : decode cX10_back 79 = .ok (.iload_n 3, 1) := by decide +kernel
theorem dX10_back_80 : decode cX10_back 80 = .ok (.aload_n 0, 1) := by decide +kernel
theorem dX10_back_81 : decode cX10_back 81 = .ok (.getfield 60, 3) := by decide +kernel
theorem dX10_back_84 : decode cX10_back 84 = .ok (.iconst 4, 1) := by decide +kernel
theorem dX10_back_85 : decode cX10_back 85 = .ok (.iaload, 1) := by decide +kernel
theorem dX10_back_86 : decode cX10_back 86 = .ok (.if_icmp .ge 46, 3) := by decide +kernel
theorem dX10_back_89 : decode cX10_back 89 = .ok (.aload_n 0, 1) := by decide +kernel
theorem dX10_back_90 : decode cX10_back 90 = .ok (.getfield 45, 3) := by decide +kernel
theorem dX10_back_93 : decode cX10_back 93 = .ok (.sipush 3200, 3) := by decide +kernel
theorem dX10_back_96 : decode cX10_back 96 = .ok (.iload_n 3, 1) := by decide +kernel
theorem dX10_back_97 : decode cX10_back 97 = .ok (.iadd, 1) := by decide +kernel
theorem dX10_back_98 : decode cX10_back 98 = .ok (.iaload, 1) := by decide +kernel
theorem dX10_back_99 : decode cX10_back 99 = .ok (.iload_n 1, 1) := by decide +kernel
theorem dX10_back_100 : decode cX10_back 100 = .ok (.aload_n 0, 1) := by decide +kernel
theorem dX10_back_101 : decode cX10_back 101 = .ok (.getfield 48, 3) := by decide +kernel
theorem dX10_back_104 : decode cX10_back 104 = .ok (.sipush 3200, 3) := by decide +kernel
theorem dX10_back_107 : decode cX10_back 107 = .ok (.iload_n 3, 1) := by decide +kernel
theorem dX10_back_108 : decode cX10_back 108 = .ok (.iadd, 1) := by decide +kernel
theorem dX10_back_109 : decode cX10_back 109 = .ok (.iaload, 1) := by decide +kernel
theorem dX10_back_110 : decode cX10_back 110 = .ok (.iconst 2, 1) := by decide +kernel
theorem dX10_back_111 : decode cX10_back 111 = .ok (.if_icmp .ne 7, 3) := by decide +kernel
theorem dX10_back_114 : decode cX10_back 114 = .ok (.iconst 1, 1) := by decide +kernel
theorem dX10_back_115 : decode cX10_back 115 = .ok (.goto 4, 3) := by decide +kernel
theorem dX10_back_118 : decode cX10_back 118 = .ok (.iconst 0, 1) := by decide +kernel
theorem dX10_back_119 : decode cX10_back 119 = .ok (.invokestatic 154, 3) := by decide +kernel
theorem dX10_back_122 : decode cX10_back 122 = .ok (.iadd, 1) := by decide +kernel
theorem dX10_back_123 : decode cX10_back 123 = .ok (.if_icmp .ge 9, 3) := by decide +kernel
theorem dX10_back_126 : decode cX10_back 126 = .ok (.iinc 3 1, 3) := by decide +kernel
theorem dX10_back_129 : decode cX10_back 129 = .ok (.goto (-50), 3) := by decide +kernel
theorem dX10_back_132 : decode cX10_back 132 = .ok (.iconst 0, 1) := by decide +kernel
theorem dX10_back_133 : decode cX10_back 133 = .ok (.istore 4, 2) := by decide +kernel
theorem dX10_back_135 : decode cX10_back 135 = .ok (.iload_n 3, 1) := by decide +kernel
theorem dX10_back_136 : decode cX10_back 136 = .ok (.istore 5, 2) := by decide +kernel
theorem dX10_back_138 : decode cX10_back 138 = .ok (.iload 5, 2) := by decide +kernel
theorem dX10_back_140 : decode cX10_back 140 = .ok (.aload_n 0, 1) := by decide +kernel
theorem dX10_back_141 : decode cX10_back 141 = .ok (.getfield 60, 3) := by decide +kernel
theorem dX10_back_144 : decode cX10_back 144 = .ok (.iconst 4, 1) := by decide +kernel
theorem dX10_back_145 : decode cX10_back 145 = .ok (.iaload, 1) := by decide +kernel
theorem dX10_back_146 : decode cX10_back 146 = .ok (.if_icmp .ge 36, 3) := by decide +kernel
theorem dX10_back_149 : decode cX10_back 149 = .ok (.iload 4, 2) := by decide +kernel
theorem dX10_back_151 : decode cX10_back 151 = .ok (.aload_n 0, 1) := by decide +kernel
theorem dX10_back_152 : decode cX10_back 152 = .ok (.getfield 48, 3) := by decide +kernel
theorem dX10_back_155 : decode cX10_back 155 = .ok (.sipush 3200, 3) := by decide +kernel
theorem dX10_back_158 : decode cX10_back 158 = .ok (.iload 5, 2) := by decide +kernel
theorem dX10_back_160 : decode cX10_back 160 = .ok (.iadd, 1) := by decide +kernel
theorem dX10_back_161 : decode cX10_back 161 = .ok (.iaload, 1) := by decide +kernel
theorem dX10_back_162 : decode cX10_back 162 = .ok (.ifCond .ne 7, 3) := by decide +kernel
theorem dX10_back_165 : decode cX10_back 165 = .ok (.iconst 1, 1) := by decide +kernel
theorem dX10_back_166 : decode cX10_back 166 = .ok (.goto 4, 3) := by decide +kernel
theorem dX10_back_169 : decode cX10_back 169 = .ok (.iconst 0, 1) := by decide +kernel
theorem dX10_back_170 : decode cX10_back 170 = .ok (.invokestatic 154, 3) := by decide +kernel
theorem dX10_back_173 : decode cX10_back 173 = .ok (.iadd, 1) := by decide +kernel
theorem dX10_back_174 : decode cX10_back 174 = .ok (.istore 4, 2) := by decide +kernel
theorem dX10_back_176 : decode cX10_back 176 = .ok (.iinc 5 1, 3) := by decide +kernel
theorem dX10_back_179 : decode cX10_back 179 = .ok (.goto (-41), 3) := by decide +kernel
theorem dX10_back_182 : decode cX10_back 182 = .ok (.aload_n 0, 1) := by decide +kernel
theorem dX10_back_183 : decode cX10_back 183 = .ok (.getfield 166, 3) := by decide +kernel
theorem dX10_back_186 : decode cX10_back 186 = .ok (.iconst 1, 1) := by decide +kernel
theorem dX10_back_187 : decode cX10_back 187 = .ok (.isub, 1) := by decide +kernel
theorem dX10_back_188 : decode cX10_back 188 = .ok (.istore 5, 2) := by decide +kernel
theorem dX10_back_190 : decode cX10_back 190 = .ok (.iload 5, 2) := by decide +kernel
theorem dX10_back_192 : decode cX10_back 192 = .ok (.ifCond .lt 26, 3) := by decide +kernel
theorem dX10_back_195 : decode cX10_back 195 = .ok (.aload_n 0, 1) := by decide +kernel
theorem dX10_back_196 : decode cX10_back 196 = .ok (.getfield 105, 3) := by decide +kernel
theorem dX10_back_199 : decode cX10_back 199 = .ok (.iload 5, 2) := by decide +kernel
theorem dX10_back_201 : decode cX10_back 201 = .ok (.iload 4, 2) := by decide +kernel
theorem dX10_back_203 : decode cX10_back 203 = .ok (.iadd, 1) := by decide +kernel
theorem dX10_back_204 : decode cX10_back 204 = .ok (.aload_n 0, 1) := by decide +kernel
theorem dX10_back_205 : decode cX10_back 205 = .ok (.getfield 105, 3) := by decide +kernel
theorem dX10_back_208 : decode cX10_back 208 = .ok (.iload 5, 2) := by decide +kernel
theorem dX10_back_210 : decode cX10_back 210 = .ok (.iaload, 1) := by decide +kernel
theorem dX10_back_211 : decode cX10_back 211 = .ok (.iastore, 1) := by decide +kernel
theorem dX10_back_212 : decode cX10_back 212 = .ok (.iinc 5 (-1), 3) := by decide +kernel
theorem dX10_back_215 : decode cX10_back 215 = .ok (.goto (-25), 3) := by decide +kernel
theorem dX10_back_218 : decode cX10_back 218 = .ok (.aload_n 0, 1) := by decide +kernel
theorem dX10_back_219 : decode cX10_back 219 = .ok (.dup, 1) := by decide +kernel
theorem dX10_back_220 : decode cX10_back 220 = .ok (.getfield 166, 3) := by decide +kernel
theorem dX10_back_223 : decode cX10_back 223 = .ok (.iload 4, 2) := by decide +kernel
theorem dX10_back_225 : decode cX10_back 225 = .ok (.iadd, 1) := by decide +kernel
theorem dX10_back_226 : decode cX10_back 226 = .ok (.putfield 166, 3) := by decide +kernel
theorem dX10_back_229 : decode cX10_back 229 = .ok (.iconst 0, 1) := by decide +kernel
theorem dX10_back_230 : decode cX10_back 230 = .ok (.istore 5, 2) := by decide +kernel
theorem dX10_back_232 : decode cX10_back 232 = .ok (.iload_n 3, 1) := by decide +kernel
theorem dX10_back_233 : decode cX10_back 233 = .ok (.istore 6, 2) := by decide +kernel
theorem dX10_back_235 : decode cX10_back 235 = .ok (.iload 6, 2) := by decide +kernel
theorem dX10_back_237 : decode cX10_back 237 = .ok (.aload_n 0, 1) := by decide +kernel
theorem dX10_back_238 : decode cX10_back 238 = .ok (.getfield 60, 3) := by decide +kernel
theorem dX10_back_241 : decode cX10_back 241 = .ok (.iconst 4, 1) := by decide +kernel
theorem dX10_back_242 : decode cX10_back 242 = .ok (.iaload, 1) := by decide +kernel
theorem dX10_back_243 : decode cX10_back 243 = .ok (.if_icmp .ge 47, 3) := by decide +kernel
theorem dX10_back_246 : decode cX10_back 246 = .ok (.aload_n 0, 1) := by decide +kernel
theorem dX10_back_247 : decode cX10_back 247 = .ok (.getfield 48, 3) := by decide +kernel
theorem dX10_back_250 : decode cX10_back 250 = .ok (.sipush 3200, 3) := by decide +kernel
theorem dX10_back_253 : decode cX10_back 253 = .ok (.iload 6, 2) := by decide +kernel
theorem dX10_back_255 : decode cX10_back 255 = .ok (.iadd, 1) := by decide +kernel
theorem dX10_back_256 : decode cX10_back 256 = .ok (.iaload, 1) := by decide +kernel
theorem dX10_back_257 : decode cX10_back 257 = .ok (.ifCond .eq 6, 3) := by decide +kernel
theorem dX10_back_260 : decode cX10_back 260 = .ok (.goto 24, 3) := by decide +kernel
theorem dX10_back_263 : decode cX10_back 263 = .ok (.aload_n 0, 1) := by decide +kernel
theorem dX10_back_264 : decode cX10_back 264 = .ok (.getfield 105, 3) := by decide +kernel
theorem dX10_back_267 : decode cX10_back 267 = .ok (.iload 5, 2) := by decide +kernel
theorem dX10_back_269 : decode cX10_back 269 = .ok (.aload_n 0, 1) := by decide +kernel
theorem dX10_back_270 : decode cX10_back 270 = .ok (.getfield 51, 3) := by decide +kernel
theorem dX10_back_273 : decode cX10_back 273 = .ok (.sipush 3200, 3) := by decide +kernel
theorem dX10_back_276 : decode cX10_back 276 = .ok (.iload 6, 2) := by decide +kernel
theorem dX10_back_278 : decode cX10_back 278 = .ok (.iadd, 1) := by decide +kernel
theorem dX10_back_279 : decode cX10_back 279 = .ok (.iaload, 1) := by decide +kernel
theorem dX10_back_280 : decode cX10_back 280 = .ok (.iastore, 1) := by decide +kernel
theorem dX10_back_281 : decode cX10_back 281 = .ok (.iinc 5 1, 3) := by decide +kernel
theorem dX10_back_284 : decode cX10_back 284 = .ok (.iinc 6 1, 3) := by decide +kernel
theorem dX10_back_287 : decode cX10_back 287 = .ok (.goto (-52), 3) := by decide +kernel
theorem dX10_back_290 : decode cX10_back 290 = .ok (.aload_n 0, 1) := by decide +kernel
theorem dX10_back_291 : decode cX10_back 291 = .ok (.getfield 60, 3) := by decide +kernel
theorem dX10_back_294 : decode cX10_back 294 = .ok (.iconst 4, 1) := by decide +kernel
theorem dX10_back_295 : decode cX10_back 295 = .ok (.iload_n 3, 1) := by decide +kernel
theorem dX10_back_296 : decode cX10_back 296 = .ok (.iastore, 1) := by decide +kernel
theorem dX10_back_297 : decode cX10_back 297 = .ok (.aload_n 0, 1) := by decide +kernel
theorem dX10_back_298 : decode cX10_back 298 = .ok (.getfield 72, 3) := by decide +kernel
theorem dX10_back_301 : decode cX10_back 301 = .ok (.iconst 4, 1) := by decide +kernel
theorem dX10_back_302 : decode cX10_back 302 = .ok (.iaload, 1) := by decide +kernel
theorem dX10_back_303 : decode cX10_back 303 = .ok (.ifCond .le 37, 3) := by decide +kernel
theorem dX10_back_306 : decode cX10_back 306 = .ok (.aload_n 0, 1) := by decide +kernel
theorem dX10_back_307 : decode cX10_back 307 = .ok (.getfield 63, 3) := by decide +kernel
theorem dX10_back_310 : decode cX10_back 310 = .ok (.sipush 400, 3) := by decide +kernel
theorem dX10_back_313 : decode cX10_back 313 = .ok (.aload_n 0, 1) := by decide +kernel
theorem dX10_back_314 : decode cX10_back 314 = .ok (.getfield 72, 3) := by decide +kernel
theorem dX10_back_317 : decode cX10_back 317 = .ok (.iconst 4, 1) := by decide +kernel
theorem dX10_back_318 : decode cX10_back 318 = .ok (.iaload, 1) := by decide +kernel
theorem dX10_back_319 : decode cX10_back 319 = .ok (.iadd, 1) := by decide +kernel
theorem dX10_back_320 : decode cX10_back 320 = .ok (.iconst 1, 1) := by decide +kernel
theorem dX10_back_321 : decode cX10_back 321 = .ok (.isub, 1) := by decide +kernel
theorem dX10_back_322 : decode cX10_back 322 = .ok (.iaload, 1) := by decide +kernel
theorem dX10_back_323 : decode cX10_back 323 = .ok (.iload_n 1, 1) := by decide +kernel
theorem dX10_back_324 : decode cX10_back 324 = .ok (.if_icmp .lt 16, 3) := by decide +kernel
theorem dX10_back_327 : decode cX10_back 327 = .ok (.aload_n 0, 1) := by decide +kernel
theorem dX10_back_328 : decode cX10_back 328 = .ok (.getfield 72, 3) := by decide +kernel
theorem dX10_back_331 : decode cX10_back 331 = .ok (.iconst 4, 1) := by decide +kernel
theorem dX10_back_332 : decode cX10_back 332 = .ok (.dup2, 1) := by decide +kernel
theorem dX10_back_333 : decode cX10_back 333 = .ok (.iaload, 1) := by decide +kernel
theorem dX10_back_334 : decode cX10_back 334 = .ok (.iconst 1, 1) := by decide +kernel
theorem dX10_back_335 : decode cX10_back 335 = .ok (.isub, 1) := by decide +kernel
theorem dX10_back_336 : decode cX10_back 336 = .ok (.iastore, 1) := by decide +kernel
theorem dX10_back_337 : decode cX10_back 337 = .ok (.goto (-40), 3) := by decide +kernel
theorem dX10_back_340 : decode cX10_back 340 = .ok (.iconst 1, 1) := by decide +kernel
theorem dX10_back_341 : decode cX10_back 341 = .ok (.istore 6, 2) := by decide +kernel
theorem dX10_back_343 : decode cX10_back 343 = .ok (.iload 6, 2) := by decide +kernel
theorem dX10_back_345 : decode cX10_back 345 = .ok (.sipush 3000, 3) := by decide +kernel
theorem dX10_back_348 : decode cX10_back 348 = .ok (.if_icmp .gt 34, 3) := by decide +kernel
theorem dX10_back_351 : decode cX10_back 351 = .ok (.iload 6, 2) := by decide +kernel
theorem dX10_back_353 : decode cX10_back 353 = .ok (.aload_n 0, 1) := by decide +kernel
theorem dX10_back_354 : decode cX10_back 354 = .ok (.getfield 84, 3) := by decide +kernel
theorem dX10_back_357 : decode cX10_back 357 = .ok (.iconst 4, 1) := by decide +kernel
theorem dX10_back_358 : decode cX10_back 358 = .ok (.iaload, 1) := by decide +kernel
theorem dX10_back_359 : decode cX10_back 359 = .ok (.imul, 1) := by decide +kernel
theorem dX10_back_360 : decode cX10_back 360 = .ok (.iload_n 1, 1) := by decide +kernel
theorem dX10_back_361 : decode cX10_back 361 = .ok (.if_icmp .le 15, 3) := by decide +kernel
theorem dX10_back_364 : decode cX10_back 364 = .ok (.aload_n 0, 1) := by decide +kernel
theorem dX10_back_365 : decode cX10_back 365 = .ok (.getfield 75, 3) := by decide +kernel
theorem dX10_back_368 : decode cX10_back 368 = .ok (.iconst 4, 1) := by decide +kernel
theorem dX10_back_369 : decode cX10_back 369 = .ok (.iload 6, 2) := by decide +kernel
theorem dX10_back_371 : decode cX10_back 371 = .ok (.invokestatic 158, 3) := by decide +kernel
theorem dX10_back_374 : decode cX10_back 374 = .ok (.iconst 0, 1) := by decide +kernel
theorem dX10_back_375 : decode cX10_back 375 = .ok (.bastore, 1) := by decide +kernel
theorem dX10_back_376 : decode cX10_back 376 = .ok (.iinc 6 1, 3) := by decide +kernel
theorem dX10_back_379 : decode cX10_back 379 = .ok (.goto (-36), 3) := by decide +kernel
theorem dX10_back_382 : decode cX10_back 382 = .ok (.aload_n 0, 1) := by decide +kernel
theorem dX10_back_383 : decode cX10_back 383 = .ok (.getfield 96, 3) := by decide +kernel
theorem dX10_back_386 : decode cX10_back 386 = .ok (.iconst 4, 1) := by decide +kernel
theorem dX10_back_387 : decode cX10_back 387 = .ok (.dup2, 1) := by decide +kernel
theorem dX10_back_388 : decode cX10_back 388 = .ok (.iaload, 1) := by decide +kernel
theorem dX10_back_389 : decode cX10_back 389 = .ok (.iconst 1, 1) := by decide +kernel
theorem dX10_back_390 : decode cX10_back 390 = .ok (.iadd, 1) := by decide +kernel
theorem dX10_back_391 : decode cX10_back 391 = .ok (.iastore, 1) := by decide +kernel
theorem dX10_back_392 : decode cX10_back 392 = .ok (.aload_n 0, 1) := by decide +kernel
theorem dX10_back_393 : decode cX10_back 393 = .ok (.iconst (-1), 1) := by decide +kernel
theorem dX10_back_394 : decode cX10_back 394 = .ok (.putfield 117, 3) := by decide +kernel
theorem dX10_back_397 : decode cX10_back 397 = .ok (.iload_n 2, 1) := by decide +kernel
theorem dX10_back_398 : decode cX10_back 398 = .ok (.ireturn, 1) := by decide +kernel
theorem dX10_counts_0 : decode cX10_counts 0 = .ok (.aload_n 0, 1) := by decide +kernel
theorem dX10_counts_1 : decode cX10_counts 1 = .ok (.getfield 90, 3) := by decide +kernel
theorem dX10_counts_4 : decode cX10_counts 4 = .ok (.iload_n 1, 1) := by decide +kernel
theorem dX10_counts_5 : decode cX10_counts 5 = .ok (.dup2, 1) := by decide +kernel
theorem dX10_counts_6 : decode cX10_counts 6 = .ok (.iaload, 1) := by decide +kernel
theorem dX10_counts_7 : decode cX10_counts 7 = .ok (.iload_n 2, 1) := by decide +kernel
theorem dX10_counts_8 : decode cX10_counts 8 = .ok (.iadd, 1) := by decide +kernel
theorem dX10_counts_9 : decode cX10_counts 9 = .ok (.iastore, 1) := by decide +kernel
theorem dX10_counts_10 : decode cX10_counts 10 = .ok (.aload_n 0, 1) := by decide +kernel
theorem dX10_counts_11 : decode cX10_counts 11 = .ok (.dup, 1) := by decide +kernel
theorem dX10_counts_12 : decode cX10_counts 12 = .ok (.getfield 276, 3) := by decide +kernel
theorem dX10_counts_15 : decode cX10_counts 15 = .ok (.iload_n 2, 1) := by decide +kernel
theorem dX10_counts_16 : decode cX10_counts 16 = .ok (.iadd, 1) := by decide +kernel
theorem dX10_counts_17 : decode cX10_counts 17 = .ok (.putfield 276, 3) := by decide +kernel
theorem dX10_counts_20 : decode cX10_counts 20 = .ok (.return_, 1) := by decide +kernel
theorem dX10_heldBy_0 : decode cX10_heldBy 0 = .ok (.iload_n 2, 1) := by decide +kernel
theorem dX10_heldBy_1 : decode cX10_heldBy 1 = .ok (.aload_n 0, 1) := by decide +kernel
theorem dX10_heldBy_2 : decode cX10_heldBy 2 = .ok (.getfield 84, 3) := by decide +kernel
theorem dX10_heldBy_5 : decode cX10_heldBy 5 = .ok (.iload_n 1, 1) := by decide +kernel
theorem dX10_heldBy_6 : decode cX10_heldBy 6 = .ok (.iaload, 1) := by decide +kernel
theorem dX10_heldBy_7 : decode cX10_heldBy 7 = .ok (.idiv, 1) := by decide +kernel
theorem dX10_heldBy_8 : decode cX10_heldBy 8 = .ok (.istore_n 3, 1) := by decide +kernel
theorem dX10_heldBy_9 : decode cX10_heldBy 9 = .ok (.aload_n 0, 1) := by decide +kernel
theorem dX10_heldBy_10 : decode cX10_heldBy 10 = .ok (.getfield 75, 3) := by decide +kernel
theorem dX10_heldBy_13 : decode cX10_heldBy 13 = .ok (.iload_n 1, 1) := by decide +kernel
theorem dX10_heldBy_14 : decode cX10_heldBy 14 = .ok (.iload_n 3, 1) := by decide +kernel
theorem dX10_heldBy_15 : decode cX10_heldBy 15 = .ok (.invokestatic 158, 3) := by decide +kernel
theorem dX10_heldBy_18 : decode cX10_heldBy 18 = .ok (.baload, 1) := by decide +kernel
theorem dX10_heldBy_19 : decode cX10_heldBy 19 = .ok (.ifCond .ne 9, 3) := by decide +kernel
theorem dX10_heldBy_22 : decode cX10_heldBy 22 = .ok (.iinc 3 (-1), 3) := by decide +kernel
theorem dX10_heldBy_25 : decode cX10_heldBy 25 = .ok (.goto (-16), 3) := by decide +kernel
theorem dX10_heldBy_28 : decode cX10_heldBy 28 = .ok (.iload_n 3, 1) := by decide +kernel
theorem dX10_heldBy_29 : decode cX10_heldBy 29 = .ok (.aload_n 0, 1) := by decide +kernel
theorem dX10_heldBy_30 : decode cX10_heldBy 30 = .ok (.getfield 84, 3) := by decide +kernel
theorem dX10_heldBy_33 : decode cX10_heldBy 33 = .ok (.iload_n 1, 1) := by decide +kernel
theorem dX10_heldBy_34 : decode cX10_heldBy 34 = .ok (.iaload, 1) := by decide +kernel
theorem dX10_heldBy_35 : decode cX10_heldBy 35 = .ok (.imul, 1) := by decide +kernel
theorem dX10_heldBy_36 : decode cX10_heldBy 36 = .ok (.ireturn, 1) := by decide +kernel
theorem dX10_isTime_0 : decode cX10_isTime 0 = .ok (.aload_n 0, 1) := by decide +kernel
theorem dX10_isTime_1 : decode cX10_isTime 1 = .ok (.invokevirtual 289, 3) := by decide +kernel
theorem dX10_isTime_4 : decode cX10_isTime 4 = .ok (.istore_n 2, 1) := by decide +kernel
theorem dX10_isTime_5 : decode cX10_isTime 5 = .ok (.aload_n 0, 1) := by decide +kernel
theorem dX10_isTime_6 : decode cX10_isTime 6 = .ok (.getfield 29, 3) := by decide +kernel
theorem dX10_isTime_9 : decode cX10_isTime 9 = .ok (.iload_n 2, 1) := by decide +kernel
theorem dX10_isTime_10 : decode cX10_isTime 10 = .ok (.baload, 1) := by decide +kernel
theorem dX10_isTime_11 : decode cX10_isTime 11 = .ok (.ifCond .eq 21, 3) := by decide +kernel
theorem dX10_isTime_14 : decode cX10_isTime 14 = .ok (.iload_n 1, 1) := by decide +kernel
theorem dX10_isTime_15 : decode cX10_isTime 15 = .ok (.iconst 0, 1) := by decide +kernel
theorem dX10_isTime_16 : decode cX10_isTime 16 = .ok (.aload_n 0, 1) := by decide +kernel
theorem dX10_isTime_17 : decode cX10_isTime 17 = .ok (.getfield 78, 3) := by decide +kernel
theorem dX10_isTime_20 : decode cX10_isTime 20 = .ok (.iload_n 2, 1) := by decide +kernel
theorem dX10_isTime_21 : decode cX10_isTime 21 = .ok (.iaload, 1) := by decide +kernel
theorem dX10_isTime_22 : decode cX10_isTime 22 = .ok (.invokestatic 138, 3) := by decide +kernel
theorem dX10_isTime_25 : decode cX10_isTime 25 = .ok (.ifCond .eq 7, 3) := by decide +kernel
theorem dX10_isTime_28 : decode cX10_isTime 28 = .ok (.iconst 1, 1) := by decide +kernel
theorem dX10_isTime_29 : decode cX10_isTime 29 = .ok (.goto 4, 3) := by decide +kernel
theorem dX10_isTime_32 : decode cX10_isTime 32 = .ok (.iconst 0, 1) := by decide +kernel
theorem dX10_isTime_33 : decode cX10_isTime 33 = .ok (.ireturn, 1) := by decide +kernel
theorem dX10_lays_0 : decode cX10_lays 0 = .ok (.aload_n 0, 1) := by decide +kernel
theorem dX10_lays_1 : decode cX10_lays 1 = .ok (.getfield 117, 3) := by decide +kernel
theorem dX10_lays_4 : decode cX10_lays 4 = .ok (.iload_n 1, 1) := by decide +kernel
theorem dX10_lays_5 : decode cX10_lays 5 = .ok (.if_icmp .ne 15, 3) := by decide +kernel
theorem dX10_lays_8 : decode cX10_lays 8 = .ok (.aload_n 0, 1) := by decide +kernel
theorem dX10_lays_9 : decode cX10_lays 9 = .ok (.getfield 114, 3) := by decide +kernel
theorem dX10_lays_12 : decode cX10_lays 12 = .ok (.sipush 133, 3) := by decide +kernel
theorem dX10_lays_15 : decode cX10_lays 15 = .ok (.iaload, 1) := by decide +kernel
theorem dX10_lays_16 : decode cX10_lays 16 = .ok (.iload_n 2, 1) := by decide +kernel
theorem dX10_lays_17 : decode cX10_lays 17 = .ok (.if_icmp .le 8, 3) := by decide +kernel
theorem dX10_lays_20 : decode cX10_lays 20 = .ok (.aload_n 0, 1) := by decide +kernel
theorem dX10_lays_21 : decode cX10_lays 21 = .ok (.iload_n 1, 1) := by decide +kernel
theorem dX10_lays_22 : decode cX10_lays 22 = .ok (.invokevirtual 270, 3) := by decide +kernel
theorem dX10_lays_25 : decode cX10_lays 25 = .ok (.aload_n 0, 1) := by decide +kernel
theorem dX10_lays_26 : decode cX10_lays 26 = .ok (.getfield 114, 3) := by decide +kernel
theorem dX10_lays_29 : decode cX10_lays 29 = .ok (.sipush 133, 3) := by decide +kernel
theorem dX10_lays_32 : decode cX10_lays 32 = .ok (.iaload, 1) := by decide +kernel
theorem dX10_lays_33 : decode cX10_lays 33 = .ok (.iload_n 2, 1) := by decide +kernel
theorem dX10_lays_34 : decode cX10_lays 34 = .ok (.if_icmp .ge 10, 3) := by decide +kernel
theorem dX10_lays_37 : decode cX10_lays 37 = .ok (.aload_n 0, 1) := by decide +kernel
theorem dX10_lays_38 : decode cX10_lays 38 = .ok (.invokevirtual 273, 3) := by decide +kernel
theorem dX10_lays_41 : decode cX10_lays 41 = .ok (.goto (-16), 3) := by decide +kernel
theorem dX10_lays_44 : decode cX10_lays 44 = .ok (.return_, 1) := by decide +kernel
theorem dX10_replays_0 : decode cX10_replays 0 = .ok (.iload_n 2, 1) := by decide +kernel
theorem dX10_replays_1 : decode cX10_replays 1 = .ok (.aload_n 0, 1) := by decide +kernel
theorem dX10_replays_2 : decode cX10_replays 2 = .ok (.getfield 78, 3) := by decide +kernel
theorem dX10_replays_5 : decode cX10_replays 5 = .ok (.iload_n 1, 1) := by decide +kernel
theorem dX10_replays_6 : decode cX10_replays 6 = .ok (.iaload, 1) := by decide +kernel
theorem dX10_replays_7 : decode cX10_replays 7 = .ok (.if_icmp .eq 16, 3) := by decide +kernel
theorem dX10_replays_10 : decode cX10_replays 10 = .ok (.aload_n 0, 1) := by decide +kernel
theorem dX10_replays_11 : decode cX10_replays 11 = .ok (.iload_n 1, 1) := by decide +kernel
theorem dX10_replays_12 : decode cX10_replays 12 = .ok (.iload_n 2, 1) := by decide +kernel
theorem dX10_replays_13 : decode cX10_replays 13 = .ok (.aload_n 0, 1) := by decide +kernel
theorem dX10_replays_14 : decode cX10_replays 14 = .ok (.iload_n 1, 1) := by decide +kernel
theorem dX10_replays_15 : decode cX10_replays 15 = .ok (.iload_n 2, 1) := by decide +kernel
theorem dX10_replays_16 : decode cX10_replays 16 = .ok (.invokevirtual 279, 3) := by decide +kernel
theorem dX10_replays_19 : decode cX10_replays 19 = .ok (.isub, 1) := by decide +kernel
theorem dX10_replays_20 : decode cX10_replays 20 = .ok (.invokevirtual 282, 3) := by decide +kernel
theorem dX10_replays_23 : decode cX10_replays 23 = .ok (.aload_n 0, 1) := by decide +kernel
theorem dX10_replays_24 : decode cX10_replays 24 = .ok (.iload_n 1, 1) := by decide +kernel
theorem dX10_replays_25 : decode cX10_replays 25 = .ok (.iload_n 2, 1) := by decide +kernel
theorem dX10_replays_26 : decode cX10_replays 26 = .ok (.invokevirtual 286, 3) := by decide +kernel
theorem dX10_replays_29 : decode cX10_replays 29 = .ok (.return_, 1) := by decide +kernel
theorem dX10_runAsked_0 : decode cX10_runAsked 0 = .ok (.aload_n 0, 1) := by decide +kernel
theorem dX10_runAsked_1 : decode cX10_runAsked 1 = .ok (.getfield 99, 3) := by decide +kernel
theorem dX10_runAsked_4 : decode cX10_runAsked 4 = .ok (.iconst (-1), 1) := by decide +kernel
theorem dX10_runAsked_5 : decode cX10_runAsked 5 = .ok (.if_icmp .ne 7, 3) := by decide +kernel
theorem dX10_runAsked_8 : decode cX10_runAsked 8 = .ok (.iconst 4, 1) := by decide +kernel
theorem dX10_runAsked_9 : decode cX10_runAsked 9 = .ok (.goto 7, 3) := by decide +kernel
theorem dX10_runAsked_12 : decode cX10_runAsked 12 = .ok (.aload_n 0, 1) := by decide +kernel
theorem dX10_runAsked_13 : decode cX10_runAsked 13 = .ok (.getfield 99, 3) := by decide +kernel
theorem dX10_runAsked_16 : decode cX10_runAsked 16 = .ok (.ireturn, 1) := by decide +kernel
theorem dX10_simBegins_0 : decode cX10_simBegins 0 = .ok (.aload_n 0, 1) := by decide +kernel
theorem dX10_simBegins_1 : decode cX10_simBegins 1 = .ok (.iload_n 1, 1) := by decide +kernel
theorem dX10_simBegins_2 : decode cX10_simBegins 2 = .ok (.putfield 117, 3) := by decide +kernel
theorem dX10_simBegins_5 : decode cX10_simBegins 5 = .ok (.aload_n 0, 1) := by decide +kernel
theorem dX10_simBegins_6 : decode cX10_simBegins 6 = .ok (.iconst 0, 1) := by decide +kernel
theorem dX10_simBegins_7 : decode cX10_simBegins 7 = .ok (.putfield 264, 3) := by decide +kernel
theorem dX10_simBegins_10 : decode cX10_simBegins 10 = .ok (.aload_n 0, 1) := by decide +kernel
theorem dX10_simBegins_11 : decode cX10_simBegins 11 = .ok (.aload_n 0, 1) := by decide +kernel
theorem dX10_simBegins_12 : decode cX10_simBegins 12 = .ok (.getfield 114, 3) := by decide +kernel
theorem dX10_simBegins_15 : decode cX10_simBegins 15 = .ok (.invokevirtual 162, 3) := by decide +kernel
theorem dX10_simBegins_18 : decode cX10_simBegins 18 = .ok (.aload_n 0, 1) := by decide +kernel
theorem dX10_simBegins_19 : decode cX10_simBegins 19 = .ok (.invokevirtual 267, 3) := by decide +kernel
theorem dX10_simBegins_22 : decode cX10_simBegins 22 = .ok (.return_, 1) := by decide +kernel
theorem dX10_simPokes_0 : decode cX10_simPokes 0 = .ok (.aload_n 0, 1) := by decide +kernel
theorem dX10_simPokes_1 : decode cX10_simPokes 1 = .ok (.getfield 264, 3) := by decide +kernel
theorem dX10_simPokes_4 : decode cX10_simPokes 4 = .ok (.aload_n 0, 1) := by decide +kernel
theorem dX10_simPokes_5 : decode cX10_simPokes 5 = .ok (.getfield 60, 3) := by decide +kernel
theorem dX10_simPokes_8 : decode cX10_simPokes 8 = .ok (.aload_n 0, 1) := by decide +kernel
theorem dX10_simPokes_9 : decode cX10_simPokes 9 = .ok (.getfield 117, 3) := by decide +kernel
theorem dX10_simPokes_12 : decode cX10_simPokes 12 = .ok (.iaload, 1) := by decide +kernel
theorem dX10_simPokes_13 : decode cX10_simPokes 13 = .ok (.if_icmp .ge 106, 3) := by decide +kernel
theorem dX10_simPokes_16 : decode cX10_simPokes 16 = .ok (.aload_n 0, 1) := by decide +kernel
theorem dX10_simPokes_17 : decode cX10_simPokes 17 = .ok (.getfield 48, 3) := by decide +kernel
theorem dX10_simPokes_20 : decode cX10_simPokes 20 = .ok (.sipush 800, 3) := by decide +kernel
theorem dX10_simPokes_23 : decode cX10_simPokes 23 = .ok (.aload_n 0, 1) := by decide +kernel
theorem dX10_simPokes_24 : decode cX10_simPokes 24 = .ok (.getfield 117, 3) := by decide +kernel
theorem dX10_simPokes_27 : decode cX10_simPokes 27 = .ok (.imul, 1) := by decide +kernel
theorem dX10_simPokes_28 : decode cX10_simPokes 28 = .ok (.aload_n 0, 1) := by decide +kernel
theorem dX10_simPokes_29 : decode cX10_simPokes 29 = .ok (.getfield 264, 3) := by decide +kernel
theorem dX10_simPokes_32 : decode cX10_simPokes 32 = .ok (.iadd, 1) := by decide +kernel
theorem dX10_simPokes_33 : decode cX10_simPokes 33 = .ok (.iaload, 1) := by decide +kernel
theorem dX10_simPokes_34 : decode cX10_simPokes 34 = .ok (.iconst 2, 1) := by decide +kernel
theorem dX10_simPokes_35 : decode cX10_simPokes 35 = .ok (.if_icmp .ne 84, 3) := by decide +kernel
theorem dX10_simPokes_38 : decode cX10_simPokes 38 = .ok (.aload_n 0, 1) := by decide +kernel
theorem dX10_simPokes_39 : decode cX10_simPokes 39 = .ok (.getfield 45, 3) := by decide +kernel
theorem dX10_simPokes_42 : decode cX10_simPokes 42 = .ok (.sipush 800, 3) := by decide +kernel
theorem dX10_simPokes_45 : decode cX10_simPokes 45 = .ok (.aload_n 0, 1) := by decide +kernel
theorem dX10_simPokes_46 : decode cX10_simPokes 46 = .ok (.getfield 117, 3) := by decide +kernel
theorem dX10_simPokes_49 : decode cX10_simPokes 49 = .ok (.imul, 1) := by decide +kernel
theorem dX10_simPokes_50 : decode cX10_simPokes 50 = .ok (.aload_n 0, 1) := by decide +kernel
theorem dX10_simPokes_51 : decode cX10_simPokes 51 = .ok (.getfield 264, 3) := by decide +kernel
theorem dX10_simPokes_54 : decode cX10_simPokes 54 = .ok (.iadd, 1) := by decide +kernel
theorem dX10_simPokes_55 : decode cX10_simPokes 55 = .ok (.iaload, 1) := by decide +kernel
theorem dX10_simPokes_56 : decode cX10_simPokes 56 = .ok (.aload_n 0, 1) := by decide +kernel
theorem dX10_simPokes_57 : decode cX10_simPokes 57 = .ok (.getfield 114, 3) := by decide +kernel
theorem dX10_simPokes_60 : decode cX10_simPokes 60 = .ok (.sipush 133, 3) := by decide +kernel
theorem dX10_simPokes_63 : decode cX10_simPokes 63 = .ok (.iaload, 1) := by decide +kernel
theorem dX10_simPokes_64 : decode cX10_simPokes 64 = .ok (.if_icmp .ne 55, 3) := by decide +kernel
theorem dX10_simPokes_67 : decode cX10_simPokes 67 = .ok (.sipush 800, 3) := by decide +kernel
theorem dX10_simPokes_70 : decode cX10_simPokes 70 = .ok (.aload_n 0, 1) := by decide +kernel
theorem dX10_simPokes_71 : decode cX10_simPokes 71 = .ok (.getfield 117, 3) := by decide +kernel
theorem dX10_simPokes_74 : decode cX10_simPokes 74 = .ok (.imul, 1) := by decide +kernel
theorem dX10_simPokes_75 : decode cX10_simPokes 75 = .ok (.aload_n 0, 1) := by decide +kernel
theorem dX10_simPokes_76 : decode cX10_simPokes 76 = .ok (.getfield 264, 3) := by decide +kernel
theorem dX10_simPokes_79 : decode cX10_simPokes 79 = .ok (.iadd, 1) := by decide +kernel
theorem dX10_simPokes_80 : decode cX10_simPokes 80 = .ok (.istore_n 1, 1) := by decide +kernel
theorem dX10_simPokes_81 : decode cX10_simPokes 81 = .ok (.aload_n 0, 1) := by decide +kernel
theorem dX10_simPokes_82 : decode cX10_simPokes 82 = .ok (.getfield 114, 3) := by decide +kernel
theorem dX10_simPokes_85 : decode cX10_simPokes 85 = .ok (.aload_n 0, 1) := by decide +kernel
theorem dX10_simPokes_86 : decode cX10_simPokes 86 = .ok (.getfield 54, 3) := by decide +kernel
theorem dX10_simPokes_89 : decode cX10_simPokes 89 = .ok (.iload_n 1, 1) := by decide +kernel
theorem dX10_simPokes_90 : decode cX10_simPokes 90 = .ok (.iaload, 1) := by decide +kernel
theorem dX10_simPokes_91 : decode cX10_simPokes 91 = .ok (.aload_n 0, 1) := by decide +kernel
theorem dX10_simPokes_92 : decode cX10_simPokes 92 = .ok (.getfield 57, 3) := by decide +kernel
theorem dX10_simPokes_95 : decode cX10_simPokes 95 = .ok (.iload_n 1, 1) := by decide +kernel
theorem dX10_simPokes_96 : decode cX10_simPokes 96 = .ok (.iaload, 1) := by decide +kernel
theorem dX10_simPokes_97 : decode cX10_simPokes 97 = .ok (.aload_n 0, 1) := by decide +kernel
theorem dX10_simPokes_98 : decode cX10_simPokes 98 = .ok (.getfield 51, 3) := by decide +kernel
theorem dX10_simPokes_101 : decode cX10_simPokes 101 = .ok (.iload_n 1, 1) := by decide +kernel
theorem dX10_simPokes_102 : decode cX10_simPokes 102 = .ok (.iaload, 1) := by decide +kernel
theorem dX10_simPokes_103 : decode cX10_simPokes 103 = .ok (.invokestatic 179, 3) := by decide +kernel
theorem dX10_simPokes_106 : decode cX10_simPokes 106 = .ok (.aload_n 0, 1) := by decide +kernel
theorem dX10_simPokes_107 : decode cX10_simPokes 107 = .ok (.dup, 1) := by decide +kernel
theorem dX10_simPokes_108 : decode cX10_simPokes 108 = .ok (.getfield 264, 3) := by decide +kernel
theorem dX10_simPokes_111 : decode cX10_simPokes 111 = .ok (.iconst 1, 1) := by decide +kernel
theorem dX10_simPokes_112 : decode cX10_simPokes 112 = .ok (.iadd, 1) := by decide +kernel
theorem dX10_simPokes_113 : decode cX10_simPokes 113 = .ok (.putfield 264, 3) := by decide +kernel
theorem dX10_simPokes_116 : decode cX10_simPokes 116 = .ok (.goto (-116), 3) := by decide +kernel
theorem dX10_simPokes_119 : decode cX10_simPokes 119 = .ok (.return_, 1) := by decide +kernel
theorem dX10_simStep_0 : decode cX10_simStep 0 = .ok (.aload_n 0, 1) := by decide +kernel
theorem dX10_simStep_1 : decode cX10_simStep 1 = .ok (.aload_n 0, 1) := by decide +kernel
theorem dX10_simStep_2 : decode cX10_simStep 2 = .ok (.getfield 114, 3) := by decide +kernel
theorem dX10_simStep_5 : decode cX10_simStep 5 = .ok (.aload_n 0, 1) := by decide +kernel
theorem dX10_simStep_6 : decode cX10_simStep 6 = .ok (.getfield 117, 3) := by decide +kernel
theorem dX10_simStep_9 : decode cX10_simStep 9 = .ok (.aload_n 0, 1) := by decide +kernel
theorem dX10_simStep_10 : decode cX10_simStep 10 = .ok (.getfield 264, 3) := by decide +kernel
theorem dX10_simStep_13 : decode cX10_simStep 13 = .ok (.invokevirtual 247, 3) := by decide +kernel
theorem dX10_simStep_16 : decode cX10_simStep 16 = .ok (.aload_n 0, 1) := by decide +kernel
theorem dX10_simStep_17 : decode cX10_simStep 17 = .ok (.getfield 192, 3) := by decide +kernel
theorem dX10_simStep_20 : decode cX10_simStep 20 = .ok (.iconst (-1), 1) := by decide +kernel
theorem dX10_simStep_21 : decode cX10_simStep 21 = .ok (.if_icmp .eq 13, 3) := by decide +kernel
theorem dX10_simStep_24 : decode cX10_simStep 24 = .ok (.aload_n 0, 1) := by decide +kernel
theorem dX10_simStep_25 : decode cX10_simStep 25 = .ok (.dup, 1) := by decide +kernel
theorem dX10_simStep_26 : decode cX10_simStep 26 = .ok (.getfield 264, 3) := by decide +kernel
theorem dX10_simStep_29 : decode cX10_simStep 29 = .ok (.iconst 1, 1) := by decide +kernel
theorem dX10_simStep_30 : decode cX10_simStep 30 = .ok (.iadd, 1) := by decide +kernel
theorem dX10_simStep_31 : decode cX10_simStep 31 = .ok (.putfield 264, 3) := by decide +kernel
theorem dX10_simStep_34 : decode cX10_simStep 34 = .ok (.aload_n 0, 1) := by decide +kernel
theorem dX10_simStep_35 : decode cX10_simStep 35 = .ok (.invokevirtual 267, 3) := by decide +kernel
theorem dX10_simStep_38 : decode cX10_simStep 38 = .ok (.return_, 1) := by decide +kernel
theorem dX10_watch_0 : decode cX10_watch 0 = .ok (.iload_n 1, 1) := by decide +kernel
theorem dX10_watch_1 : decode cX10_watch 1 = .ok (.invokestatic 169, 3) := by decide +kernel
theorem dX10_watch_4 : decode cX10_watch 4 = .ok (.ifCond .eq 13, 3) := by decide +kernel
theorem dX10_watch_7 : decode cX10_watch 7 = .ok (.aload_n 0, 1) := by decide +kernel
theorem dX10_watch_8 : decode cX10_watch 8 = .ok (.getfield 111, 3) := by decide +kernel
theorem dX10_watch_11 : decode cX10_watch 11 = .ok (.iload_n 1, 1) := by decide +kernel
theorem dX10_watch_12 : decode cX10_watch 12 = .ok (.baload, 1) := by decide +kernel
theorem dX10_watch_13 : decode cX10_watch 13 = .ok (.iload_n 2, 1) := by decide +kernel
theorem dX10_watch_14 : decode cX10_watch 14 = .ok (.if_icmp .ne 5, 3) := by decide +kernel
theorem dX10_watch_17 : decode cX10_watch 17 = .ok (.iconst 0, 1) := by decide +kernel
theorem dX10_watch_18 : decode cX10_watch 18 = .ok (.ireturn, 1) := by decide +kernel
theorem dX10_watch_19 : decode cX10_watch 19 = .ok (.aload_n 0, 1) := by decide +kernel
theorem dX10_watch_20 : decode cX10_watch 20 = .ok (.getfield 111, 3) := by decide +kernel
theorem dX10_watch_23 : decode cX10_watch 23 = .ok (.iload_n 1, 1) := by decide +kernel
theorem dX10_watch_24 : decode cX10_watch 24 = .ok (.iload_n 2, 1) := by decide +kernel
theorem dX10_watch_25 : decode cX10_watch 25 = .ok (.bastore, 1) := by decide +kernel
theorem dX10_watch_26 : decode cX10_watch 26 = .ok (.iconst 1, 1) := by decide +kernel
theorem dX10_watch_27 : decode cX10_watch 27 = .ok (.ireturn, 1) := by decide +kernel
def g_X10_watch (F : Nat) (x1 : Int32) (x2 : Int32) (u : rg_U) : Option (Int32 × rg_U) :=
  if (g_X10_isPlace x1) = 0 then (some (0, u)) else (ck (inb x1 40) (if (rA u 30 x1) = x2 then (some (0, u)) else (ck (inb x1 40) (lt1 (sZ u 30 x1 x2) (fun u5 => some (1, u5))))))
set_option maxHeartbeats 4000000 in
set_option maxRecDepth 100000 in
theorem k_X10_watch {gs : List String} {ro : pm_RO} {n : Nat} {w : Nat → va_E} {b : Nat} {u : rg_U} {F : Nat} {x1 : Int32} {x2 : Int32} {z : (Int32 × rg_U)} (hR : rg shM b u n w) (h : g_X10_watch F x1 x2 u = some z) : pm_Met gs ro M_X10_watch 2 0 0 [.ref (b + 0), .int x1, .int x2] n w (rg_post shM b n w (some (.int z.1)) z.2) := by
  unfold g_X10_watch at h
  refine pm_ofX in_X10_watch (Nat.le_of_ble_eq_true rfl) rfl (L := [some (.ref (b + 0)), some (.int x1), some (.int x2)]) rfl ?_
  refine pm_iload_n dX10_watch_0 rfl ?_
  refine dx_cSp (M := M_X10_watch) (Mc := M_X10_isPlace) (dc := 1) (As := [.int x1]) (st := []) dX10_watch_1 ml_X10_169 (by decide) (Nat.le_of_ble_eq_true rfl) rfl (k_X10_isPlace rfl) ?_
  refine pm_if_eq (tgt := 17) dX10_watch_4 (by decide) (fun c1 => ?_) (fun c1 => ?_)
  · replace h := it_t c1 h
    refine pm_iconst (v := 0) dX10_watch_17 (by decide) ?_
    cases h
    exact pm_zret dX10_watch_18 rfl (Or.inl rfl) (Nat.le_refl _) (Nat.le_refl _) ⟨rfl, rfl, hR, rg_k0⟩
  · replace h := it_f c1 h
    refine pm_aload_n dX10_watch_7 rfl ?_
    refine dx_gr (j := 0) (o := 30) hR dX10_watch_8 fl_X10_111 rfl rfl ?_
    refine pm_iload_n dX10_watch_11 rfl ?_
    obtain ⟨c2, h⟩ := ck_some h
    refine dx_zl (j := 30) hR dX10_watch_12 rfl (vp_in_iff.mpr c2) ?_
    refine pm_iload_n dX10_watch_13 rfl ?_
    refine pm_icmp_ne (tgt := 19) dX10_watch_14 (by decide) (fun c3 => ?_) (fun c3 => ?_)
    · replace h := it_f c3 h
      refine pm_aload_n dX10_watch_19 rfl ?_
      refine dx_gr (j := 0) (o := 30) hR dX10_watch_20 fl_X10_111 rfl rfl ?_
      refine pm_iload_n dX10_watch_23 rfl ?_
      refine pm_iload_n dX10_watch_24 rfl ?_
      obtain ⟨c4, h⟩ := ck_some h
      obtain ⟨u5, hu6, h⟩ := lt1_ex h
      refine dx_zs (j := 30) hR rg_k0 dX10_watch_25 rfl (vp_in_iff.mpr c4) hu6 (fun w7 hR8 hk9 => ?_)
      refine pm_iconst (v := 1) dX10_watch_26 (by decide) ?_
      cases h
      exact pm_zret dX10_watch_27 rfl (Or.inr rfl) (Nat.le_refl _) (Nat.le_refl _) ⟨rfl, rfl, hR8, hk9⟩
    · replace h := it_t c3 h
      refine pm_iconst (v := 0) dX10_watch_17 (by decide) ?_
      cases h
      exact pm_zret dX10_watch_18 rfl (Or.inl rfl) (Nat.le_refl _) (Nat.le_refl _) ⟨rfl, rfl, hR, rg_k0⟩
def g_X10_simPokes_l0 (F : Nat) (u : rg_U) : Option (rg_U ⊕ rg_U) :=
  ck (inb (rF u 0 41) 5) (if (rA u 15 (rF u 0 41)) ≤ (rF u 0 42) then (some (.inr u)) else (ck (inb ((800 * (rF u 0 41)) + (rF u 0 42)) 4000) (if (rA u 11 ((800 * (rF u 0 41)) + (rF u 0 42))) = 2 then (ck (inb ((800 * (rF u 0 41)) + (rF u 0 42)) 4000) (ck (inb 133 134) (if (rA u 10 ((800 * (rF u 0 41)) + (rF u 0 42))) = (rA u 31 133) then (ck (inb ((800 * (rF u 0 41)) + (rF u 0 42)) 4000) (ck (inb ((800 * (rF u 0 41)) + (rF u 0 42)) 4000) (ck (inb ((800 * (rF u 0 41)) + (rF u 0 42)) 4000) (ob (g_X10_puts F 31 134 (rA u 13 ((800 * (rF u 0 41)) + (rF u 0 42))) (rA u 14 ((800 * (rF u 0 41)) + (rF u 0 42))) (rA u 12 ((800 * (rF u 0 41)) + (rF u 0 42))) u) (fun r11 => lt1 (sF r11 0 42 ((rF r11 0 42) + 1)) (fun u16 => some (.inl u16))))))) else (some (.inr u))))) else (some (.inr u)))))
set_option maxHeartbeats 4000000 in
set_option maxRecDepth 100000 in
theorem k_X10_simPokes_l0 {gs : List String} {ro : pm_RO} {n : Nat} {w w1 : Nat → va_E} {b : Nat} {u : rg_U} {F : Nat}  {z : rg_U ⊕ rg_U} {Q : Option Value → Nat → (Nat → va_E) → Prop} (hR : rg shM b u n w1) (hk : rg_k b shM.length w w1) (h : g_X10_simPokes_l0 F u = some z) (hc : ∀ s', z = .inl s' → ∀ w1, rg shM b s' n w1 → rg_k b shM.length w w1 → pm_X gs ro M_X10_simPokes 2 0 0 0 0 0 [some (.ref (b + 0)), none] [] n w1 Q) (he0 : ∀ r', z = .inr r' → ∀ w1, rg shM b r' n w1 → rg_k b shM.length w w1 → pm_X gs ro M_X10_simPokes 2 0 0 0 0 119 [none, none] [] n w1 Q) : pm_X gs ro M_X10_simPokes 2 0 0 0 0 0 [some (.ref (b + 0)), none] [] n w1 Q := by
  unfold g_X10_simPokes_l0 at h
  refine pm_aload_n dX10_simPokes_0 rfl ?_
  refine dx_gi (j := 0) hR dX10_simPokes_1 fl_X10_264 rfl rfl ?_
  refine pm_aload_n dX10_simPokes_4 rfl ?_
  refine dx_gr (j := 0) (o := 15) hR dX10_simPokes_5 fl_X10_60 rfl rfl ?_
  refine pm_aload_n dX10_simPokes_8 rfl ?_
  refine dx_gi (j := 0) hR dX10_simPokes_9 fl_X10_117 rfl rfl ?_
  obtain ⟨c1, h⟩ := ck_some h
  refine dx_al (j := 15) hR dX10_simPokes_12 rfl (vp_in_iff.mpr c1) ?_
  refine pm_icmp_ge (tgt := 119) dX10_simPokes_13 (by decide) (fun c2 => ?_) (fun c2 => ?_)
  · replace h := it_t c2 h
    refine pm_lw (L' := [none, none]) ⟨Or.inl rfl, Or.inl rfl, trivial⟩ ?_
    exact he0 _ (Option.some.inj h).symm _ hR hk
  · replace h := it_f c2 h
    refine pm_aload_n dX10_simPokes_16 rfl ?_
    refine dx_gr (j := 0) (o := 11) hR dX10_simPokes_17 fl_X10_48 rfl rfl ?_
    refine pm_sipush (v := 800) dX10_simPokes_20 (by decide) ?_
    refine pm_aload_n dX10_simPokes_23 rfl ?_
    refine dx_gi (j := 0) hR dX10_simPokes_24 fl_X10_117 rfl rfl ?_
    refine pm_imul dX10_simPokes_27 ?_
    refine pm_aload_n dX10_simPokes_28 rfl ?_
    refine dx_gi (j := 0) hR dX10_simPokes_29 fl_X10_264 rfl rfl ?_
    refine pm_iadd dX10_simPokes_32 ?_
    obtain ⟨c3, h⟩ := ck_some h
    refine dx_al (j := 11) hR dX10_simPokes_33 rfl (vp_in_iff.mpr c3) ?_
    refine pm_iconst (v := 2) dX10_simPokes_34 (by decide) ?_
    refine pm_icmp_ne (tgt := 119) dX10_simPokes_35 (by decide) (fun c4 => ?_) (fun c4 => ?_)
    · replace h := it_f c4 h
      refine pm_lw (L' := [none, none]) ⟨Or.inl rfl, Or.inl rfl, trivial⟩ ?_
      exact he0 _ (Option.some.inj h).symm _ hR hk
    · replace h := it_t c4 h
      refine pm_aload_n dX10_simPokes_38 rfl ?_
      refine dx_gr (j := 0) (o := 10) hR dX10_simPokes_39 fl_X10_45 rfl rfl ?_
      refine pm_sipush (v := 800) dX10_simPokes_42 (by decide) ?_
      refine pm_aload_n dX10_simPokes_45 rfl ?_
      refine dx_gi (j := 0) hR dX10_simPokes_46 fl_X10_117 rfl rfl ?_
      refine pm_imul dX10_simPokes_49 ?_
      refine pm_aload_n dX10_simPokes_50 rfl ?_
      refine dx_gi (j := 0) hR dX10_simPokes_51 fl_X10_264 rfl rfl ?_
      refine pm_iadd dX10_simPokes_54 ?_
      obtain ⟨c5, h⟩ := ck_some h
      refine dx_al (j := 10) hR dX10_simPokes_55 rfl (vp_in_iff.mpr c5) ?_
      refine pm_aload_n dX10_simPokes_56 rfl ?_
      refine dx_gr (j := 0) (o := 31) hR dX10_simPokes_57 fl_X10_114 rfl rfl ?_
      refine pm_sipush (v := 133) dX10_simPokes_60 (by decide) ?_
      obtain ⟨c6, h⟩ := ck_some h
      refine dx_al (j := 31) hR dX10_simPokes_63 rfl (vp_in_iff.mpr c6) ?_
      refine pm_icmp_ne (tgt := 119) dX10_simPokes_64 (by decide) (fun c7 => ?_) (fun c7 => ?_)
      · replace h := it_f c7 h
        refine pm_lw (L' := [none, none]) ⟨Or.inl rfl, Or.inl rfl, trivial⟩ ?_
        exact he0 _ (Option.some.inj h).symm _ hR hk
      · replace h := it_t c7 h
        refine pm_sipush (v := 800) dX10_simPokes_67 (by decide) ?_
        refine pm_aload_n dX10_simPokes_70 rfl ?_
        refine dx_gi (j := 0) hR dX10_simPokes_71 fl_X10_117 rfl rfl ?_
        refine pm_imul dX10_simPokes_74 ?_
        refine pm_aload_n dX10_simPokes_75 rfl ?_
        refine dx_gi (j := 0) hR dX10_simPokes_76 fl_X10_264 rfl rfl ?_
        refine pm_iadd dX10_simPokes_79 ?_
        refine pm_istore_n dX10_simPokes_80 (by decide) rfl rfl ?_
        refine pm_aload_n dX10_simPokes_81 rfl ?_
        refine dx_gr (j := 0) (o := 31) hR dX10_simPokes_82 fl_X10_114 rfl rfl ?_
        refine pm_aload_n dX10_simPokes_85 rfl ?_
        refine dx_gr (j := 0) (o := 13) hR dX10_simPokes_86 fl_X10_54 rfl rfl ?_
        refine pm_iload_n dX10_simPokes_89 rfl ?_
        obtain ⟨c8, h⟩ := ck_some h
        refine dx_al (j := 13) hR dX10_simPokes_90 rfl (vp_in_iff.mpr c8) ?_
        refine pm_aload_n dX10_simPokes_91 rfl ?_
        refine dx_gr (j := 0) (o := 14) hR dX10_simPokes_92 fl_X10_57 rfl rfl ?_
        refine pm_iload_n dX10_simPokes_95 rfl ?_
        obtain ⟨c9, h⟩ := ck_some h
        refine dx_al (j := 14) hR dX10_simPokes_96 rfl (vp_in_iff.mpr c9) ?_
        refine pm_aload_n dX10_simPokes_97 rfl ?_
        refine dx_gr (j := 0) (o := 12) hR dX10_simPokes_98 fl_X10_51 rfl rfl ?_
        refine pm_iload_n dX10_simPokes_101 rfl ?_
        obtain ⟨c10, h⟩ := ck_some h
        refine dx_al (j := 12) hR dX10_simPokes_102 rfl (vp_in_iff.mpr c10) ?_
        obtain ⟨r11, h12, h⟩ := ob_some h
        refine dx_cSv (M := M_X10_simPokes) (Mc := M_X10_puts) (dc := 1) (As := [.ref (b + 31), .int (rA u 13 ((800 * (rF u 0 41)) + (rF u 0 42))), .int (rA u 14 ((800 * (rF u 0 41)) + (rF u 0 42))), .int (rA u 12 ((800 * (rF u 0 41)) + (rF u 0 42)))]) (st := []) hk dX10_simPokes_103 ml_X10_179 (by decide) (Nat.le_of_ble_eq_true rfl) rfl (k_X10_puts hR rfl h12) (fun w13 hR14 hk15 => ?_)
        refine pm_aload_n dX10_simPokes_106 rfl ?_
        refine pm_dup dX10_simPokes_107 rfl ?_
        refine dx_gi (j := 0) hR14 dX10_simPokes_108 fl_X10_264 rfl rfl ?_
        refine pm_iconst (v := 1) dX10_simPokes_111 (by decide) ?_
        refine pm_iadd dX10_simPokes_112 ?_
        obtain ⟨u16, hu17, h⟩ := lt1_ex h
        refine dx_pi (j := 0) hR14 hk15 dX10_simPokes_113 fl_X10_264 rfl rfl hu17 (fun w18 hR19 hk20 => ?_)
        refine pm_goto (tgt := 0) dX10_simPokes_116 (by decide) ?_
        refine pm_lw (L' := [some (.ref (b + 0)), none]) ⟨Or.inr rfl, Or.inl rfl, trivial⟩ ?_
        exact hc _ (Option.some.inj h).symm _ hR19 hk20
def g_X10_simPokes (F : Nat)  (u : rg_U) : Option rg_U :=
  ob (lp (fun (s : rg_U) => g_X10_simPokes_l0 F s) F u) (fun r21 => some r21)
set_option maxHeartbeats 4000000 in
set_option maxRecDepth 100000 in
theorem k_X10_simPokes {gs : List String} {ro : pm_RO} {n : Nat} {w : Nat → va_E} {b : Nat} {u : rg_U} {F : Nat}  {z : rg_U} (hR : rg shM b u n w) (h : g_X10_simPokes F u = some z) : pm_Met gs ro M_X10_simPokes 2 0 0 [.ref (b + 0)] n w (rg_post shM b n w none z) := by
  unfold g_X10_simPokes at h
  refine pm_ofX in_X10_simPokes (Nat.le_of_ble_eq_true rfl) rfl (L := [some (.ref (b + 0)), none]) rfl ?_
  obtain ⟨r21, h22, h⟩ := ob_some h
  refine lp_sound (P := fun (s : rg_U) => ∀ w1, rg shM b s n w1 → rg_k b shM.length w w1 → pm_X gs ro M_X10_simPokes 2 0 0 0 0 0 [some (.ref (b + 0)), none] [] n w1 (rg_post shM b n w none z)) (E := (fun (r : rg_U) => ∀ w1, rg shM b r n w1 → rg_k b shM.length w w1 → pm_X gs ro M_X10_simPokes 2 0 0 0 0 119 [none, none] [] n w1 (rg_post shM b n w none z))) (fun s x hx hc he w1 hR1 hk1 => k_X10_simPokes_l0 hR1 hk1 hx hc (fun r q => he r q)) F _ r21 h22 ?_ _ hR rg_k0
  intro w23 hR24 hk25
  cases h
  exact pm_vret dX10_simPokes_119 rfl (Nat.le_refl _) (Nat.le_refl _) ⟨rfl, rfl, hR24, hk25⟩
def g_X10_simBegins (F : Nat) (x1 : Int32) (u : rg_U) : Option rg_U :=
  lt1 (sF u 0 41 x1) (fun u1 => lt1 (sF u1 0 42 0) (fun u6 => ob (g_X10_clears F 31 134 u6) (fun r11 => ob (g_X10_simPokes F r11) (fun r16 => some r16))))
set_option maxHeartbeats 4000000 in
set_option maxRecDepth 100000 in
theorem k_X10_simBegins {gs : List String} {ro : pm_RO} {n : Nat} {w : Nat → va_E} {b : Nat} {u : rg_U} {F : Nat} {x1 : Int32} {z : rg_U} (hR : rg shM b u n w) (h : g_X10_simBegins F x1 u = some z) : pm_Met gs ro M_X10_simBegins 3 0 0 [.ref (b + 0), .int x1] n w (rg_post shM b n w none z) := by
  unfold g_X10_simBegins at h
  refine pm_ofX in_X10_simBegins (Nat.le_of_ble_eq_true rfl) rfl (L := [some (.ref (b + 0)), some (.int x1)]) rfl ?_
  refine pm_aload_n dX10_simBegins_0 rfl ?_
  refine pm_iload_n dX10_simBegins_1 rfl ?_
  obtain ⟨u1, hu2, h⟩ := lt1_ex h
  refine dx_pi (j := 0) hR rg_k0 dX10_simBegins_2 fl_X10_117 rfl rfl hu2 (fun w3 hR4 hk5 => ?_)
  refine pm_aload_n dX10_simBegins_5 rfl ?_
  refine pm_iconst (v := 0) dX10_simBegins_6 (by decide) ?_
  obtain ⟨u6, hu7, h⟩ := lt1_ex h
  refine dx_pi (j := 0) hR4 hk5 dX10_simBegins_7 fl_X10_264 rfl rfl hu7 (fun w8 hR9 hk10 => ?_)
  refine pm_aload_n dX10_simBegins_10 rfl ?_
  refine pm_aload_n dX10_simBegins_11 rfl ?_
  refine dx_gr (j := 0) (o := 31) hR9 dX10_simBegins_12 fl_X10_114 rfl rfl ?_
  obtain ⟨r11, h12, h⟩ := ob_some h
  refine dx_cVv (j := 0) (M := M_X10_simBegins) (Mc := M_X10_clears) (dc := 0) (As := [.ref (b + 31)]) (st := []) hR9 hk10 dX10_simBegins_15 ml_X10_162 ⟨TX10, 55, rfl⟩ rfl (by decide) (Nat.le_of_ble_eq_true rfl) rfl (k_X10_clears hR9 rfl h12) (fun w13 hR14 hk15 => ?_)
  refine pm_aload_n dX10_simBegins_18 rfl ?_
  obtain ⟨r16, h17, h⟩ := ob_some h
  refine dx_cVv (j := 0) (M := M_X10_simBegins) (Mc := M_X10_simPokes) (dc := 2) (As := []) (st := []) hR14 hk15 dX10_simBegins_19 ml_X10_267 ⟨TX10, 55, rfl⟩ rfl (by decide) (Nat.le_of_ble_eq_true rfl) rfl (k_X10_simPokes hR14 h17) (fun w18 hR19 hk20 => ?_)
  cases h
  exact pm_vret dX10_simBegins_22 rfl (Nat.le_refl _) (Nat.le_refl _) ⟨rfl, rfl, hR19, hk20⟩
def g_X10_simStep_j34 (F : Nat)  (u : rg_U) : Option rg_U :=
  ob (g_X10_simPokes F u) (fun r7 => some r7)
set_option maxHeartbeats 4000000 in
set_option maxRecDepth 100000 in
theorem k_X10_simStep_j34 {gs : List String} {ro : pm_RO} {n : Nat} {w w1 : Nat → va_E} {b : Nat} {u : rg_U} {F : Nat}  {z : rg_U} (hR : rg shM b u n w1) (hk : rg_k b shM.length w w1) (h : g_X10_simStep_j34 F u = some z) : pm_X gs ro M_X10_simStep 6 0 0 0 0 34 [some (.ref (b + 0))] [] n w1 (rg_post shM b n w none z) := by
  unfold g_X10_simStep_j34 at h
  refine pm_aload_n dX10_simStep_34 rfl ?_
  obtain ⟨r7, h8, h⟩ := ob_some h
  refine dx_cVv (j := 0) (M := M_X10_simStep) (Mc := M_X10_simPokes) (dc := 2) (As := []) (st := []) hR hk dX10_simStep_35 ml_X10_267 ⟨TX10, 55, rfl⟩ rfl (by decide) (Nat.le_of_ble_eq_true rfl) rfl (k_X10_simPokes hR h8) (fun w9 hR10 hk11 => ?_)
  cases h
  exact pm_vret dX10_simStep_38 rfl (Nat.le_refl _) (Nat.le_refl _) ⟨rfl, rfl, hR10, hk11⟩
def g_X10_simStep (F : Nat)  (u : rg_U) : Option rg_U :=
  ob (g_X10_steps F 31 134 (rF u 0 41) (rF u 0 42) u) (fun r1 => if (rF r1 0 38) = (-1) then (g_X10_simStep_j34 F r1) else (lt1 (sF r1 0 42 ((rF r1 0 42) + 1)) (fun u12 => g_X10_simStep_j34 F u12)))
set_option maxHeartbeats 4000000 in
set_option maxRecDepth 100000 in
theorem k_X10_simStep {gs : List String} {ro : pm_RO} {n : Nat} {w : Nat → va_E} {b : Nat} {u : rg_U} {F : Nat}  {z : rg_U} (hR : rg shM b u n w) (h : g_X10_simStep F u = some z) : pm_Met gs ro M_X10_simStep 6 0 0 [.ref (b + 0)] n w (rg_post shM b n w none z) := by
  unfold g_X10_simStep at h
  refine pm_ofX in_X10_simStep (Nat.le_of_ble_eq_true rfl) rfl (L := [some (.ref (b + 0))]) rfl ?_
  refine pm_aload_n dX10_simStep_0 rfl ?_
  refine pm_aload_n dX10_simStep_1 rfl ?_
  refine dx_gr (j := 0) (o := 31) hR dX10_simStep_2 fl_X10_114 rfl rfl ?_
  refine pm_aload_n dX10_simStep_5 rfl ?_
  refine dx_gi (j := 0) hR dX10_simStep_6 fl_X10_117 rfl rfl ?_
  refine pm_aload_n dX10_simStep_9 rfl ?_
  refine dx_gi (j := 0) hR dX10_simStep_10 fl_X10_264 rfl rfl ?_
  obtain ⟨r1, h2, h⟩ := ob_some h
  refine dx_cVv (j := 0) (M := M_X10_simStep) (Mc := M_X10_steps) (dc := 5) (As := [.ref (b + 31), .int (rF u 0 41), .int (rF u 0 42)]) (st := []) hR rg_k0 dX10_simStep_13 ml_X10_247 ⟨TX10, 55, rfl⟩ rfl (by decide) (Nat.le_of_ble_eq_true rfl) rfl (k_X10_steps hR rfl h2) (fun w3 hR4 hk5 => ?_)
  refine pm_aload_n dX10_simStep_16 rfl ?_
  refine dx_gi (j := 0) hR4 dX10_simStep_17 fl_X10_192 rfl rfl ?_
  refine pm_iconst (v := (-1)) dX10_simStep_20 (by decide) ?_
  refine pm_icmp_eq (tgt := 34) dX10_simStep_21 (by decide) (fun c6 => ?_) (fun c6 => ?_)
  · replace h := it_t c6 h
    exact k_X10_simStep_j34 hR4 hk5 h
  · replace h := it_f c6 h
    refine pm_aload_n dX10_simStep_24 rfl ?_
    refine pm_dup dX10_simStep_25 rfl ?_
    refine dx_gi (j := 0) hR4 dX10_simStep_26 fl_X10_264 rfl rfl ?_
    refine pm_iconst (v := 1) dX10_simStep_29 (by decide) ?_
    refine pm_iadd dX10_simStep_30 ?_
    obtain ⟨u12, hu13, h⟩ := lt1_ex h
    refine dx_pi (j := 0) hR4 hk5 dX10_simStep_31 fl_X10_264 rfl rfl hu13 (fun w14 hR15 hk16 => ?_)
    exact k_X10_simStep_j34 hR15 hk16 h
def g_X10_lays_l25 (F : Nat) (l2 : Int32) (u : rg_U) : Option (rg_U ⊕ rg_U) :=
  ck (inb 133 134) (if l2 ≤ (rA u 31 133) then (some (.inr u)) else (ob (g_X10_simStep F u) (fun r9 => some (.inl r9))))
set_option maxHeartbeats 4000000 in
set_option maxRecDepth 100000 in
theorem k_X10_lays_l25 {gs : List String} {ro : pm_RO} {n : Nat} {w w1 : Nat → va_E} {b : Nat} {u : rg_U} {F : Nat} {l2 : Int32} {z : rg_U ⊕ rg_U} {Q : Option Value → Nat → (Nat → va_E) → Prop} (hR : rg shM b u n w1) (hk : rg_k b shM.length w w1) (h : g_X10_lays_l25 F l2 u = some z) (hc : ∀ s', z = .inl s' → ∀ w1, rg shM b s' n w1 → rg_k b shM.length w w1 → pm_X gs ro M_X10_lays 7 0 0 0 0 25 [some (.ref (b + 0)), none, some (.int l2)] [] n w1 Q) (he0 : ∀ r', z = .inr r' → ∀ w1, rg shM b r' n w1 → rg_k b shM.length w w1 → pm_X gs ro M_X10_lays 7 0 0 0 0 44 [none, none, none] [] n w1 Q) : pm_X gs ro M_X10_lays 7 0 0 0 0 25 [some (.ref (b + 0)), none, some (.int l2)] [] n w1 Q := by
  unfold g_X10_lays_l25 at h
  refine pm_aload_n dX10_lays_25 rfl ?_
  refine dx_gr (j := 0) (o := 31) hR dX10_lays_26 fl_X10_114 rfl rfl ?_
  refine pm_sipush (v := 133) dX10_lays_29 (by decide) ?_
  obtain ⟨c7, h⟩ := ck_some h
  refine dx_al (j := 31) hR dX10_lays_32 rfl (vp_in_iff.mpr c7) ?_
  refine pm_iload_n dX10_lays_33 rfl ?_
  refine pm_icmp_ge (tgt := 44) dX10_lays_34 (by decide) (fun c8 => ?_) (fun c8 => ?_)
  · replace h := it_t c8 h
    refine pm_lw (L' := [none, none, none]) ⟨Or.inl rfl, Or.inl rfl, Or.inl rfl, trivial⟩ ?_
    exact he0 _ (Option.some.inj h).symm _ hR hk
  · replace h := it_f c8 h
    refine pm_aload_n dX10_lays_37 rfl ?_
    obtain ⟨r9, h10, h⟩ := ob_some h
    refine dx_cVv (j := 0) (M := M_X10_lays) (Mc := M_X10_simStep) (dc := 6) (As := []) (st := []) hR hk dX10_lays_38 ml_X10_273 ⟨TX10, 55, rfl⟩ rfl (by decide) (Nat.le_of_ble_eq_true rfl) rfl (k_X10_simStep hR h10) (fun w11 hR12 hk13 => ?_)
    refine pm_goto (tgt := 25) dX10_lays_41 (by decide) ?_
    refine pm_lw (L' := [some (.ref (b + 0)), none, some (.int l2)]) ⟨Or.inr rfl, Or.inl rfl, Or.inr rfl, trivial⟩ ?_
    exact hc _ (Option.some.inj h).symm _ hR12 hk13
def g_X10_lays_j25 (F : Nat) (l2 : Int32) (u : rg_U) : Option rg_U :=
  ob (lp (fun (s : rg_U) => g_X10_lays_l25 F l2 s) F u) (fun r14 => some r14)
set_option maxHeartbeats 4000000 in
set_option maxRecDepth 100000 in
theorem k_X10_lays_j25 {gs : List String} {ro : pm_RO} {n : Nat} {w w1 : Nat → va_E} {b : Nat} {u : rg_U} {F : Nat} {l2 : Int32} {z : rg_U} (hR : rg shM b u n w1) (hk : rg_k b shM.length w w1) (h : g_X10_lays_j25 F l2 u = some z) : pm_X gs ro M_X10_lays 7 0 0 0 0 25 [some (.ref (b + 0)), none, some (.int l2)] [] n w1 (rg_post shM b n w none z) := by
  unfold g_X10_lays_j25 at h
  obtain ⟨r14, h15, h⟩ := ob_some h
  refine lp_sound (P := fun (s : rg_U) => ∀ w1, rg shM b s n w1 → rg_k b shM.length w w1 → pm_X gs ro M_X10_lays 7 0 0 0 0 25 [some (.ref (b + 0)), none, some (.int l2)] [] n w1 (rg_post shM b n w none z)) (E := (fun (r : rg_U) => ∀ w1, rg shM b r n w1 → rg_k b shM.length w w1 → pm_X gs ro M_X10_lays 7 0 0 0 0 44 [none, none, none] [] n w1 (rg_post shM b n w none z))) (fun s x hx hc he w1 hR1 hk1 => k_X10_lays_l25 hR1 hk1 hx hc (fun r q => he r q)) F _ r14 h15 ?_ _ hR hk
  intro w16 hR17 hk18
  cases h
  exact pm_vret dX10_lays_44 rfl (Nat.le_refl _) (Nat.le_refl _) ⟨rfl, rfl, hR17, hk18⟩
def g_X10_lays_j20 (F : Nat) (l1 : Int32) (l2 : Int32) (u : rg_U) : Option rg_U :=
  ob (g_X10_simBegins F l1 u) (fun r2 => g_X10_lays_j25 F l2 r2)
set_option maxHeartbeats 4000000 in
set_option maxRecDepth 100000 in
theorem k_X10_lays_j20 {gs : List String} {ro : pm_RO} {n : Nat} {w w1 : Nat → va_E} {b : Nat} {u : rg_U} {F : Nat} {l1 : Int32} {l2 : Int32} {z : rg_U} (hR : rg shM b u n w1) (hk : rg_k b shM.length w w1) (h : g_X10_lays_j20 F l1 l2 u = some z) : pm_X gs ro M_X10_lays 7 0 0 0 0 20 [some (.ref (b + 0)), some (.int l1), some (.int l2)] [] n w1 (rg_post shM b n w none z) := by
  unfold g_X10_lays_j20 at h
  refine pm_aload_n dX10_lays_20 rfl ?_
  refine pm_iload_n dX10_lays_21 rfl ?_
  obtain ⟨r2, h3, h⟩ := ob_some h
  refine dx_cVv (j := 0) (M := M_X10_lays) (Mc := M_X10_simBegins) (dc := 3) (As := [.int l1]) (st := []) hR hk dX10_lays_22 ml_X10_270 ⟨TX10, 55, rfl⟩ rfl (by decide) (Nat.le_of_ble_eq_true rfl) rfl (k_X10_simBegins hR h3) (fun w4 hR5 hk6 => ?_)
  refine pm_lw (L' := [some (.ref (b + 0)), none, some (.int l2)]) ⟨Or.inr rfl, Or.inl rfl, Or.inr rfl, trivial⟩ ?_
  exact k_X10_lays_j25 hR5 hk6 h
def g_X10_lays (F : Nat) (x1 : Int32) (x2 : Int32) (u : rg_U) : Option rg_U :=
  if (rF u 0 41) = x1 then (ck (inb 133 134) (if (rA u 31 133) ≤ x2 then (g_X10_lays_j25 F x2 u) else (g_X10_lays_j20 F x1 x2 u))) else (g_X10_lays_j20 F x1 x2 u)
set_option maxHeartbeats 4000000 in
set_option maxRecDepth 100000 in
theorem k_X10_lays {gs : List String} {ro : pm_RO} {n : Nat} {w : Nat → va_E} {b : Nat} {u : rg_U} {F : Nat} {x1 : Int32} {x2 : Int32} {z : rg_U} (hR : rg shM b u n w) (h : g_X10_lays F x1 x2 u = some z) : pm_Met gs ro M_X10_lays 7 0 0 [.ref (b + 0), .int x1, .int x2] n w (rg_post shM b n w none z) := by
  unfold g_X10_lays at h
  refine pm_ofX in_X10_lays (Nat.le_of_ble_eq_true rfl) rfl (L := [some (.ref (b + 0)), some (.int x1), some (.int x2)]) rfl ?_
  refine pm_aload_n dX10_lays_0 rfl ?_
  refine dx_gi (j := 0) hR dX10_lays_1 fl_X10_117 rfl rfl ?_
  refine pm_iload_n dX10_lays_4 rfl ?_
  refine pm_icmp_ne (tgt := 20) dX10_lays_5 (by decide) (fun c1 => ?_) (fun c1 => ?_)
  · replace h := it_f c1 h
    exact k_X10_lays_j20 hR rg_k0 h
  · replace h := it_t c1 h
    refine pm_aload_n dX10_lays_8 rfl ?_
    refine dx_gr (j := 0) (o := 31) hR dX10_lays_9 fl_X10_114 rfl rfl ?_
    refine pm_sipush (v := 133) dX10_lays_12 (by decide) ?_
    obtain ⟨c19, h⟩ := ck_some h
    refine dx_al (j := 31) hR dX10_lays_15 rfl (vp_in_iff.mpr c19) ?_
    refine pm_iload_n dX10_lays_16 rfl ?_
    refine pm_icmp_le (tgt := 25) dX10_lays_17 (by decide) (fun c20 => ?_) (fun c20 => ?_)
    · replace h := it_t c20 h
      refine pm_lw (L' := [some (.ref (b + 0)), none, some (.int x2)]) ⟨Or.inr rfl, Or.inl rfl, Or.inr rfl, trivial⟩ ?_
      exact k_X10_lays_j25 hR rg_k0 h
    · replace h := it_f c20 h
      exact k_X10_lays_j20 hR rg_k0 h
def g_X10_heldBy_l9 (F : Nat) (l1 : Int32) (u : rg_U) (l3 : Int32) : Option (Int32 ⊕ Int32) :=
  ck (inb (g_X10_heldAt l1 l3) 15005) (if (rA u 20 (g_X10_heldAt l1 l3)) = 0 then (some (.inl (l3 + (-1)))) else (some (.inr l3)))
set_option maxHeartbeats 4000000 in
set_option maxRecDepth 100000 in
theorem k_X10_heldBy_l9 {gs : List String} {ro : pm_RO} {n : Nat} {w : Nat → va_E} {b : Nat} {u : rg_U} {F : Nat} {l1 : Int32} {l3 : Int32} {z : Int32 ⊕ Int32} {Q : Option Value → Nat → (Nat → va_E) → Prop} (hR : rg shM b u n w) (h : g_X10_heldBy_l9 F l1 u l3 = some z) (hc : ∀ s', z = .inl s' → pm_X gs ro M_X10_heldBy 1 0 0 0 0 9 [some (.ref (b + 0)), some (.int l1), none, some (.int s')] [] n w Q) (he0 : ∀ r', z = .inr r' → pm_X gs ro M_X10_heldBy 1 0 0 0 0 28 [some (.ref (b + 0)), some (.int l1), none, some (.int r')] [] n w Q) : pm_X gs ro M_X10_heldBy 1 0 0 0 0 9 [some (.ref (b + 0)), some (.int l1), none, some (.int l3)] [] n w Q := by
  unfold g_X10_heldBy_l9 at h
  refine pm_aload_n dX10_heldBy_9 rfl ?_
  refine dx_gr (j := 0) (o := 20) hR dX10_heldBy_10 fl_X10_75 rfl rfl ?_
  refine pm_iload_n dX10_heldBy_13 rfl ?_
  refine pm_iload_n dX10_heldBy_14 rfl ?_
  refine dx_cSp (M := M_X10_heldBy) (Mc := M_X10_heldAt) (dc := 0) (As := [.int l1, .int l3]) (st := [.ref (b + 20)]) dX10_heldBy_15 ml_X10_158 (by decide) (Nat.le_of_ble_eq_true rfl) rfl (k_X10_heldAt rfl) ?_
  obtain ⟨c3, h⟩ := ck_some h
  refine dx_zl (j := 20) hR dX10_heldBy_18 rfl (vp_in_iff.mpr c3) ?_
  refine pm_if_ne (tgt := 28) dX10_heldBy_19 (by decide) (fun c4 => ?_) (fun c4 => ?_)
  · replace h := it_f c4 h
    refine pm_lw (L' := [some (.ref (b + 0)), some (.int l1), none, some (.int l3)]) ⟨Or.inr rfl, Or.inr rfl, Or.inl rfl, Or.inr rfl, trivial⟩ ?_
    exact he0 _ (Option.some.inj h).symm
  · replace h := it_t c4 h
    refine pm_iinc (v := (l3 + (-1))) dX10_heldBy_22 rfl rfl (by decide) rfl rfl ?_
    refine pm_goto (tgt := 9) dX10_heldBy_25 (by decide) ?_
    refine pm_lw (L' := [some (.ref (b + 0)), some (.int l1), none, some (.int (l3 + (-1)))]) ⟨Or.inr rfl, Or.inr rfl, Or.inl rfl, Or.inr rfl, trivial⟩ ?_
    exact hc _ (Option.some.inj h).symm
def g_X10_heldBy (F : Nat) (x1 : Int32) (x2 : Int32) (u : rg_U) : Option Int32 :=
  ck (inb x1 5) (ck (¬ (rA u 23 x1) = 0) (ob (lp (fun (s : Int32) => g_X10_heldBy_l9 F x1 u s) F ((x2 / (rA u 23 x1)) : Int32)) (fun r5 => ck (inb x1 5) (some (r5 * (rA u 23 x1))))))
set_option maxHeartbeats 4000000 in
set_option maxRecDepth 100000 in
theorem k_X10_heldBy {gs : List String} {ro : pm_RO} {n : Nat} {w : Nat → va_E} {b : Nat} {u : rg_U} {F : Nat} {x1 : Int32} {x2 : Int32} {z : Int32} (hR : rg shM b u n w) (h : g_X10_heldBy F x1 x2 u = some z) : pm_Met gs ro M_X10_heldBy 1 0 0 [.ref (b + 0), .int x1, .int x2] n w (pm_p n w (some (.int z))) := by
  unfold g_X10_heldBy at h
  refine pm_ofX in_X10_heldBy (Nat.le_of_ble_eq_true rfl) rfl (L := [some (.ref (b + 0)), some (.int x1), some (.int x2), none]) rfl ?_
  refine pm_iload_n dX10_heldBy_0 rfl ?_
  refine pm_aload_n dX10_heldBy_1 rfl ?_
  refine dx_gr (j := 0) (o := 23) hR dX10_heldBy_2 fl_X10_84 rfl rfl ?_
  refine pm_iload_n dX10_heldBy_5 rfl ?_
  obtain ⟨c1, h⟩ := ck_some h
  refine dx_al (j := 23) hR dX10_heldBy_6 rfl (vp_in_iff.mpr c1) ?_
  obtain ⟨c2, h⟩ := ck_some h
  refine pm_idiv dX10_heldBy_7 c2 ?_
  refine pm_istore_n dX10_heldBy_8 (by decide) rfl rfl ?_
  refine pm_lw (L' := [some (.ref (b + 0)), some (.int x1), none, some (.int (x2 / (rA u 23 x1)))]) ⟨Or.inr rfl, Or.inr rfl, Or.inl rfl, Or.inr rfl, trivial⟩ ?_
  obtain ⟨r5, h6, h⟩ := ob_some h
  refine lp_sound (P := fun (s : Int32) => pm_X gs ro M_X10_heldBy 1 0 0 0 0 9 [some (.ref (b + 0)), some (.int x1), none, some (.int s)] [] n w (pm_p n w (some (.int z)))) (E := (fun (r : Int32) => pm_X gs ro M_X10_heldBy 1 0 0 0 0 28 [some (.ref (b + 0)), some (.int x1), none, some (.int r)] [] n w (pm_p n w (some (.int z))))) (fun s x hx hc he => k_X10_heldBy_l9 hR hx hc (fun r q => he r q)) F _ r5 h6 ?_
  refine pm_iload_n dX10_heldBy_28 rfl ?_
  refine pm_aload_n dX10_heldBy_29 rfl ?_
  refine dx_gr (j := 0) (o := 23) hR dX10_heldBy_30 fl_X10_84 rfl rfl ?_
  refine pm_iload_n dX10_heldBy_33 rfl ?_
  obtain ⟨c7, h⟩ := ck_some h
  refine dx_al (j := 23) hR dX10_heldBy_34 rfl (vp_in_iff.mpr c7) ?_
  refine pm_imul dX10_heldBy_35 ?_
  cases h
  exact pm_iret dX10_heldBy_36 rfl (Nat.le_refl _) (Nat.le_refl _) ⟨rfl, rfl, rfl⟩
def g_X10_counts (F : Nat) (x1 : Int32) (x2 : Int32) (u : rg_U) : Option rg_U :=
  ck (inb x1 5) (ck (inb x1 5) (lt1 (sA u 25 x1 ((rA u 25 x1) + x2)) (fun u3 => lt1 (sF u3 0 35 ((rF u3 0 35) + x2)) (fun u8 => some u8))))
set_option maxHeartbeats 4000000 in
set_option maxRecDepth 100000 in
theorem k_X10_counts {gs : List String} {ro : pm_RO} {n : Nat} {w : Nat → va_E} {b : Nat} {u : rg_U} {F : Nat} {x1 : Int32} {x2 : Int32} {z : rg_U} (hR : rg shM b u n w) (h : g_X10_counts F x1 x2 u = some z) : pm_Met gs ro M_X10_counts 0 0 0 [.ref (b + 0), .int x1, .int x2] n w (rg_post shM b n w none z) := by
  unfold g_X10_counts at h
  refine pm_ofX in_X10_counts (Nat.le_of_ble_eq_true rfl) rfl (L := [some (.ref (b + 0)), some (.int x1), some (.int x2)]) rfl ?_
  refine pm_aload_n dX10_counts_0 rfl ?_
  refine dx_gr (j := 0) (o := 25) hR dX10_counts_1 fl_X10_90 rfl rfl ?_
  refine pm_iload_n dX10_counts_4 rfl ?_
  refine pm_dup2 dX10_counts_5 rfl rfl ?_
  obtain ⟨c1, h⟩ := ck_some h
  refine dx_al (j := 25) hR dX10_counts_6 rfl (vp_in_iff.mpr c1) ?_
  refine pm_iload_n dX10_counts_7 rfl ?_
  refine pm_iadd dX10_counts_8 ?_
  obtain ⟨c2, h⟩ := ck_some h
  obtain ⟨u3, hu4, h⟩ := lt1_ex h
  refine dx_as (j := 25) hR rg_k0 dX10_counts_9 rfl (vp_in_iff.mpr c2) hu4 (fun w5 hR6 hk7 => ?_)
  refine pm_aload_n dX10_counts_10 rfl ?_
  refine pm_dup dX10_counts_11 rfl ?_
  refine dx_gi (j := 0) hR6 dX10_counts_12 fl_X10_276 rfl rfl ?_
  refine pm_iload_n dX10_counts_15 rfl ?_
  refine pm_iadd dX10_counts_16 ?_
  obtain ⟨u8, hu9, h⟩ := lt1_ex h
  refine dx_pi (j := 0) hR6 hk7 dX10_counts_17 fl_X10_276 rfl rfl hu9 (fun w10 hR11 hk12 => ?_)
  cases h
  exact pm_vret dX10_counts_20 rfl (Nat.le_refl _) (Nat.le_refl _) ⟨rfl, rfl, hR11, hk12⟩
def g_X10_replays_j23 (F : Nat) (l1 : Int32) (l2 : Int32) (u : rg_U) : Option rg_U :=
  ob (g_X10_lays F l1 l2 u) (fun r3 => some r3)
set_option maxHeartbeats 4000000 in
set_option maxRecDepth 100000 in
theorem k_X10_replays_j23 {gs : List String} {ro : pm_RO} {n : Nat} {w w1 : Nat → va_E} {b : Nat} {u : rg_U} {F : Nat} {l1 : Int32} {l2 : Int32} {z : rg_U} (hR : rg shM b u n w1) (hk : rg_k b shM.length w w1) (h : g_X10_replays_j23 F l1 l2 u = some z) : pm_X gs ro M_X10_replays 8 0 0 0 0 23 [some (.ref (b + 0)), some (.int l1), some (.int l2)] [] n w1 (rg_post shM b n w none z) := by
  unfold g_X10_replays_j23 at h
  refine pm_aload_n dX10_replays_23 rfl ?_
  refine pm_iload_n dX10_replays_24 rfl ?_
  refine pm_iload_n dX10_replays_25 rfl ?_
  obtain ⟨r3, h4, h⟩ := ob_some h
  refine dx_cVv (j := 0) (M := M_X10_replays) (Mc := M_X10_lays) (dc := 7) (As := [.int l1, .int l2]) (st := []) hR hk dX10_replays_26 ml_X10_286 ⟨TX10, 55, rfl⟩ rfl (by decide) (Nat.le_of_ble_eq_true rfl) rfl (k_X10_lays hR h4) (fun w5 hR6 hk7 => ?_)
  cases h
  exact pm_vret dX10_replays_29 rfl (Nat.le_refl _) (Nat.le_refl _) ⟨rfl, rfl, hR6, hk7⟩
def g_X10_replays (F : Nat) (x1 : Int32) (x2 : Int32) (u : rg_U) : Option rg_U :=
  ck (inb x1 5) (if x2 = (rA u 21 x1) then (g_X10_replays_j23 F x1 x2 u) else (ob (g_X10_heldBy F x1 x2 u) (fun r8 => ob (g_X10_counts F x1 (x2 - r8) u) (fun r10 => g_X10_replays_j23 F x1 x2 r10))))
set_option maxHeartbeats 4000000 in
set_option maxRecDepth 100000 in
theorem k_X10_replays {gs : List String} {ro : pm_RO} {n : Nat} {w : Nat → va_E} {b : Nat} {u : rg_U} {F : Nat} {x1 : Int32} {x2 : Int32} {z : rg_U} (hR : rg shM b u n w) (h : g_X10_replays F x1 x2 u = some z) : pm_Met gs ro M_X10_replays 8 0 0 [.ref (b + 0), .int x1, .int x2] n w (rg_post shM b n w none z) := by
  unfold g_X10_replays at h
  refine pm_ofX in_X10_replays (Nat.le_of_ble_eq_true rfl) rfl (L := [some (.ref (b + 0)), some (.int x1), some (.int x2)]) rfl ?_
  refine pm_iload_n dX10_replays_0 rfl ?_
  refine pm_aload_n dX10_replays_1 rfl ?_
  refine dx_gr (j := 0) (o := 21) hR dX10_replays_2 fl_X10_78 rfl rfl ?_
  refine pm_iload_n dX10_replays_5 rfl ?_
  obtain ⟨c1, h⟩ := ck_some h
  refine dx_al (j := 21) hR dX10_replays_6 rfl (vp_in_iff.mpr c1) ?_
  refine pm_icmp_eq (tgt := 23) dX10_replays_7 (by decide) (fun c2 => ?_) (fun c2 => ?_)
  · replace h := it_t c2 h
    exact k_X10_replays_j23 hR rg_k0 h
  · replace h := it_f c2 h
    refine pm_aload_n dX10_replays_10 rfl ?_
    refine pm_iload_n dX10_replays_11 rfl ?_
    refine pm_iload_n dX10_replays_12 rfl ?_
    refine pm_aload_n dX10_replays_13 rfl ?_
    refine pm_iload_n dX10_replays_14 rfl ?_
    refine pm_iload_n dX10_replays_15 rfl ?_
    obtain ⟨r8, h9, h⟩ := ob_some h
    refine dx_cVp (j := 0) (M := M_X10_replays) (Mc := M_X10_heldBy) (dc := 1) (As := [.int x1, .int x2]) (st := [.int x2, .int x1, .ref (b + 0)]) hR dX10_replays_16 ml_X10_279 ⟨TX10, 55, rfl⟩ rfl (by decide) (Nat.le_of_ble_eq_true rfl) rfl (k_X10_heldBy hR h9) ?_
    refine pm_isub dX10_replays_19 ?_
    obtain ⟨r10, h11, h⟩ := ob_some h
    refine dx_cVv (j := 0) (M := M_X10_replays) (Mc := M_X10_counts) (dc := 0) (As := [.int x1, .int (x2 - r8)]) (st := []) hR rg_k0 dX10_replays_20 ml_X10_282 ⟨TX10, 55, rfl⟩ rfl (by decide) (Nat.le_of_ble_eq_true rfl) rfl (k_X10_counts hR h11) (fun w12 hR13 hk14 => ?_)
    exact k_X10_replays_j23 hR13 hk14 h
def g_X10_runAsked (F : Nat)  (u : rg_U) : Option Int32 :=
  if (rF u 0 30) = (-1) then (some 4) else (some (rF u 0 30))
set_option maxHeartbeats 4000000 in
set_option maxRecDepth 100000 in
theorem k_X10_runAsked {gs : List String} {ro : pm_RO} {n : Nat} {w : Nat → va_E} {b : Nat} {u : rg_U} {F : Nat}  {z : Int32} (hR : rg shM b u n w) (h : g_X10_runAsked F u = some z) : pm_Met gs ro M_X10_runAsked 0 0 0 [.ref (b + 0)] n w (pm_p n w (some (.int z))) := by
  unfold g_X10_runAsked at h
  refine pm_ofX in_X10_runAsked (Nat.le_of_ble_eq_true rfl) rfl (L := [some (.ref (b + 0))]) rfl ?_
  refine pm_aload_n dX10_runAsked_0 rfl ?_
  refine dx_gi (j := 0) hR dX10_runAsked_1 fl_X10_99 rfl rfl ?_
  refine pm_iconst (v := (-1)) dX10_runAsked_4 (by decide) ?_
  refine pm_icmp_ne (tgt := 12) dX10_runAsked_5 (by decide) (fun c1 => ?_) (fun c1 => ?_)
  · replace h := it_f c1 h
    refine pm_aload_n dX10_runAsked_12 rfl ?_
    refine dx_gi (j := 0) hR dX10_runAsked_13 fl_X10_99 rfl rfl ?_
    cases h
    exact pm_iret dX10_runAsked_16 rfl (Nat.le_refl _) (Nat.le_refl _) ⟨rfl, rfl, rfl⟩
  · replace h := it_t c1 h
    refine pm_iconst (v := 4) dX10_runAsked_8 (by decide) ?_
    refine pm_goto (tgt := 16) dX10_runAsked_9 (by decide) ?_
    cases h
    exact pm_iret dX10_runAsked_16 rfl (Nat.le_refl _) (Nat.le_refl _) ⟨rfl, rfl, rfl⟩
def g_X10_isTime (F : Nat) (x1 : Int32) (u : rg_U) : Option Int32 :=
  ob (g_X10_runAsked F u) (fun r1 => ck (inb r1 5) (if (rA u 5 r1) = 0 then (some 0) else (ck (inb r1 5) (if (g_X10_isIn x1 0 (rA u 21 r1)) = 0 then (some 0) else (some 1)))))
set_option maxHeartbeats 4000000 in
set_option maxRecDepth 100000 in
theorem k_X10_isTime {gs : List String} {ro : pm_RO} {n : Nat} {w : Nat → va_E} {b : Nat} {u : rg_U} {F : Nat} {x1 : Int32} {z : Int32} (hR : rg shM b u n w) (h : g_X10_isTime F x1 u = some z) : pm_Met gs ro M_X10_isTime 1 0 0 [.ref (b + 0), .int x1] n w (pm_p n w (some (.int z))) := by
  unfold g_X10_isTime at h
  refine pm_ofX in_X10_isTime (Nat.le_of_ble_eq_true rfl) rfl (L := [some (.ref (b + 0)), some (.int x1), none]) rfl ?_
  refine pm_aload_n dX10_isTime_0 rfl ?_
  obtain ⟨r1, h2, h⟩ := ob_some h
  refine dx_cVp (j := 0) (M := M_X10_isTime) (Mc := M_X10_runAsked) (dc := 0) (As := []) (st := []) hR dX10_isTime_1 ml_X10_289 ⟨TX10, 55, rfl⟩ rfl (by decide) (Nat.le_of_ble_eq_true rfl) rfl (k_X10_runAsked hR h2) ?_
  refine pm_istore_n dX10_isTime_4 (by decide) rfl rfl ?_
  refine pm_aload_n dX10_isTime_5 rfl ?_
  refine dx_gr (j := 0) (o := 5) hR dX10_isTime_6 fl_X10_29 rfl rfl ?_
  refine pm_iload_n dX10_isTime_9 rfl ?_
  obtain ⟨c3, h⟩ := ck_some h
  refine dx_zl (j := 5) hR dX10_isTime_10 rfl (vp_in_iff.mpr c3) ?_
  refine pm_if_eq (tgt := 32) dX10_isTime_11 (by decide) (fun c4 => ?_) (fun c4 => ?_)
  · replace h := it_t c4 h
    refine pm_iconst (v := 0) dX10_isTime_32 (by decide) ?_
    cases h
    exact pm_zret dX10_isTime_33 rfl (Or.inl rfl) (Nat.le_refl _) (Nat.le_refl _) ⟨rfl, rfl, rfl⟩
  · replace h := it_f c4 h
    refine pm_iload_n dX10_isTime_14 rfl ?_
    refine pm_iconst (v := 0) dX10_isTime_15 (by decide) ?_
    refine pm_aload_n dX10_isTime_16 rfl ?_
    refine dx_gr (j := 0) (o := 21) hR dX10_isTime_17 fl_X10_78 rfl rfl ?_
    refine pm_iload_n dX10_isTime_20 rfl ?_
    obtain ⟨c5, h⟩ := ck_some h
    refine dx_al (j := 21) hR dX10_isTime_21 rfl (vp_in_iff.mpr c5) ?_
    refine dx_cSp (M := M_X10_isTime) (Mc := M_X10_isIn) (dc := 0) (As := [.int x1, .int 0, .int (rA u 21 r1)]) (st := []) dX10_isTime_22 ml_X10_138 (by decide) (Nat.le_of_ble_eq_true rfl) rfl (k_X10_isIn rfl) ?_
    refine pm_if_eq (tgt := 32) dX10_isTime_25 (by decide) (fun c6 => ?_) (fun c6 => ?_)
    · replace h := it_t c6 h
      refine pm_iconst (v := 0) dX10_isTime_32 (by decide) ?_
      cases h
      exact pm_zret dX10_isTime_33 rfl (Or.inl rfl) (Nat.le_refl _) (Nat.le_refl _) ⟨rfl, rfl, rfl⟩
    · replace h := it_f c6 h
      refine pm_iconst (v := 1) dX10_isTime_28 (by decide) ?_
      refine pm_goto (tgt := 33) dX10_isTime_29 (by decide) ?_
      cases h
      exact pm_zret dX10_isTime_33 rfl (Or.inr rfl) (Nat.le_refl _) (Nat.le_refl _) ⟨rfl, rfl, rfl⟩
def g_X10_back_l45 (F : Nat) (l1 : Int32) (l2 : Int32) (l3 : Int32) (u : rg_U) : Option ((Int32 × rg_U) ⊕ rg_U) :=
  if 134 ≤ l3 then (some (.inr u)) else (ck (inb l3 134) (ck (inb l3 134) (lt1 (sA u 28 l3 (rA u 31 l3)) (fun u18 => some (.inl ((l3 + 1), u18))))))
set_option maxHeartbeats 4000000 in
set_option maxRecDepth 100000 in
theorem k_X10_back_l45 {gs : List String} {ro : pm_RO} {n : Nat} {w w1 : Nat → va_E} {b : Nat} {u : rg_U} {F : Nat} {l1 : Int32} {l2 : Int32} {l3 : Int32} {z : (Int32 × rg_U) ⊕ rg_U} {Q : Option Value → Nat → (Nat → va_E) → Prop} (hR : rg shM b u n w1) (hk : rg_k b shM.length w w1) (h : g_X10_back_l45 F l1 l2 l3 u = some z) (hc : ∀ s', z = .inl s' → ∀ w1, rg shM b s'.2 n w1 → rg_k b shM.length w w1 → pm_X gs ro M_X10_back 9 0 0 0 0 45 [some (.ref (b + 0)), some (.int l1), some (.int l2), some (.int s'.1), none, none, none] [] n w1 Q) (he0 : ∀ r', z = .inr r' → ∀ w1, rg shM b r' n w1 → rg_k b shM.length w w1 → pm_X gs ro M_X10_back 9 0 0 0 0 70 [some (.ref (b + 0)), some (.int l1), some (.int l2), none, none, none, none] [] n w1 Q) : pm_X gs ro M_X10_back 9 0 0 0 0 45 [some (.ref (b + 0)), some (.int l1), some (.int l2), some (.int l3), none, none, none] [] n w1 Q := by
  unfold g_X10_back_l45 at h
  refine pm_iload_n dX10_back_45 rfl ?_
  refine pm_sipush (v := 134) dX10_back_46 (by decide) ?_
  refine pm_icmp_ge (tgt := 70) dX10_back_49 (by decide) (fun c15 => ?_) (fun c15 => ?_)
  · replace h := it_t c15 h
    refine pm_lw (L' := [some (.ref (b + 0)), some (.int l1), some (.int l2), none, none, none, none]) ⟨Or.inr rfl, Or.inr rfl, Or.inr rfl, Or.inl rfl, Or.inl rfl, Or.inl rfl, Or.inl rfl, trivial⟩ ?_
    exact he0 _ (Option.some.inj h).symm _ hR hk
  · replace h := it_f c15 h
    refine pm_aload_n dX10_back_52 rfl ?_
    refine dx_gr (j := 0) (o := 28) hR dX10_back_53 fl_X10_102 rfl rfl ?_
    refine pm_iload_n dX10_back_56 rfl ?_
    refine pm_aload_n dX10_back_57 rfl ?_
    refine dx_gr (j := 0) (o := 31) hR dX10_back_58 fl_X10_114 rfl rfl ?_
    refine pm_iload_n dX10_back_61 rfl ?_
    obtain ⟨c16, h⟩ := ck_some h
    refine dx_al (j := 31) hR dX10_back_62 rfl (vp_in_iff.mpr c16) ?_
    obtain ⟨c17, h⟩ := ck_some h
    obtain ⟨u18, hu19, h⟩ := lt1_ex h
    refine dx_as (j := 28) hR hk dX10_back_63 rfl (vp_in_iff.mpr c17) hu19 (fun w20 hR21 hk22 => ?_)
    refine pm_iinc (v := (l3 + 1)) dX10_back_64 rfl rfl (by decide) rfl rfl ?_
    refine pm_goto (tgt := 45) dX10_back_67 (by decide) ?_
    refine pm_lw (L' := [some (.ref (b + 0)), some (.int l1), some (.int l2), some (.int (l3 + 1)), none, none, none]) ⟨Or.inr rfl, Or.inr rfl, Or.inr rfl, Or.inr rfl, Or.inl rfl, Or.inl rfl, Or.inl rfl, trivial⟩ ?_
    exact hc _ (Option.some.inj h).symm _ hR21 hk22
def g_X10_back_j119 (F : Nat) (l1 : Int32) (l2 : Int32) (l3 : Int32) (s0 : Int32) (s1 : Int32) (s2 : Int32) (u : rg_U) : Option (Int32 ⊕ Int32) :=
  if (s1 + (g_X10_one s0)) ≤ s2 then (some (.inr l3)) else (some (.inl (l3 + 1)))
set_option maxHeartbeats 4000000 in
set_option maxRecDepth 100000 in
theorem k_X10_back_j119 {gs : List String} {ro : pm_RO} {n : Nat} {w w1 : Nat → va_E} {b : Nat} {u : rg_U} {F : Nat} {l1 : Int32} {l2 : Int32} {l3 : Int32} {s0 : Int32} {s1 : Int32} {s2 : Int32} {z : (Int32 ⊕ Int32)} {Q : Option Value → Nat → (Nat → va_E) → Prop} (hR : rg shM b u n w1) (hk : rg_k b shM.length w w1) (h : g_X10_back_j119 F l1 l2 l3 s0 s1 s2 u = some z) (hc : ∀ s', z = .inl s' → ∀ w1, rg shM b u n w1 → rg_k b shM.length w w1 → pm_X gs ro M_X10_back 9 0 0 0 0 79 [some (.ref (b + 0)), some (.int l1), some (.int l2), some (.int s'), none, none, none] [] n w1 Q) (he0 : ∀ r', z = .inr r' → ∀ w1, rg shM b u n w1 → rg_k b shM.length w w1 → pm_X gs ro M_X10_back 9 0 0 0 0 132 [some (.ref (b + 0)), some (.int l1), some (.int l2), some (.int r'), none, none, none] [] n w1 Q) : pm_X gs ro M_X10_back 9 0 0 0 0 119 [some (.ref (b + 0)), some (.int l1), some (.int l2), some (.int l3), none, none, none] [.int s0, .int s1, .int s2] n w1 Q := by
  unfold g_X10_back_j119 at h
  refine dx_cSp (M := M_X10_back) (Mc := M_X10_one) (dc := 0) (As := [.int s0]) (st := [.int s1, .int s2]) dX10_back_119 ml_X10_154 (by decide) (Nat.le_of_ble_eq_true rfl) rfl (k_X10_one rfl) ?_
  refine pm_iadd dX10_back_122 ?_
  refine pm_icmp_ge (tgt := 132) dX10_back_123 (by decide) (fun c39 => ?_) (fun c39 => ?_)
  · replace h := it_t c39 h
    refine pm_lw (L' := [some (.ref (b + 0)), some (.int l1), some (.int l2), some (.int l3), none, none, none]) ⟨Or.inr rfl, Or.inr rfl, Or.inr rfl, Or.inr rfl, Or.inl rfl, Or.inl rfl, Or.inl rfl, trivial⟩ ?_
    exact he0 _ (Option.some.inj h).symm _ hR hk
  · replace h := it_f c39 h
    refine pm_iinc (v := (l3 + 1)) dX10_back_126 rfl rfl (by decide) rfl rfl ?_
    refine pm_goto (tgt := 79) dX10_back_129 (by decide) ?_
    refine pm_lw (L' := [some (.ref (b + 0)), some (.int l1), some (.int l2), some (.int (l3 + 1)), none, none, none]) ⟨Or.inr rfl, Or.inr rfl, Or.inr rfl, Or.inr rfl, Or.inl rfl, Or.inl rfl, Or.inl rfl, trivial⟩ ?_
    exact hc _ (Option.some.inj h).symm _ hR hk
def g_X10_back_l79 (F : Nat) (l1 : Int32) (l2 : Int32) (u : rg_U) (l3 : Int32) : Option (Int32 ⊕ Int32) :=
  ck (inb 4 5) (if (rA u 15 4) ≤ l3 then (some (.inr l3)) else (ck (inb (3200 + l3) 4000) (ck (inb (3200 + l3) 4000) (if (rA u 11 (3200 + l3)) = 2 then (g_X10_back_j119 F l1 l2 l3 1 l1 (rA u 10 (3200 + l3)) u) else (g_X10_back_j119 F l1 l2 l3 0 l1 (rA u 10 (3200 + l3)) u)))))
set_option maxHeartbeats 4000000 in
set_option maxRecDepth 100000 in
theorem k_X10_back_l79 {gs : List String} {ro : pm_RO} {n : Nat} {w w1 : Nat → va_E} {b : Nat} {u : rg_U} {F : Nat} {l1 : Int32} {l2 : Int32} {l3 : Int32} {z : Int32 ⊕ Int32} {Q : Option Value → Nat → (Nat → va_E) → Prop} (hR : rg shM b u n w1) (hk : rg_k b shM.length w w1) (h : g_X10_back_l79 F l1 l2 u l3 = some z) (hc : ∀ s', z = .inl s' → ∀ w1, rg shM b u n w1 → rg_k b shM.length w w1 → pm_X gs ro M_X10_back 9 0 0 0 0 79 [some (.ref (b + 0)), some (.int l1), some (.int l2), some (.int s'), none, none, none] [] n w1 Q) (he0 : ∀ r', z = .inr r' → ∀ w1, rg shM b u n w1 → rg_k b shM.length w w1 → pm_X gs ro M_X10_back 9 0 0 0 0 132 [some (.ref (b + 0)), some (.int l1), some (.int l2), some (.int r'), none, none, none] [] n w1 Q) : pm_X gs ro M_X10_back 9 0 0 0 0 79 [some (.ref (b + 0)), some (.int l1), some (.int l2), some (.int l3), none, none, none] [] n w1 Q := by
  unfold g_X10_back_l79 at h
  refine pm_iload_n dX10_back_79 rfl ?_
  refine pm_aload_n dX10_back_80 rfl ?_
  refine dx_gr (j := 0) (o := 15) hR dX10_back_81 fl_X10_60 rfl rfl ?_
  refine pm_iconst (v := 4) dX10_back_84 (by decide) ?_
  obtain ⟨c34, h⟩ := ck_some h
  refine dx_al (j := 15) hR dX10_back_85 rfl (vp_in_iff.mpr c34) ?_
  refine pm_icmp_ge (tgt := 132) dX10_back_86 (by decide) (fun c35 => ?_) (fun c35 => ?_)
  · replace h := it_t c35 h
    refine pm_lw (L' := [some (.ref (b + 0)), some (.int l1), some (.int l2), some (.int l3), none, none, none]) ⟨Or.inr rfl, Or.inr rfl, Or.inr rfl, Or.inr rfl, Or.inl rfl, Or.inl rfl, Or.inl rfl, trivial⟩ ?_
    exact he0 _ (Option.some.inj h).symm _ hR hk
  · replace h := it_f c35 h
    refine pm_aload_n dX10_back_89 rfl ?_
    refine dx_gr (j := 0) (o := 10) hR dX10_back_90 fl_X10_45 rfl rfl ?_
    refine pm_sipush (v := 3200) dX10_back_93 (by decide) ?_
    refine pm_iload_n dX10_back_96 rfl ?_
    refine pm_iadd dX10_back_97 ?_
    obtain ⟨c36, h⟩ := ck_some h
    refine dx_al (j := 10) hR dX10_back_98 rfl (vp_in_iff.mpr c36) ?_
    refine pm_iload_n dX10_back_99 rfl ?_
    refine pm_aload_n dX10_back_100 rfl ?_
    refine dx_gr (j := 0) (o := 11) hR dX10_back_101 fl_X10_48 rfl rfl ?_
    refine pm_sipush (v := 3200) dX10_back_104 (by decide) ?_
    refine pm_iload_n dX10_back_107 rfl ?_
    refine pm_iadd dX10_back_108 ?_
    obtain ⟨c37, h⟩ := ck_some h
    refine dx_al (j := 11) hR dX10_back_109 rfl (vp_in_iff.mpr c37) ?_
    refine pm_iconst (v := 2) dX10_back_110 (by decide) ?_
    refine pm_icmp_ne (tgt := 118) dX10_back_111 (by decide) (fun c38 => ?_) (fun c38 => ?_)
    · replace h := it_f c38 h
      refine pm_iconst (v := 0) dX10_back_118 (by decide) ?_
      exact k_X10_back_j119 hR hk h hc he0
    · replace h := it_t c38 h
      refine pm_iconst (v := 1) dX10_back_114 (by decide) ?_
      refine pm_goto (tgt := 119) dX10_back_115 (by decide) ?_
      exact k_X10_back_j119 hR hk h hc he0
def g_X10_back_j170 (F : Nat) (l1 : Int32) (l2 : Int32) (l3 : Int32) (l5 : Int32) (s0 : Int32) (s1 : Int32) (u : rg_U) : Option ((Int32 × Int32) ⊕ Int32) :=
  some (.inl ((s1 + (g_X10_one s0)), (l5 + 1)))
set_option maxHeartbeats 4000000 in
set_option maxRecDepth 100000 in
theorem k_X10_back_j170 {gs : List String} {ro : pm_RO} {n : Nat} {w w1 : Nat → va_E} {b : Nat} {u : rg_U} {F : Nat} {l1 : Int32} {l2 : Int32} {l3 : Int32} {l5 : Int32} {s0 : Int32} {s1 : Int32} {z : ((Int32 × Int32) ⊕ Int32)} {Q : Option Value → Nat → (Nat → va_E) → Prop} (hR : rg shM b u n w1) (hk : rg_k b shM.length w w1) (h : g_X10_back_j170 F l1 l2 l3 l5 s0 s1 u = some z) (hc : ∀ s', z = .inl s' → ∀ w1, rg shM b u n w1 → rg_k b shM.length w w1 → pm_X gs ro M_X10_back 9 0 0 0 0 138 [some (.ref (b + 0)), some (.int l1), some (.int l2), some (.int l3), some (.int s'.1), some (.int s'.2), none] [] n w1 Q) (he0 : ∀ r', z = .inr r' → ∀ w1, rg shM b u n w1 → rg_k b shM.length w w1 → pm_X gs ro M_X10_back 9 0 0 0 0 182 [some (.ref (b + 0)), some (.int l1), some (.int l2), some (.int l3), some (.int r'), none, none] [] n w1 Q) : pm_X gs ro M_X10_back 9 0 0 0 0 170 [some (.ref (b + 0)), some (.int l1), some (.int l2), some (.int l3), none, some (.int l5), none] [.int s0, .int s1] n w1 Q := by
  unfold g_X10_back_j170 at h
  refine dx_cSp (M := M_X10_back) (Mc := M_X10_one) (dc := 0) (As := [.int s0]) (st := [.int s1]) dX10_back_170 ml_X10_154 (by decide) (Nat.le_of_ble_eq_true rfl) rfl (k_X10_one rfl) ?_
  refine pm_iadd dX10_back_173 ?_
  refine pm_istore dX10_back_174 (by decide) rfl rfl ?_
  refine pm_iinc (v := (l5 + 1)) dX10_back_176 rfl rfl (by decide) rfl rfl ?_
  refine pm_goto (tgt := 138) dX10_back_179 (by decide) ?_
  refine pm_lw (L' := [some (.ref (b + 0)), some (.int l1), some (.int l2), some (.int l3), some (.int (s1 + (g_X10_one s0))), some (.int (l5 + 1)), none]) ⟨Or.inr rfl, Or.inr rfl, Or.inr rfl, Or.inr rfl, Or.inr rfl, Or.inr rfl, Or.inl rfl, trivial⟩ ?_
  exact hc _ (Option.some.inj h).symm _ hR hk
def g_X10_back_l138 (F : Nat) (l1 : Int32) (l2 : Int32) (l3 : Int32) (u : rg_U) (l4 : Int32) (l5 : Int32) : Option ((Int32 × Int32) ⊕ Int32) :=
  ck (inb 4 5) (if (rA u 15 4) ≤ l5 then (some (.inr l4)) else (ck (inb (3200 + l5) 4000) (if (rA u 11 (3200 + l5)) = 0 then (g_X10_back_j170 F l1 l2 l3 l5 1 l4 u) else (g_X10_back_j170 F l1 l2 l3 l5 0 l4 u))))
set_option maxHeartbeats 4000000 in
set_option maxRecDepth 100000 in
theorem k_X10_back_l138 {gs : List String} {ro : pm_RO} {n : Nat} {w w1 : Nat → va_E} {b : Nat} {u : rg_U} {F : Nat} {l1 : Int32} {l2 : Int32} {l3 : Int32} {l4 : Int32} {l5 : Int32} {z : (Int32 × Int32) ⊕ Int32} {Q : Option Value → Nat → (Nat → va_E) → Prop} (hR : rg shM b u n w1) (hk : rg_k b shM.length w w1) (h : g_X10_back_l138 F l1 l2 l3 u l4 l5 = some z) (hc : ∀ s', z = .inl s' → ∀ w1, rg shM b u n w1 → rg_k b shM.length w w1 → pm_X gs ro M_X10_back 9 0 0 0 0 138 [some (.ref (b + 0)), some (.int l1), some (.int l2), some (.int l3), some (.int s'.1), some (.int s'.2), none] [] n w1 Q) (he0 : ∀ r', z = .inr r' → ∀ w1, rg shM b u n w1 → rg_k b shM.length w w1 → pm_X gs ro M_X10_back 9 0 0 0 0 182 [some (.ref (b + 0)), some (.int l1), some (.int l2), some (.int l3), some (.int r'), none, none] [] n w1 Q) : pm_X gs ro M_X10_back 9 0 0 0 0 138 [some (.ref (b + 0)), some (.int l1), some (.int l2), some (.int l3), some (.int l4), some (.int l5), none] [] n w1 Q := by
  unfold g_X10_back_l138 at h
  refine pm_iload dX10_back_138 rfl ?_
  refine pm_aload_n dX10_back_140 rfl ?_
  refine dx_gr (j := 0) (o := 15) hR dX10_back_141 fl_X10_60 rfl rfl ?_
  refine pm_iconst (v := 4) dX10_back_144 (by decide) ?_
  obtain ⟨c45, h⟩ := ck_some h
  refine dx_al (j := 15) hR dX10_back_145 rfl (vp_in_iff.mpr c45) ?_
  refine pm_icmp_ge (tgt := 182) dX10_back_146 (by decide) (fun c46 => ?_) (fun c46 => ?_)
  · replace h := it_t c46 h
    refine pm_lw (L' := [some (.ref (b + 0)), some (.int l1), some (.int l2), some (.int l3), some (.int l4), none, none]) ⟨Or.inr rfl, Or.inr rfl, Or.inr rfl, Or.inr rfl, Or.inr rfl, Or.inl rfl, Or.inl rfl, trivial⟩ ?_
    exact he0 _ (Option.some.inj h).symm _ hR hk
  · replace h := it_f c46 h
    refine pm_iload dX10_back_149 rfl ?_
    refine pm_aload_n dX10_back_151 rfl ?_
    refine dx_gr (j := 0) (o := 11) hR dX10_back_152 fl_X10_48 rfl rfl ?_
    refine pm_sipush (v := 3200) dX10_back_155 (by decide) ?_
    refine pm_iload dX10_back_158 rfl ?_
    refine pm_iadd dX10_back_160 ?_
    obtain ⟨c47, h⟩ := ck_some h
    refine dx_al (j := 11) hR dX10_back_161 rfl (vp_in_iff.mpr c47) ?_
    refine pm_if_ne (tgt := 169) dX10_back_162 (by decide) (fun c48 => ?_) (fun c48 => ?_)
    · replace h := it_f c48 h
      refine pm_iconst (v := 0) dX10_back_169 (by decide) ?_
      refine pm_lw (L' := [some (.ref (b + 0)), some (.int l1), some (.int l2), some (.int l3), none, some (.int l5), none]) ⟨Or.inr rfl, Or.inr rfl, Or.inr rfl, Or.inr rfl, Or.inl rfl, Or.inr rfl, Or.inl rfl, trivial⟩ ?_
      exact k_X10_back_j170 hR hk h hc he0
    · replace h := it_t c48 h
      refine pm_iconst (v := 1) dX10_back_165 (by decide) ?_
      refine pm_goto (tgt := 170) dX10_back_166 (by decide) ?_
      refine pm_lw (L' := [some (.ref (b + 0)), some (.int l1), some (.int l2), some (.int l3), none, some (.int l5), none]) ⟨Or.inr rfl, Or.inr rfl, Or.inr rfl, Or.inr rfl, Or.inl rfl, Or.inr rfl, Or.inl rfl, trivial⟩ ?_
      exact k_X10_back_j170 hR hk h hc he0
def g_X10_back_l190 (F : Nat) (l1 : Int32) (l2 : Int32) (l3 : Int32) (l4 : Int32) (l5 : Int32) (u : rg_U) : Option ((Int32 × rg_U) ⊕ rg_U) :=
  if l5 < 0 then (some (.inr u)) else (ck (inb l5 1000) (ck (inb (l5 + l4) 1000) (lt1 (sA u 29 (l5 + l4) (rA u 29 l5)) (fun u57 => some (.inl ((l5 + (-1)), u57))))))
set_option maxHeartbeats 4000000 in
set_option maxRecDepth 100000 in
theorem k_X10_back_l190 {gs : List String} {ro : pm_RO} {n : Nat} {w w1 : Nat → va_E} {b : Nat} {u : rg_U} {F : Nat} {l1 : Int32} {l2 : Int32} {l3 : Int32} {l4 : Int32} {l5 : Int32} {z : (Int32 × rg_U) ⊕ rg_U} {Q : Option Value → Nat → (Nat → va_E) → Prop} (hR : rg shM b u n w1) (hk : rg_k b shM.length w w1) (h : g_X10_back_l190 F l1 l2 l3 l4 l5 u = some z) (hc : ∀ s', z = .inl s' → ∀ w1, rg shM b s'.2 n w1 → rg_k b shM.length w w1 → pm_X gs ro M_X10_back 9 0 0 0 0 190 [some (.ref (b + 0)), some (.int l1), some (.int l2), some (.int l3), some (.int l4), some (.int s'.1), none] [] n w1 Q) (he0 : ∀ r', z = .inr r' → ∀ w1, rg shM b r' n w1 → rg_k b shM.length w w1 → pm_X gs ro M_X10_back 9 0 0 0 0 218 [some (.ref (b + 0)), some (.int l1), some (.int l2), some (.int l3), some (.int l4), none, none] [] n w1 Q) : pm_X gs ro M_X10_back 9 0 0 0 0 190 [some (.ref (b + 0)), some (.int l1), some (.int l2), some (.int l3), some (.int l4), some (.int l5), none] [] n w1 Q := by
  unfold g_X10_back_l190 at h
  refine pm_iload dX10_back_190 rfl ?_
  refine pm_if_lt (tgt := 218) dX10_back_192 (by decide) (fun c54 => ?_) (fun c54 => ?_)
  · replace h := it_t c54 h
    refine pm_lw (L' := [some (.ref (b + 0)), some (.int l1), some (.int l2), some (.int l3), some (.int l4), none, none]) ⟨Or.inr rfl, Or.inr rfl, Or.inr rfl, Or.inr rfl, Or.inr rfl, Or.inl rfl, Or.inl rfl, trivial⟩ ?_
    exact he0 _ (Option.some.inj h).symm _ hR hk
  · replace h := it_f c54 h
    refine pm_aload_n dX10_back_195 rfl ?_
    refine dx_gr (j := 0) (o := 29) hR dX10_back_196 fl_X10_105 rfl rfl ?_
    refine pm_iload dX10_back_199 rfl ?_
    refine pm_iload dX10_back_201 rfl ?_
    refine pm_iadd dX10_back_203 ?_
    refine pm_aload_n dX10_back_204 rfl ?_
    refine dx_gr (j := 0) (o := 29) hR dX10_back_205 fl_X10_105 rfl rfl ?_
    refine pm_iload dX10_back_208 rfl ?_
    obtain ⟨c55, h⟩ := ck_some h
    refine dx_al (j := 29) hR dX10_back_210 rfl (vp_in_iff.mpr c55) ?_
    obtain ⟨c56, h⟩ := ck_some h
    obtain ⟨u57, hu58, h⟩ := lt1_ex h
    refine dx_as (j := 29) hR hk dX10_back_211 rfl (vp_in_iff.mpr c56) hu58 (fun w59 hR60 hk61 => ?_)
    refine pm_iinc (v := (l5 + (-1))) dX10_back_212 rfl rfl (by decide) rfl rfl ?_
    refine pm_goto (tgt := 190) dX10_back_215 (by decide) ?_
    refine pm_lw (L' := [some (.ref (b + 0)), some (.int l1), some (.int l2), some (.int l3), some (.int l4), some (.int (l5 + (-1))), none]) ⟨Or.inr rfl, Or.inr rfl, Or.inr rfl, Or.inr rfl, Or.inr rfl, Or.inr rfl, Or.inl rfl, trivial⟩ ?_
    exact hc _ (Option.some.inj h).symm _ hR60 hk61
def g_X10_back_j284 (F : Nat) (l1 : Int32) (l2 : Int32) (l3 : Int32) (l5 : Int32) (l6 : Int32) (u : rg_U) : Option ((Int32 × Int32 × rg_U) ⊕ rg_U) :=
  some (.inl (l5, (l6 + 1), u))
set_option maxHeartbeats 4000000 in
set_option maxRecDepth 100000 in
theorem k_X10_back_j284 {gs : List String} {ro : pm_RO} {n : Nat} {w w1 : Nat → va_E} {b : Nat} {u : rg_U} {F : Nat} {l1 : Int32} {l2 : Int32} {l3 : Int32} {l5 : Int32} {l6 : Int32} {z : ((Int32 × Int32 × rg_U) ⊕ rg_U)} {Q : Option Value → Nat → (Nat → va_E) → Prop} (hR : rg shM b u n w1) (hk : rg_k b shM.length w w1) (h : g_X10_back_j284 F l1 l2 l3 l5 l6 u = some z) (hc : ∀ s', z = .inl s' → ∀ w1, rg shM b s'.2.2 n w1 → rg_k b shM.length w w1 → pm_X gs ro M_X10_back 9 0 0 0 0 235 [some (.ref (b + 0)), some (.int l1), some (.int l2), some (.int l3), none, some (.int s'.1), some (.int s'.2.1)] [] n w1 Q) (he0 : ∀ r', z = .inr r' → ∀ w1, rg shM b r' n w1 → rg_k b shM.length w w1 → pm_X gs ro M_X10_back 9 0 0 0 0 290 [some (.ref (b + 0)), some (.int l1), some (.int l2), some (.int l3), none, none, none] [] n w1 Q) : pm_X gs ro M_X10_back 9 0 0 0 0 284 [some (.ref (b + 0)), some (.int l1), some (.int l2), some (.int l3), none, some (.int l5), some (.int l6)] [] n w1 Q := by
  unfold g_X10_back_j284 at h
  refine pm_iinc (v := (l6 + 1)) dX10_back_284 rfl rfl (by decide) rfl rfl ?_
  refine pm_goto (tgt := 235) dX10_back_287 (by decide) ?_
  refine pm_lw (L' := [some (.ref (b + 0)), some (.int l1), some (.int l2), some (.int l3), none, some (.int l5), some (.int (l6 + 1))]) ⟨Or.inr rfl, Or.inr rfl, Or.inr rfl, Or.inr rfl, Or.inl rfl, Or.inr rfl, Or.inr rfl, trivial⟩ ?_
  exact hc _ (Option.some.inj h).symm _ hR hk
def g_X10_back_l235 (F : Nat) (l1 : Int32) (l2 : Int32) (l3 : Int32) (l5 : Int32) (l6 : Int32) (u : rg_U) : Option ((Int32 × Int32 × rg_U) ⊕ rg_U) :=
  ck (inb 4 5) (if (rA u 15 4) ≤ l6 then (some (.inr u)) else (ck (inb (3200 + l6) 4000) (if (rA u 11 (3200 + l6)) = 0 then (ck (inb (3200 + l6) 4000) (ck (inb l5 1000) (lt1 (sA u 29 l5 (rA u 12 (3200 + l6))) (fun u78 => g_X10_back_j284 F l1 l2 l3 (l5 + 1) l6 u78)))) else (g_X10_back_j284 F l1 l2 l3 l5 l6 u))))
set_option maxHeartbeats 4000000 in
set_option maxRecDepth 100000 in
theorem k_X10_back_l235 {gs : List String} {ro : pm_RO} {n : Nat} {w w1 : Nat → va_E} {b : Nat} {u : rg_U} {F : Nat} {l1 : Int32} {l2 : Int32} {l3 : Int32} {l5 : Int32} {l6 : Int32} {z : (Int32 × Int32 × rg_U) ⊕ rg_U} {Q : Option Value → Nat → (Nat → va_E) → Prop} (hR : rg shM b u n w1) (hk : rg_k b shM.length w w1) (h : g_X10_back_l235 F l1 l2 l3 l5 l6 u = some z) (hc : ∀ s', z = .inl s' → ∀ w1, rg shM b s'.2.2 n w1 → rg_k b shM.length w w1 → pm_X gs ro M_X10_back 9 0 0 0 0 235 [some (.ref (b + 0)), some (.int l1), some (.int l2), some (.int l3), none, some (.int s'.1), some (.int s'.2.1)] [] n w1 Q) (he0 : ∀ r', z = .inr r' → ∀ w1, rg shM b r' n w1 → rg_k b shM.length w w1 → pm_X gs ro M_X10_back 9 0 0 0 0 290 [some (.ref (b + 0)), some (.int l1), some (.int l2), some (.int l3), none, none, none] [] n w1 Q) : pm_X gs ro M_X10_back 9 0 0 0 0 235 [some (.ref (b + 0)), some (.int l1), some (.int l2), some (.int l3), none, some (.int l5), some (.int l6)] [] n w1 Q := by
  unfold g_X10_back_l235 at h
  refine pm_iload dX10_back_235 rfl ?_
  refine pm_aload_n dX10_back_237 rfl ?_
  refine dx_gr (j := 0) (o := 15) hR dX10_back_238 fl_X10_60 rfl rfl ?_
  refine pm_iconst (v := 4) dX10_back_241 (by decide) ?_
  obtain ⟨c72, h⟩ := ck_some h
  refine dx_al (j := 15) hR dX10_back_242 rfl (vp_in_iff.mpr c72) ?_
  refine pm_icmp_ge (tgt := 290) dX10_back_243 (by decide) (fun c73 => ?_) (fun c73 => ?_)
  · replace h := it_t c73 h
    refine pm_lw (L' := [some (.ref (b + 0)), some (.int l1), some (.int l2), some (.int l3), none, none, none]) ⟨Or.inr rfl, Or.inr rfl, Or.inr rfl, Or.inr rfl, Or.inl rfl, Or.inl rfl, Or.inl rfl, trivial⟩ ?_
    exact he0 _ (Option.some.inj h).symm _ hR hk
  · replace h := it_f c73 h
    refine pm_aload_n dX10_back_246 rfl ?_
    refine dx_gr (j := 0) (o := 11) hR dX10_back_247 fl_X10_48 rfl rfl ?_
    refine pm_sipush (v := 3200) dX10_back_250 (by decide) ?_
    refine pm_iload dX10_back_253 rfl ?_
    refine pm_iadd dX10_back_255 ?_
    obtain ⟨c74, h⟩ := ck_some h
    refine dx_al (j := 11) hR dX10_back_256 rfl (vp_in_iff.mpr c74) ?_
    refine pm_if_eq (tgt := 263) dX10_back_257 (by decide) (fun c75 => ?_) (fun c75 => ?_)
    · replace h := it_t c75 h
      refine pm_aload_n dX10_back_263 rfl ?_
      refine dx_gr (j := 0) (o := 29) hR dX10_back_264 fl_X10_105 rfl rfl ?_
      refine pm_iload dX10_back_267 rfl ?_
      refine pm_aload_n dX10_back_269 rfl ?_
      refine dx_gr (j := 0) (o := 12) hR dX10_back_270 fl_X10_51 rfl rfl ?_
      refine pm_sipush (v := 3200) dX10_back_273 (by decide) ?_
      refine pm_iload dX10_back_276 rfl ?_
      refine pm_iadd dX10_back_278 ?_
      obtain ⟨c76, h⟩ := ck_some h
      refine dx_al (j := 12) hR dX10_back_279 rfl (vp_in_iff.mpr c76) ?_
      obtain ⟨c77, h⟩ := ck_some h
      obtain ⟨u78, hu79, h⟩ := lt1_ex h
      refine dx_as (j := 29) hR hk dX10_back_280 rfl (vp_in_iff.mpr c77) hu79 (fun w80 hR81 hk82 => ?_)
      refine pm_iinc (v := (l5 + 1)) dX10_back_281 rfl rfl (by decide) rfl rfl ?_
      exact k_X10_back_j284 hR81 hk82 h hc he0
    · replace h := it_f c75 h
      refine pm_goto (tgt := 284) dX10_back_260 (by decide) ?_
      exact k_X10_back_j284 hR hk h hc he0
def g_X10_back_l297 (F : Nat) (l1 : Int32) (l2 : Int32) (u : rg_U) : Option (rg_U ⊕ rg_U) :=
  ck (inb 4 5) (if (rA u 19 4) ≤ 0 then (some (.inr u)) else (ck (inb 4 5) (ck (inb ((400 + (rA u 19 4)) - 1) 500) (if (rA u 16 ((400 + (rA u 19 4)) - 1)) < l1 then (some (.inr u)) else (ck (inb 4 5) (ck (inb 4 5) (lt1 (sA u 19 4 ((rA u 19 4) - 1)) (fun u101 => some (.inl u101)))))))))
set_option maxHeartbeats 4000000 in
set_option maxRecDepth 100000 in
theorem k_X10_back_l297 {gs : List String} {ro : pm_RO} {n : Nat} {w w1 : Nat → va_E} {b : Nat} {u : rg_U} {F : Nat} {l1 : Int32} {l2 : Int32} {z : rg_U ⊕ rg_U} {Q : Option Value → Nat → (Nat → va_E) → Prop} (hR : rg shM b u n w1) (hk : rg_k b shM.length w w1) (h : g_X10_back_l297 F l1 l2 u = some z) (hc : ∀ s', z = .inl s' → ∀ w1, rg shM b s' n w1 → rg_k b shM.length w w1 → pm_X gs ro M_X10_back 9 0 0 0 0 297 [some (.ref (b + 0)), some (.int l1), some (.int l2), none, none, none, none] [] n w1 Q) (he0 : ∀ r', z = .inr r' → ∀ w1, rg shM b r' n w1 → rg_k b shM.length w w1 → pm_X gs ro M_X10_back 9 0 0 0 0 340 [some (.ref (b + 0)), some (.int l1), some (.int l2), none, none, none, none] [] n w1 Q) : pm_X gs ro M_X10_back 9 0 0 0 0 297 [some (.ref (b + 0)), some (.int l1), some (.int l2), none, none, none, none] [] n w1 Q := by
  unfold g_X10_back_l297 at h
  refine pm_aload_n dX10_back_297 rfl ?_
  refine dx_gr (j := 0) (o := 19) hR dX10_back_298 fl_X10_72 rfl rfl ?_
  refine pm_iconst (v := 4) dX10_back_301 (by decide) ?_
  obtain ⟨c94, h⟩ := ck_some h
  refine dx_al (j := 19) hR dX10_back_302 rfl (vp_in_iff.mpr c94) ?_
  refine pm_if_le (tgt := 340) dX10_back_303 (by decide) (fun c95 => ?_) (fun c95 => ?_)
  · replace h := it_t c95 h
    refine pm_lw (L' := [some (.ref (b + 0)), some (.int l1), some (.int l2), none, none, none, none]) ⟨Or.inr rfl, Or.inr rfl, Or.inr rfl, Or.inl rfl, Or.inl rfl, Or.inl rfl, Or.inl rfl, trivial⟩ ?_
    exact he0 _ (Option.some.inj h).symm _ hR hk
  · replace h := it_f c95 h
    refine pm_aload_n dX10_back_306 rfl ?_
    refine dx_gr (j := 0) (o := 16) hR dX10_back_307 fl_X10_63 rfl rfl ?_
    refine pm_sipush (v := 400) dX10_back_310 (by decide) ?_
    refine pm_aload_n dX10_back_313 rfl ?_
    refine dx_gr (j := 0) (o := 19) hR dX10_back_314 fl_X10_72 rfl rfl ?_
    refine pm_iconst (v := 4) dX10_back_317 (by decide) ?_
    obtain ⟨c96, h⟩ := ck_some h
    refine dx_al (j := 19) hR dX10_back_318 rfl (vp_in_iff.mpr c96) ?_
    refine pm_iadd dX10_back_319 ?_
    refine pm_iconst (v := 1) dX10_back_320 (by decide) ?_
    refine pm_isub dX10_back_321 ?_
    obtain ⟨c97, h⟩ := ck_some h
    refine dx_al (j := 16) hR dX10_back_322 rfl (vp_in_iff.mpr c97) ?_
    refine pm_iload_n dX10_back_323 rfl ?_
    refine pm_icmp_lt (tgt := 340) dX10_back_324 (by decide) (fun c98 => ?_) (fun c98 => ?_)
    · replace h := it_t c98 h
      refine pm_lw (L' := [some (.ref (b + 0)), some (.int l1), some (.int l2), none, none, none, none]) ⟨Or.inr rfl, Or.inr rfl, Or.inr rfl, Or.inl rfl, Or.inl rfl, Or.inl rfl, Or.inl rfl, trivial⟩ ?_
      exact he0 _ (Option.some.inj h).symm _ hR hk
    · replace h := it_f c98 h
      refine pm_aload_n dX10_back_327 rfl ?_
      refine dx_gr (j := 0) (o := 19) hR dX10_back_328 fl_X10_72 rfl rfl ?_
      refine pm_iconst (v := 4) dX10_back_331 (by decide) ?_
      refine pm_dup2 dX10_back_332 rfl rfl ?_
      obtain ⟨c99, h⟩ := ck_some h
      refine dx_al (j := 19) hR dX10_back_333 rfl (vp_in_iff.mpr c99) ?_
      refine pm_iconst (v := 1) dX10_back_334 (by decide) ?_
      refine pm_isub dX10_back_335 ?_
      obtain ⟨c100, h⟩ := ck_some h
      obtain ⟨u101, hu102, h⟩ := lt1_ex h
      refine dx_as (j := 19) hR hk dX10_back_336 rfl (vp_in_iff.mpr c100) hu102 (fun w103 hR104 hk105 => ?_)
      refine pm_goto (tgt := 297) dX10_back_337 (by decide) ?_
      refine pm_lw (L' := [some (.ref (b + 0)), some (.int l1), some (.int l2), none, none, none, none]) ⟨Or.inr rfl, Or.inr rfl, Or.inr rfl, Or.inl rfl, Or.inl rfl, Or.inl rfl, Or.inl rfl, trivial⟩ ?_
      exact hc _ (Option.some.inj h).symm _ hR104 hk105
def g_X10_back_j376 (F : Nat) (l1 : Int32) (l2 : Int32) (l6 : Int32) (u : rg_U) : Option ((Int32 × rg_U) ⊕ rg_U) :=
  some (.inl ((l6 + 1), u))
set_option maxHeartbeats 4000000 in
set_option maxRecDepth 100000 in
theorem k_X10_back_j376 {gs : List String} {ro : pm_RO} {n : Nat} {w w1 : Nat → va_E} {b : Nat} {u : rg_U} {F : Nat} {l1 : Int32} {l2 : Int32} {l6 : Int32} {z : ((Int32 × rg_U) ⊕ rg_U)} {Q : Option Value → Nat → (Nat → va_E) → Prop} (hR : rg shM b u n w1) (hk : rg_k b shM.length w w1) (h : g_X10_back_j376 F l1 l2 l6 u = some z) (hc : ∀ s', z = .inl s' → ∀ w1, rg shM b s'.2 n w1 → rg_k b shM.length w w1 → pm_X gs ro M_X10_back 9 0 0 0 0 343 [some (.ref (b + 0)), some (.int l1), some (.int l2), none, none, none, some (.int s'.1)] [] n w1 Q) (he0 : ∀ r', z = .inr r' → ∀ w1, rg shM b r' n w1 → rg_k b shM.length w w1 → pm_X gs ro M_X10_back 9 0 0 0 0 382 [some (.ref (b + 0)), none, some (.int l2), none, none, none, none] [] n w1 Q) : pm_X gs ro M_X10_back 9 0 0 0 0 376 [some (.ref (b + 0)), some (.int l1), some (.int l2), none, none, none, some (.int l6)] [] n w1 Q := by
  unfold g_X10_back_j376 at h
  refine pm_iinc (v := (l6 + 1)) dX10_back_376 rfl rfl (by decide) rfl rfl ?_
  refine pm_goto (tgt := 343) dX10_back_379 (by decide) ?_
  refine pm_lw (L' := [some (.ref (b + 0)), some (.int l1), some (.int l2), none, none, none, some (.int (l6 + 1))]) ⟨Or.inr rfl, Or.inr rfl, Or.inr rfl, Or.inl rfl, Or.inl rfl, Or.inl rfl, Or.inr rfl, trivial⟩ ?_
  exact hc _ (Option.some.inj h).symm _ hR hk
def g_X10_back_l343 (F : Nat) (l1 : Int32) (l2 : Int32) (l6 : Int32) (u : rg_U) : Option ((Int32 × rg_U) ⊕ rg_U) :=
  if 3000 < l6 then (some (.inr u)) else (ck (inb 4 5) (if (l6 * (rA u 23 4)) ≤ l1 then (g_X10_back_j376 F l1 l2 l6 u) else (ck (inb (g_X10_heldAt 4 l6) 15005) (lt1 (sZ u 20 (g_X10_heldAt 4 l6) 0) (fun u115 => g_X10_back_j376 F l1 l2 l6 u115)))))
set_option maxHeartbeats 4000000 in
set_option maxRecDepth 100000 in
theorem k_X10_back_l343 {gs : List String} {ro : pm_RO} {n : Nat} {w w1 : Nat → va_E} {b : Nat} {u : rg_U} {F : Nat} {l1 : Int32} {l2 : Int32} {l6 : Int32} {z : (Int32 × rg_U) ⊕ rg_U} {Q : Option Value → Nat → (Nat → va_E) → Prop} (hR : rg shM b u n w1) (hk : rg_k b shM.length w w1) (h : g_X10_back_l343 F l1 l2 l6 u = some z) (hc : ∀ s', z = .inl s' → ∀ w1, rg shM b s'.2 n w1 → rg_k b shM.length w w1 → pm_X gs ro M_X10_back 9 0 0 0 0 343 [some (.ref (b + 0)), some (.int l1), some (.int l2), none, none, none, some (.int s'.1)] [] n w1 Q) (he0 : ∀ r', z = .inr r' → ∀ w1, rg shM b r' n w1 → rg_k b shM.length w w1 → pm_X gs ro M_X10_back 9 0 0 0 0 382 [some (.ref (b + 0)), none, some (.int l2), none, none, none, none] [] n w1 Q) : pm_X gs ro M_X10_back 9 0 0 0 0 343 [some (.ref (b + 0)), some (.int l1), some (.int l2), none, none, none, some (.int l6)] [] n w1 Q := by
  unfold g_X10_back_l343 at h
  refine pm_iload dX10_back_343 rfl ?_
  refine pm_sipush (v := 3000) dX10_back_345 (by decide) ?_
  refine pm_icmp_gt (tgt := 382) dX10_back_348 (by decide) (fun c111 => ?_) (fun c111 => ?_)
  · replace h := it_t c111 h
    refine pm_lw (L' := [some (.ref (b + 0)), none, some (.int l2), none, none, none, none]) ⟨Or.inr rfl, Or.inl rfl, Or.inr rfl, Or.inl rfl, Or.inl rfl, Or.inl rfl, Or.inl rfl, trivial⟩ ?_
    exact he0 _ (Option.some.inj h).symm _ hR hk
  · replace h := it_f c111 h
    refine pm_iload dX10_back_351 rfl ?_
    refine pm_aload_n dX10_back_353 rfl ?_
    refine dx_gr (j := 0) (o := 23) hR dX10_back_354 fl_X10_84 rfl rfl ?_
    refine pm_iconst (v := 4) dX10_back_357 (by decide) ?_
    obtain ⟨c112, h⟩ := ck_some h
    refine dx_al (j := 23) hR dX10_back_358 rfl (vp_in_iff.mpr c112) ?_
    refine pm_imul dX10_back_359 ?_
    refine pm_iload_n dX10_back_360 rfl ?_
    refine pm_icmp_le (tgt := 376) dX10_back_361 (by decide) (fun c113 => ?_) (fun c113 => ?_)
    · replace h := it_t c113 h
      exact k_X10_back_j376 hR hk h hc he0
    · replace h := it_f c113 h
      refine pm_aload_n dX10_back_364 rfl ?_
      refine dx_gr (j := 0) (o := 20) hR dX10_back_365 fl_X10_75 rfl rfl ?_
      refine pm_iconst (v := 4) dX10_back_368 (by decide) ?_
      refine pm_iload dX10_back_369 rfl ?_
      refine dx_cSp (M := M_X10_back) (Mc := M_X10_heldAt) (dc := 0) (As := [.int 4, .int l6]) (st := [.ref (b + 20)]) dX10_back_371 ml_X10_158 (by decide) (Nat.le_of_ble_eq_true rfl) rfl (k_X10_heldAt rfl) ?_
      refine pm_iconst (v := 0) dX10_back_374 (by decide) ?_
      obtain ⟨c114, h⟩ := ck_some h
      obtain ⟨u115, hu116, h⟩ := lt1_ex h
      refine dx_zs (j := 20) hR hk dX10_back_375 rfl (vp_in_iff.mpr c114) hu116 (fun w117 hR118 hk119 => ?_)
      exact k_X10_back_j376 hR118 hk119 h hc he0
def g_X10_back_j340 (F : Nat) (l1 : Int32) (l2 : Int32) (u : rg_U) : Option (Int32 × rg_U) :=
  ob (lp (fun (s : (Int32 × rg_U)) => g_X10_back_l343 F l1 l2 s.1 s.2) F ((1 : Int32), u)) (fun r120 => ck (inb 4 5) (ck (inb 4 5) (lt1 (sA r120 27 4 ((rA r120 27 4) + 1)) (fun u127 => lt1 (sF u127 0 41 (-1)) (fun u132 => some (l2, u132))))))
set_option maxHeartbeats 4000000 in
set_option maxRecDepth 100000 in
theorem k_X10_back_j340 {gs : List String} {ro : pm_RO} {n : Nat} {w w1 : Nat → va_E} {b : Nat} {u : rg_U} {F : Nat} {l1 : Int32} {l2 : Int32} {z : (Int32 × rg_U)} (hR : rg shM b u n w1) (hk : rg_k b shM.length w w1) (h : g_X10_back_j340 F l1 l2 u = some z) : pm_X gs ro M_X10_back 9 0 0 0 0 340 [some (.ref (b + 0)), some (.int l1), some (.int l2), none, none, none, none] [] n w1 (rg_post shM b n w (some (.int z.1)) z.2) := by
  unfold g_X10_back_j340 at h
  refine pm_iconst (v := 1) dX10_back_340 (by decide) ?_
  refine pm_istore dX10_back_341 (by decide) rfl rfl ?_
  obtain ⟨r120, h121, h⟩ := ob_some h
  refine lp_sound (P := fun (s : (Int32 × rg_U)) => ∀ w1, rg shM b s.2 n w1 → rg_k b shM.length w w1 → pm_X gs ro M_X10_back 9 0 0 0 0 343 [some (.ref (b + 0)), some (.int l1), some (.int l2), none, none, none, some (.int s.1)] [] n w1 (rg_post shM b n w (some (.int z.1)) z.2)) (E := (fun (r : rg_U) => ∀ w1, rg shM b r n w1 → rg_k b shM.length w w1 → pm_X gs ro M_X10_back 9 0 0 0 0 382 [some (.ref (b + 0)), none, some (.int l2), none, none, none, none] [] n w1 (rg_post shM b n w (some (.int z.1)) z.2))) (fun s x hx hc he w1 hR1 hk1 => k_X10_back_l343 hR1 hk1 hx hc (fun r q => he r q)) F _ r120 h121 ?_ _ hR hk
  intro w122 hR123 hk124
  refine pm_aload_n dX10_back_382 rfl ?_
  refine dx_gr (j := 0) (o := 27) hR123 dX10_back_383 fl_X10_96 rfl rfl ?_
  refine pm_iconst (v := 4) dX10_back_386 (by decide) ?_
  refine pm_dup2 dX10_back_387 rfl rfl ?_
  obtain ⟨c125, h⟩ := ck_some h
  refine dx_al (j := 27) hR123 dX10_back_388 rfl (vp_in_iff.mpr c125) ?_
  refine pm_iconst (v := 1) dX10_back_389 (by decide) ?_
  refine pm_iadd dX10_back_390 ?_
  obtain ⟨c126, h⟩ := ck_some h
  obtain ⟨u127, hu128, h⟩ := lt1_ex h
  refine dx_as (j := 27) hR123 hk124 dX10_back_391 rfl (vp_in_iff.mpr c126) hu128 (fun w129 hR130 hk131 => ?_)
  refine pm_aload_n dX10_back_392 rfl ?_
  refine pm_iconst (v := (-1)) dX10_back_393 (by decide) ?_
  obtain ⟨u132, hu133, h⟩ := lt1_ex h
  refine dx_pi (j := 0) hR130 hk131 dX10_back_394 fl_X10_117 rfl rfl hu133 (fun w134 hR135 hk136 => ?_)
  refine pm_iload_n dX10_back_397 rfl ?_
  cases h
  exact pm_iret dX10_back_398 rfl (Nat.le_refl _) (Nat.le_refl _) ⟨rfl, rfl, hR135, hk136⟩
def g_X10_back_j132 (F : Nat) (l1 : Int32) (l2 : Int32) (l3 : Int32) (u : rg_U) : Option (Int32 × rg_U) :=
  ob (lp (fun (s : (Int32 × Int32)) => g_X10_back_l138 F l1 l2 l3 u s.1 s.2) F ((0 : Int32), (l3 : Int32))) (fun r49 => ob (lp (fun (s : (Int32 × rg_U)) => g_X10_back_l190 F l1 l2 l3 r49 s.1 s.2) F ((((rF u 0 33) - 1) : Int32), u)) (fun r62 => lt1 (sF r62 0 33 ((rF r62 0 33) + r49)) (fun u67 => ob (lp (fun (s : (Int32 × Int32 × rg_U)) => g_X10_back_l235 F l1 l2 l3 s.1 s.2.1 s.2.2) F ((0 : Int32), (l3 : Int32), u67)) (fun r83 => ck (inb 4 5) (lt1 (sA r83 15 4 l3) (fun u89 => ob (lp (fun (s : rg_U) => g_X10_back_l297 F l1 l2 s) F u89) (fun r106 => g_X10_back_j340 F l1 l2 r106)))))))
set_option maxHeartbeats 4000000 in
set_option maxRecDepth 100000 in
theorem k_X10_back_j132 {gs : List String} {ro : pm_RO} {n : Nat} {w w1 : Nat → va_E} {b : Nat} {u : rg_U} {F : Nat} {l1 : Int32} {l2 : Int32} {l3 : Int32} {z : (Int32 × rg_U)} (hR : rg shM b u n w1) (hk : rg_k b shM.length w w1) (h : g_X10_back_j132 F l1 l2 l3 u = some z) : pm_X gs ro M_X10_back 9 0 0 0 0 132 [some (.ref (b + 0)), some (.int l1), some (.int l2), some (.int l3), none, none, none] [] n w1 (rg_post shM b n w (some (.int z.1)) z.2) := by
  unfold g_X10_back_j132 at h
  refine pm_iconst (v := 0) dX10_back_132 (by decide) ?_
  refine pm_istore dX10_back_133 (by decide) rfl rfl ?_
  refine pm_iload_n dX10_back_135 rfl ?_
  refine pm_istore dX10_back_136 (by decide) rfl rfl ?_
  obtain ⟨r49, h50, h⟩ := ob_some h
  refine lp_sound (P := fun (s : (Int32 × Int32)) => ∀ w1, rg shM b u n w1 → rg_k b shM.length w w1 → pm_X gs ro M_X10_back 9 0 0 0 0 138 [some (.ref (b + 0)), some (.int l1), some (.int l2), some (.int l3), some (.int s.1), some (.int s.2), none] [] n w1 (rg_post shM b n w (some (.int z.1)) z.2)) (E := (fun (r : Int32) => ∀ w1, rg shM b u n w1 → rg_k b shM.length w w1 → pm_X gs ro M_X10_back 9 0 0 0 0 182 [some (.ref (b + 0)), some (.int l1), some (.int l2), some (.int l3), some (.int r), none, none] [] n w1 (rg_post shM b n w (some (.int z.1)) z.2))) (fun s x hx hc he w1 hR1 hk1 => k_X10_back_l138 hR1 hk1 hx hc (fun r q => he r q)) F _ r49 h50 ?_ _ hR hk
  intro w51 hR52 hk53
  refine pm_aload_n dX10_back_182 rfl ?_
  refine dx_gi (j := 0) hR52 dX10_back_183 fl_X10_166 rfl rfl ?_
  refine pm_iconst (v := 1) dX10_back_186 (by decide) ?_
  refine pm_isub dX10_back_187 ?_
  refine pm_istore dX10_back_188 (by decide) rfl rfl ?_
  obtain ⟨r62, h63, h⟩ := ob_some h
  refine lp_sound (P := fun (s : (Int32 × rg_U)) => ∀ w1, rg shM b s.2 n w1 → rg_k b shM.length w w1 → pm_X gs ro M_X10_back 9 0 0 0 0 190 [some (.ref (b + 0)), some (.int l1), some (.int l2), some (.int l3), some (.int r49), some (.int s.1), none] [] n w1 (rg_post shM b n w (some (.int z.1)) z.2)) (E := (fun (r : rg_U) => ∀ w1, rg shM b r n w1 → rg_k b shM.length w w1 → pm_X gs ro M_X10_back 9 0 0 0 0 218 [some (.ref (b + 0)), some (.int l1), some (.int l2), some (.int l3), some (.int r49), none, none] [] n w1 (rg_post shM b n w (some (.int z.1)) z.2))) (fun s x hx hc he w1 hR1 hk1 => k_X10_back_l190 hR1 hk1 hx hc (fun r q => he r q)) F _ r62 h63 ?_ _ hR52 hk53
  intro w64 hR65 hk66
  refine pm_aload_n dX10_back_218 rfl ?_
  refine pm_dup dX10_back_219 rfl ?_
  refine dx_gi (j := 0) hR65 dX10_back_220 fl_X10_166 rfl rfl ?_
  refine pm_iload dX10_back_223 rfl ?_
  refine pm_iadd dX10_back_225 ?_
  obtain ⟨u67, hu68, h⟩ := lt1_ex h
  refine dx_pi (j := 0) hR65 hk66 dX10_back_226 fl_X10_166 rfl rfl hu68 (fun w69 hR70 hk71 => ?_)
  refine pm_iconst (v := 0) dX10_back_229 (by decide) ?_
  refine pm_istore dX10_back_230 (by decide) rfl rfl ?_
  refine pm_iload_n dX10_back_232 rfl ?_
  refine pm_istore dX10_back_233 (by decide) rfl rfl ?_
  refine pm_lw (L' := [some (.ref (b + 0)), some (.int l1), some (.int l2), some (.int l3), none, some (.int 0), some (.int l3)]) ⟨Or.inr rfl, Or.inr rfl, Or.inr rfl, Or.inr rfl, Or.inl rfl, Or.inr rfl, Or.inr rfl, trivial⟩ ?_
  obtain ⟨r83, h84, h⟩ := ob_some h
  refine lp_sound (P := fun (s : (Int32 × Int32 × rg_U)) => ∀ w1, rg shM b s.2.2 n w1 → rg_k b shM.length w w1 → pm_X gs ro M_X10_back 9 0 0 0 0 235 [some (.ref (b + 0)), some (.int l1), some (.int l2), some (.int l3), none, some (.int s.1), some (.int s.2.1)] [] n w1 (rg_post shM b n w (some (.int z.1)) z.2)) (E := (fun (r : rg_U) => ∀ w1, rg shM b r n w1 → rg_k b shM.length w w1 → pm_X gs ro M_X10_back 9 0 0 0 0 290 [some (.ref (b + 0)), some (.int l1), some (.int l2), some (.int l3), none, none, none] [] n w1 (rg_post shM b n w (some (.int z.1)) z.2))) (fun s x hx hc he w1 hR1 hk1 => k_X10_back_l235 hR1 hk1 hx hc (fun r q => he r q)) F _ r83 h84 ?_ _ hR70 hk71
  intro w85 hR86 hk87
  refine pm_aload_n dX10_back_290 rfl ?_
  refine dx_gr (j := 0) (o := 15) hR86 dX10_back_291 fl_X10_60 rfl rfl ?_
  refine pm_iconst (v := 4) dX10_back_294 (by decide) ?_
  refine pm_iload_n dX10_back_295 rfl ?_
  obtain ⟨c88, h⟩ := ck_some h
  obtain ⟨u89, hu90, h⟩ := lt1_ex h
  refine dx_as (j := 15) hR86 hk87 dX10_back_296 rfl (vp_in_iff.mpr c88) hu90 (fun w91 hR92 hk93 => ?_)
  refine pm_lw (L' := [some (.ref (b + 0)), some (.int l1), some (.int l2), none, none, none, none]) ⟨Or.inr rfl, Or.inr rfl, Or.inr rfl, Or.inl rfl, Or.inl rfl, Or.inl rfl, Or.inl rfl, trivial⟩ ?_
  obtain ⟨r106, h107, h⟩ := ob_some h
  refine lp_sound (P := fun (s : rg_U) => ∀ w1, rg shM b s n w1 → rg_k b shM.length w w1 → pm_X gs ro M_X10_back 9 0 0 0 0 297 [some (.ref (b + 0)), some (.int l1), some (.int l2), none, none, none, none] [] n w1 (rg_post shM b n w (some (.int z.1)) z.2)) (E := (fun (r : rg_U) => ∀ w1, rg shM b r n w1 → rg_k b shM.length w w1 → pm_X gs ro M_X10_back 9 0 0 0 0 340 [some (.ref (b + 0)), some (.int l1), some (.int l2), none, none, none, none] [] n w1 (rg_post shM b n w (some (.int z.1)) z.2))) (fun s x hx hc he w1 hR1 hk1 => k_X10_back_l297 hR1 hk1 hx hc (fun r q => he r q)) F _ r106 h107 ?_ _ hR92 hk93
  intro w108 hR109 hk110
  exact k_X10_back_j340 hR109 hk110 h
def g_X10_back (F : Nat) (x1 : Int32) (u : rg_U) : Option (Int32 × rg_U) :=
  lt1 (sF u 0 35 0) (fun u1 => ck (inb 4 5) (if (rA u1 5 4) = 0 then (some ((-1), u1)) else (ck (inb 4 5) (if (g_X10_isIn x1 0 ((rA u1 21 4) - 1)) = 0 then (some ((-1), u1)) else (ob (g_X10_replays F 4 x1 u1) (fun r10 => ob (lp (fun (s : (Int32 × rg_U)) => g_X10_back_l45 F x1 (rF r10 0 35) s.1 s.2) F ((0 : Int32), r10)) (fun r23 => ck (inb 4 5) (lt1 (sA r23 21 4 x1) (fun u29 => ob (lp (fun (s : Int32) => g_X10_back_l79 F x1 (rF r10 0 35) u29 s) F (0 : Int32)) (fun r40 => g_X10_back_j132 F x1 (rF r10 0 35) r40 u29))))))))))
set_option maxHeartbeats 4000000 in
set_option maxRecDepth 100000 in
theorem k_X10_back {gs : List String} {ro : pm_RO} {n : Nat} {w : Nat → va_E} {b : Nat} {u : rg_U} {F : Nat} {x1 : Int32} {z : (Int32 × rg_U)} (hR : rg shM b u n w) (h : g_X10_back F x1 u = some z) : pm_Met gs ro M_X10_back 9 0 0 [.ref (b + 0), .int x1] n w (rg_post shM b n w (some (.int z.1)) z.2) := by
  unfold g_X10_back at h
  refine pm_ofX in_X10_back (Nat.le_of_ble_eq_true rfl) rfl (L := [some (.ref (b + 0)), some (.int x1), none, none, none, none, none]) rfl ?_
  refine pm_aload_n dX10_back_0 rfl ?_
  refine pm_iconst (v := 0) dX10_back_1 (by decide) ?_
  obtain ⟨u1, hu2, h⟩ := lt1_ex h
  refine dx_pi (j := 0) hR rg_k0 dX10_back_2 fl_X10_276 rfl rfl hu2 (fun w3 hR4 hk5 => ?_)
  refine pm_aload_n dX10_back_5 rfl ?_
  refine dx_gr (j := 0) (o := 5) hR4 dX10_back_6 fl_X10_29 rfl rfl ?_
  refine pm_iconst (v := 4) dX10_back_9 (by decide) ?_
  obtain ⟨c6, h⟩ := ck_some h
  refine dx_zl (j := 5) hR4 dX10_back_10 rfl (vp_in_iff.mpr c6) ?_
  refine pm_if_eq (tgt := 30) dX10_back_11 (by decide) (fun c7 => ?_) (fun c7 => ?_)
  · replace h := it_t c7 h
    refine pm_iconst (v := (-1)) dX10_back_30 (by decide) ?_
    cases h
    exact pm_iret dX10_back_31 rfl (Nat.le_refl _) (Nat.le_refl _) ⟨rfl, rfl, hR4, hk5⟩
  · replace h := it_f c7 h
    refine pm_iload_n dX10_back_14 rfl ?_
    refine pm_iconst (v := 0) dX10_back_15 (by decide) ?_
    refine pm_aload_n dX10_back_16 rfl ?_
    refine dx_gr (j := 0) (o := 21) hR4 dX10_back_17 fl_X10_78 rfl rfl ?_
    refine pm_iconst (v := 4) dX10_back_20 (by decide) ?_
    obtain ⟨c8, h⟩ := ck_some h
    refine dx_al (j := 21) hR4 dX10_back_21 rfl (vp_in_iff.mpr c8) ?_
    refine pm_iconst (v := 1) dX10_back_22 (by decide) ?_
    refine pm_isub dX10_back_23 ?_
    refine dx_cSp (M := M_X10_back) (Mc := M_X10_isIn) (dc := 0) (As := [.int x1, .int 0, .int ((rA u1 21 4) - 1)]) (st := []) dX10_back_24 ml_X10_138 (by decide) (Nat.le_of_ble_eq_true rfl) rfl (k_X10_isIn rfl) ?_
    refine pm_if_ne (tgt := 32) dX10_back_27 (by decide) (fun c9 => ?_) (fun c9 => ?_)
    · replace h := it_f c9 h
      refine pm_aload_n dX10_back_32 rfl ?_
      refine pm_iconst (v := 4) dX10_back_33 (by decide) ?_
      refine pm_iload_n dX10_back_34 rfl ?_
      obtain ⟨r10, h11, h⟩ := ob_some h
      refine dx_cVv (j := 0) (M := M_X10_back) (Mc := M_X10_replays) (dc := 8) (As := [.int 4, .int x1]) (st := []) hR4 hk5 dX10_back_35 ml_X10_292 ⟨TX10, 55, rfl⟩ rfl (by decide) (Nat.le_of_ble_eq_true rfl) rfl (k_X10_replays hR4 h11) (fun w12 hR13 hk14 => ?_)
      refine pm_aload_n dX10_back_38 rfl ?_
      refine dx_gi (j := 0) hR13 dX10_back_39 fl_X10_276 rfl rfl ?_
      refine pm_istore_n dX10_back_42 (by decide) rfl rfl ?_
      refine pm_iconst (v := 0) dX10_back_43 (by decide) ?_
      refine pm_istore_n dX10_back_44 (by decide) rfl rfl ?_
      obtain ⟨r23, h24, h⟩ := ob_some h
      refine lp_sound (P := fun (s : (Int32 × rg_U)) => ∀ w1, rg shM b s.2 n w1 → rg_k b shM.length w w1 → pm_X gs ro M_X10_back 9 0 0 0 0 45 [some (.ref (b + 0)), some (.int x1), some (.int (rF r10 0 35)), some (.int s.1), none, none, none] [] n w1 (rg_post shM b n w (some (.int z.1)) z.2)) (E := (fun (r : rg_U) => ∀ w1, rg shM b r n w1 → rg_k b shM.length w w1 → pm_X gs ro M_X10_back 9 0 0 0 0 70 [some (.ref (b + 0)), some (.int x1), some (.int (rF r10 0 35)), none, none, none, none] [] n w1 (rg_post shM b n w (some (.int z.1)) z.2))) (fun s x hx hc he w1 hR1 hk1 => k_X10_back_l45 hR1 hk1 hx hc (fun r q => he r q)) F _ r23 h24 ?_ _ hR13 hk14
      intro w25 hR26 hk27
      refine pm_aload_n dX10_back_70 rfl ?_
      refine dx_gr (j := 0) (o := 21) hR26 dX10_back_71 fl_X10_78 rfl rfl ?_
      refine pm_iconst (v := 4) dX10_back_74 (by decide) ?_
      refine pm_iload_n dX10_back_75 rfl ?_
      obtain ⟨c28, h⟩ := ck_some h
      obtain ⟨u29, hu30, h⟩ := lt1_ex h
      refine dx_as (j := 21) hR26 hk27 dX10_back_76 rfl (vp_in_iff.mpr c28) hu30 (fun w31 hR32 hk33 => ?_)
      refine pm_iconst (v := 0) dX10_back_77 (by decide) ?_
      refine pm_istore_n dX10_back_78 (by decide) rfl rfl ?_
      obtain ⟨r40, h41, h⟩ := ob_some h
      refine lp_sound (P := fun (s : Int32) => ∀ w1, rg shM b u29 n w1 → rg_k b shM.length w w1 → pm_X gs ro M_X10_back 9 0 0 0 0 79 [some (.ref (b + 0)), some (.int x1), some (.int (rF r10 0 35)), some (.int s), none, none, none] [] n w1 (rg_post shM b n w (some (.int z.1)) z.2)) (E := (fun (r : Int32) => ∀ w1, rg shM b u29 n w1 → rg_k b shM.length w w1 → pm_X gs ro M_X10_back 9 0 0 0 0 132 [some (.ref (b + 0)), some (.int x1), some (.int (rF r10 0 35)), some (.int r), none, none, none] [] n w1 (rg_post shM b n w (some (.int z.1)) z.2))) (fun s x hx hc he w1 hR1 hk1 => k_X10_back_l79 hR1 hk1 hx hc (fun r q => he r q)) F _ r40 h41 ?_ _ hR32 hk33
      intro w42 hR43 hk44
      exact k_X10_back_j132 hR43 hk44 h
    · replace h := it_t c9 h
      refine pm_iconst (v := (-1)) dX10_back_30 (by decide) ?_
      cases h
      exact pm_iret dX10_back_31 rfl (Nat.le_refl _) (Nat.le_refl _) ⟨rfl, rfl, hR4, hk5⟩
