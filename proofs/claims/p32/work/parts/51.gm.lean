theorem dX10_cells_0 : decode cX10_cells 0 = .ok (.iload_n 2, 1) := by decide +kernel
theorem dX10_cells_1 : decode cX10_cells 1 = .ok (.bipush 13, 2) := by decide +kernel
theorem dX10_cells_3 : decode cX10_cells 3 = .ok (.if_icmp .ne 8, 3) := by decide +kernel
theorem dX10_cells_6 : decode cX10_cells 6 = .ok (.iload 4, 2) := by decide +kernel
theorem dX10_cells_8 : decode cX10_cells 8 = .ok (.goto 4, 3) := by decide +kernel
theorem dX10_cells_11 : decode cX10_cells 11 = .ok (.iload_n 3, 1) := by decide +kernel
theorem dX10_cells_12 : decode cX10_cells 12 = .ok (.istore 5, 2) := by decide +kernel
theorem dX10_cells_14 : decode cX10_cells 14 = .ok (.aload_n 1, 1) := by decide +kernel
theorem dX10_cells_15 : decode cX10_cells 15 = .ok (.iload 5, 2) := by decide +kernel
theorem dX10_cells_17 : decode cX10_cells 17 = .ok (.iconst 2, 1) := by decide +kernel
theorem dX10_cells_18 : decode cX10_cells 18 = .ok (.invokestatic 211, 3) := by decide +kernel
theorem dX10_cells_21 : decode cX10_cells 21 = .ok (.ifCond .ne 10, 3) := by decide +kernel
theorem dX10_cells_24 : decode cX10_cells 24 = .ok (.aload_n 0, 1) := by decide +kernel
theorem dX10_cells_25 : decode cX10_cells 25 = .ok (.aload_n 1, 1) := by decide +kernel
theorem dX10_cells_26 : decode cX10_cells 26 = .ok (.iconst 1, 1) := by decide +kernel
theorem dX10_cells_27 : decode cX10_cells 27 = .ok (.invokevirtual 200, 3) := by decide +kernel
theorem dX10_cells_30 : decode cX10_cells 30 = .ok (.return_, 1) := by decide +kernel
theorem dX10_cells_31 : decode cX10_cells 31 = .ok (.aload_n 1, 1) := by decide +kernel
theorem dX10_cells_32 : decode cX10_cells 32 = .ok (.bipush 40, 2) := by decide +kernel
theorem dX10_cells_34 : decode cX10_cells 34 = .ok (.iload 5, 2) := by decide +kernel
theorem dX10_cells_36 : decode cX10_cells 36 = .ok (.iadd, 1) := by decide +kernel
theorem dX10_cells_37 : decode cX10_cells 37 = .ok (.iaload, 1) := by decide +kernel
theorem dX10_cells_38 : decode cX10_cells 38 = .ok (.iconst 0, 1) := by decide +kernel
theorem dX10_cells_39 : decode cX10_cells 39 = .ok (.bipush 31, 2) := by decide +kernel
theorem dX10_cells_41 : decode cX10_cells 41 = .ok (.invokestatic 138, 3) := by decide +kernel
theorem dX10_cells_44 : decode cX10_cells 44 = .ok (.ifCond .ne 10, 3) := by decide +kernel
theorem dX10_cells_47 : decode cX10_cells 47 = .ok (.aload_n 0, 1) := by decide +kernel
theorem dX10_cells_48 : decode cX10_cells 48 = .ok (.aload_n 1, 1) := by decide +kernel
theorem dX10_cells_49 : decode cX10_cells 49 = .ok (.iconst 3, 1) := by decide +kernel
theorem dX10_cells_50 : decode cX10_cells 50 = .ok (.invokevirtual 200, 3) := by decide +kernel
theorem dX10_cells_53 : decode cX10_cells 53 = .ok (.return_, 1) := by decide +kernel
theorem dX10_cells_54 : decode cX10_cells 54 = .ok (.bipush 8, 2) := by decide +kernel
theorem dX10_cells_56 : decode cX10_cells 56 = .ok (.aload_n 1, 1) := by decide +kernel
theorem dX10_cells_57 : decode cX10_cells 57 = .ok (.bipush 40, 2) := by decide +kernel
theorem dX10_cells_59 : decode cX10_cells 59 = .ok (.iload 5, 2) := by decide +kernel
theorem dX10_cells_61 : decode cX10_cells 61 = .ok (.iadd, 1) := by decide +kernel
theorem dX10_cells_62 : decode cX10_cells 62 = .ok (.iaload, 1) := by decide +kernel
theorem dX10_cells_63 : decode cX10_cells 63 = .ok (.iadd, 1) := by decide +kernel
theorem dX10_cells_64 : decode cX10_cells 64 = .ok (.istore 6, 2) := by decide +kernel
theorem dX10_cells_66 : decode cX10_cells 66 = .ok (.iload_n 2, 1) := by decide +kernel
theorem dX10_cells_67 : decode cX10_cells 67 = .ok (.bipush 13, 2) := by decide +kernel
theorem dX10_cells_69 : decode cX10_cells 69 = .ok (.if_icmp .ne 25, 3) := by decide +kernel
theorem dX10_cells_72 : decode cX10_cells 72 = .ok (.aload_n 0, 1) := by decide +kernel
theorem dX10_cells_73 : decode cX10_cells 73 = .ok (.aload_n 1, 1) := by decide +kernel
theorem dX10_cells_74 : decode cX10_cells 74 = .ok (.iload_n 3, 1) := by decide +kernel
theorem dX10_cells_75 : decode cX10_cells 75 = .ok (.aload_n 1, 1) := by decide +kernel
theorem dX10_cells_76 : decode cX10_cells 76 = .ok (.iconst 0, 1) := by decide +kernel
theorem dX10_cells_77 : decode cX10_cells 77 = .ok (.iload 6, 2) := by decide +kernel
theorem dX10_cells_79 : decode cX10_cells 79 = .ok (.iadd, 1) := by decide +kernel
theorem dX10_cells_80 : decode cX10_cells 80 = .ok (.iaload, 1) := by decide +kernel
theorem dX10_cells_81 : decode cX10_cells 81 = .ok (.aload_n 1, 1) := by decide +kernel
theorem dX10_cells_82 : decode cX10_cells 82 = .ok (.bipush 40, 2) := by decide +kernel
theorem dX10_cells_84 : decode cX10_cells 84 = .ok (.iload 6, 2) := by decide +kernel
theorem dX10_cells_86 : decode cX10_cells 86 = .ok (.iadd, 1) := by decide +kernel
theorem dX10_cells_87 : decode cX10_cells 87 = .ok (.iaload, 1) := by decide +kernel
theorem dX10_cells_88 : decode cX10_cells 88 = .ok (.invokevirtual 208, 3) := by decide +kernel
theorem dX10_cells_91 : decode cX10_cells 91 = .ok (.goto 23, 3) := by decide +kernel
theorem dX10_cells_94 : decode cX10_cells 94 = .ok (.aload_n 0, 1) := by decide +kernel
theorem dX10_cells_95 : decode cX10_cells 95 = .ok (.aload_n 1, 1) := by decide +kernel
theorem dX10_cells_96 : decode cX10_cells 96 = .ok (.iload 6, 2) := by decide +kernel
theorem dX10_cells_98 : decode cX10_cells 98 = .ok (.aload_n 1, 1) := by decide +kernel
theorem dX10_cells_99 : decode cX10_cells 99 = .ok (.iconst 0, 1) := by decide +kernel
theorem dX10_cells_100 : decode cX10_cells 100 = .ok (.iload 4, 2) := by decide +kernel
theorem dX10_cells_102 : decode cX10_cells 102 = .ok (.iadd, 1) := by decide +kernel
theorem dX10_cells_103 : decode cX10_cells 103 = .ok (.iaload, 1) := by decide +kernel
theorem dX10_cells_104 : decode cX10_cells 104 = .ok (.aload_n 1, 1) := by decide +kernel
theorem dX10_cells_105 : decode cX10_cells 105 = .ok (.bipush 40, 2) := by decide +kernel
theorem dX10_cells_107 : decode cX10_cells 107 = .ok (.iload 4, 2) := by decide +kernel
theorem dX10_cells_109 : decode cX10_cells 109 = .ok (.iadd, 1) := by decide +kernel
theorem dX10_cells_110 : decode cX10_cells 110 = .ok (.iaload, 1) := by decide +kernel
theorem dX10_cells_111 : decode cX10_cells 111 = .ok (.invokevirtual 208, 3) := by decide +kernel
theorem dX10_cells_114 : decode cX10_cells 114 = .ok (.return_, 1) := by decide +kernel
theorem dX10_does_0 : decode cX10_does 0 = .ok (.iload_n 2, 1) := by decide +kernel
theorem dX10_does_1 : decode cX10_does 1 = .ok (.tableswitch 405 0 22 #[107, 116, 128, 140, 405, 405, 405, 405, 405, 405, 162, 212, 250, 304, 304, 316, 316, 316, 316, 328, 328, 354, 394], 107) := by decide +kernel
theorem dX10_does_108 : decode cX10_does 108 = .ok (.aload_n 1, 1) := by decide +kernel
theorem dX10_does_109 : decode cX10_does 109 = .ok (.sipush 132, 3) := by decide +kernel
theorem dX10_does_112 : decode cX10_does 112 = .ok (.iconst 2, 1) := by decide +kernel
theorem dX10_does_113 : decode cX10_does 113 = .ok (.iastore, 1) := by decide +kernel
theorem dX10_does_114 : decode cX10_does 114 = .ok (.goto 303, 3) := by decide +kernel
theorem dX10_does_117 : decode cX10_does 117 = .ok (.aload_n 0, 1) := by decide +kernel
theorem dX10_does_118 : decode cX10_does 118 = .ok (.aload_n 1, 1) := by decide +kernel
theorem dX10_does_119 : decode cX10_does 119 = .ok (.iload_n 3, 1) := by decide +kernel
theorem dX10_does_120 : decode cX10_does 120 = .ok (.iconst 2, 1) := by decide +kernel
theorem dX10_does_121 : decode cX10_does 121 = .ok (.iload 4, 2) := by decide +kernel
theorem dX10_does_123 : decode cX10_does 123 = .ok (.invokevirtual 208, 3) := by decide +kernel
theorem dX10_does_126 : decode cX10_does 126 = .ok (.goto 291, 3) := by decide +kernel
theorem dX10_does_129 : decode cX10_does 129 = .ok (.aload_n 0, 1) := by decide +kernel
theorem dX10_does_130 : decode cX10_does 130 = .ok (.aload_n 1, 1) := by decide +kernel
theorem dX10_does_131 : decode cX10_does 131 = .ok (.iload_n 3, 1) := by decide +kernel
theorem dX10_does_132 : decode cX10_does 132 = .ok (.iconst 1, 1) := by decide +kernel
theorem dX10_does_133 : decode cX10_does 133 = .ok (.iload 4, 2) := by decide +kernel
theorem dX10_does_135 : decode cX10_does 135 = .ok (.invokevirtual 208, 3) := by decide +kernel
theorem dX10_does_138 : decode cX10_does 138 = .ok (.goto 279, 3) := by decide +kernel
theorem dX10_does_141 : decode cX10_does 141 = .ok (.aload_n 0, 1) := by decide +kernel
theorem dX10_does_142 : decode cX10_does 142 = .ok (.aload_n 1, 1) := by decide +kernel
theorem dX10_does_143 : decode cX10_does 143 = .ok (.iload_n 3, 1) := by decide +kernel
theorem dX10_does_144 : decode cX10_does 144 = .ok (.aload_n 1, 1) := by decide +kernel
theorem dX10_does_145 : decode cX10_does 145 = .ok (.iconst 0, 1) := by decide +kernel
theorem dX10_does_146 : decode cX10_does 146 = .ok (.iload 4, 2) := by decide +kernel
theorem dX10_does_148 : decode cX10_does 148 = .ok (.iadd, 1) := by decide +kernel
theorem dX10_does_149 : decode cX10_does 149 = .ok (.iaload, 1) := by decide +kernel
theorem dX10_does_150 : decode cX10_does 150 = .ok (.aload_n 1, 1) := by decide +kernel
theorem dX10_does_151 : decode cX10_does 151 = .ok (.bipush 40, 2) := by decide +kernel
theorem dX10_does_153 : decode cX10_does 153 = .ok (.iload 4, 2) := by decide +kernel
theorem dX10_does_155 : decode cX10_does 155 = .ok (.iadd, 1) := by decide +kernel
theorem dX10_does_156 : decode cX10_does 156 = .ok (.iaload, 1) := by decide +kernel
theorem dX10_does_157 : decode cX10_does 157 = .ok (.invokevirtual 208, 3) := by decide +kernel
theorem dX10_does_160 : decode cX10_does 160 = .ok (.goto 257, 3) := by decide +kernel
theorem dX10_does_163 : decode cX10_does 163 = .ok (.aload_n 0, 1) := by decide +kernel
theorem dX10_does_164 : decode cX10_does 164 = .ok (.aload_n 1, 1) := by decide +kernel
theorem dX10_does_165 : decode cX10_does 165 = .ok (.iload_n 3, 1) := by decide +kernel
theorem dX10_does_166 : decode cX10_does 166 = .ok (.iconst 1, 1) := by decide +kernel
theorem dX10_does_167 : decode cX10_does 167 = .ok (.aload_n 1, 1) := by decide +kernel
theorem dX10_does_168 : decode cX10_does 168 = .ok (.iconst 0, 1) := by decide +kernel
theorem dX10_does_169 : decode cX10_does 169 = .ok (.iload 4, 2) := by decide +kernel
theorem dX10_does_171 : decode cX10_does 171 = .ok (.iadd, 1) := by decide +kernel
theorem dX10_does_172 : decode cX10_does 172 = .ok (.iaload, 1) := by decide +kernel
theorem dX10_does_173 : decode cX10_does 173 = .ok (.aload_n 1, 1) := by decide +kernel
theorem dX10_does_174 : decode cX10_does 174 = .ok (.iconst 0, 1) := by decide +kernel
theorem dX10_does_175 : decode cX10_does 175 = .ok (.iload 5, 2) := by decide +kernel
theorem dX10_does_177 : decode cX10_does 177 = .ok (.iadd, 1) := by decide +kernel
theorem dX10_does_178 : decode cX10_does 178 = .ok (.iaload, 1) := by decide +kernel
theorem dX10_does_179 : decode cX10_does 179 = .ok (.if_icmp .ne 24, 3) := by decide +kernel
theorem dX10_does_182 : decode cX10_does 182 = .ok (.aload_n 1, 1) := by decide +kernel
theorem dX10_does_183 : decode cX10_does 183 = .ok (.bipush 40, 2) := by decide +kernel
theorem dX10_does_185 : decode cX10_does 185 = .ok (.iload 4, 2) := by decide +kernel
theorem dX10_does_187 : decode cX10_does 187 = .ok (.iadd, 1) := by decide +kernel
theorem dX10_does_188 : decode cX10_does 188 = .ok (.iaload, 1) := by decide +kernel
theorem dX10_does_189 : decode cX10_does 189 = .ok (.aload_n 1, 1) := by decide +kernel
theorem dX10_does_190 : decode cX10_does 190 = .ok (.bipush 40, 2) := by decide +kernel
theorem dX10_does_192 : decode cX10_does 192 = .ok (.iload 5, 2) := by decide +kernel
theorem dX10_does_194 : decode cX10_does 194 = .ok (.iadd, 1) := by decide +kernel
theorem dX10_does_195 : decode cX10_does 195 = .ok (.iaload, 1) := by decide +kernel
theorem dX10_does_196 : decode cX10_does 196 = .ok (.if_icmp .ne 7, 3) := by decide +kernel
theorem dX10_does_199 : decode cX10_does 199 = .ok (.iconst 1, 1) := by decide +kernel
theorem dX10_does_200 : decode cX10_does 200 = .ok (.goto 4, 3) := by decide +kernel
theorem dX10_does_203 : decode cX10_does 203 = .ok (.iconst 0, 1) := by decide +kernel
theorem dX10_does_204 : decode cX10_does 204 = .ok (.invokestatic 154, 3) := by decide +kernel
theorem dX10_does_207 : decode cX10_does 207 = .ok (.invokevirtual 208, 3) := by decide +kernel
theorem dX10_does_210 : decode cX10_does 210 = .ok (.goto 207, 3) := by decide +kernel
theorem dX10_does_213 : decode cX10_does 213 = .ok (.aload_n 1, 1) := by decide +kernel
theorem dX10_does_214 : decode cX10_does 214 = .ok (.iload 4, 2) := by decide +kernel
theorem dX10_does_216 : decode cX10_does 216 = .ok (.iconst 1, 1) := by decide +kernel
theorem dX10_does_217 : decode cX10_does 217 = .ok (.invokestatic 211, 3) := by decide +kernel
theorem dX10_does_220 : decode cX10_does 220 = .ok (.ifCond .eq 22, 3) := by decide +kernel
theorem dX10_does_223 : decode cX10_does 223 = .ok (.aload_n 0, 1) := by decide +kernel
theorem dX10_does_224 : decode cX10_does 224 = .ok (.aload_n 1, 1) := by decide +kernel
theorem dX10_does_225 : decode cX10_does 225 = .ok (.iload_n 3, 1) := by decide +kernel
theorem dX10_does_226 : decode cX10_does 226 = .ok (.iconst 1, 1) := by decide +kernel
theorem dX10_does_227 : decode cX10_does 227 = .ok (.iconst 1, 1) := by decide +kernel
theorem dX10_does_228 : decode cX10_does 228 = .ok (.aload_n 1, 1) := by decide +kernel
theorem dX10_does_229 : decode cX10_does 229 = .ok (.bipush 40, 2) := by decide +kernel
theorem dX10_does_231 : decode cX10_does 231 = .ok (.iload 4, 2) := by decide +kernel
theorem dX10_does_233 : decode cX10_does 233 = .ok (.iadd, 1) := by decide +kernel
theorem dX10_does_234 : decode cX10_does 234 = .ok (.iaload, 1) := by decide +kernel
theorem dX10_does_235 : decode cX10_does 235 = .ok (.isub, 1) := by decide +kernel
theorem dX10_does_236 : decode cX10_does 236 = .ok (.invokevirtual 208, 3) := by decide +kernel
theorem dX10_does_239 : decode cX10_does 239 = .ok (.goto 178, 3) := by decide +kernel
theorem dX10_does_242 : decode cX10_does 242 = .ok (.aload_n 0, 1) := by decide +kernel
theorem dX10_does_243 : decode cX10_does 243 = .ok (.aload_n 1, 1) := by decide +kernel
theorem dX10_does_244 : decode cX10_does 244 = .ok (.iconst 1, 1) := by decide +kernel
theorem dX10_does_245 : decode cX10_does 245 = .ok (.invokevirtual 200, 3) := by decide +kernel
theorem dX10_does_248 : decode cX10_does 248 = .ok (.goto 169, 3) := by decide +kernel
theorem dX10_does_251 : decode cX10_does 251 = .ok (.aload_n 1, 1) := by decide +kernel
theorem dX10_does_252 : decode cX10_does 252 = .ok (.iload 4, 2) := by decide +kernel
theorem dX10_does_254 : decode cX10_does 254 = .ok (.iconst 1, 1) := by decide +kernel
theorem dX10_does_255 : decode cX10_does 255 = .ok (.invokestatic 211, 3) := by decide +kernel
theorem dX10_does_258 : decode cX10_does 258 = .ok (.ifCond .eq 38, 3) := by decide +kernel
theorem dX10_does_261 : decode cX10_does 261 = .ok (.aload_n 1, 1) := by decide +kernel
theorem dX10_does_262 : decode cX10_does 262 = .ok (.iload 5, 2) := by decide +kernel
theorem dX10_does_264 : decode cX10_does 264 = .ok (.iconst 1, 1) := by decide +kernel
theorem dX10_does_265 : decode cX10_does 265 = .ok (.invokestatic 211, 3) := by decide +kernel
theorem dX10_does_268 : decode cX10_does 268 = .ok (.ifCond .eq 28, 3) := by decide +kernel
theorem dX10_does_271 : decode cX10_does 271 = .ok (.aload_n 0, 1) := by decide +kernel
theorem dX10_does_272 : decode cX10_does 272 = .ok (.aload_n 1, 1) := by decide +kernel
theorem dX10_does_273 : decode cX10_does 273 = .ok (.iload_n 3, 1) := by decide +kernel
theorem dX10_does_274 : decode cX10_does 274 = .ok (.iconst 1, 1) := by decide +kernel
theorem dX10_does_275 : decode cX10_does 275 = .ok (.aload_n 1, 1) := by decide +kernel
theorem dX10_does_276 : decode cX10_does 276 = .ok (.bipush 40, 2) := by decide +kernel
theorem dX10_does_278 : decode cX10_does 278 = .ok (.iload 4, 2) := by decide +kernel
theorem dX10_does_280 : decode cX10_does 280 = .ok (.iadd, 1) := by decide +kernel
theorem dX10_does_281 : decode cX10_does 281 = .ok (.iaload, 1) := by decide +kernel
theorem dX10_does_282 : decode cX10_does 282 = .ok (.aload_n 1, 1) := by decide +kernel
theorem dX10_does_283 : decode cX10_does 283 = .ok (.bipush 40, 2) := by decide +kernel
theorem dX10_does_285 : decode cX10_does 285 = .ok (.iload 5, 2) := by decide +kernel
theorem dX10_does_287 : decode cX10_does 287 = .ok (.iadd, 1) := by decide +kernel
theorem dX10_does_288 : decode cX10_does 288 = .ok (.iaload, 1) := by decide +kernel
theorem dX10_does_289 : decode cX10_does 289 = .ok (.iand, 1) := by decide +kernel
theorem dX10_does_290 : decode cX10_does 290 = .ok (.invokevirtual 208, 3) := by decide +kernel
theorem dX10_does_293 : decode cX10_does 293 = .ok (.goto 124, 3) := by decide +kernel
theorem dX10_does_296 : decode cX10_does 296 = .ok (.aload_n 0, 1) := by decide +kernel
theorem dX10_does_297 : decode cX10_does 297 = .ok (.aload_n 1, 1) := by decide +kernel
theorem dX10_does_298 : decode cX10_does 298 = .ok (.iconst 1, 1) := by decide +kernel
theorem dX10_does_299 : decode cX10_does 299 = .ok (.invokevirtual 200, 3) := by decide +kernel
theorem dX10_does_302 : decode cX10_does 302 = .ok (.goto 115, 3) := by decide +kernel
theorem dX10_does_305 : decode cX10_does 305 = .ok (.aload_n 0, 1) := by decide +kernel
theorem dX10_does_306 : decode cX10_does 306 = .ok (.aload_n 1, 1) := by decide +kernel
theorem dX10_does_307 : decode cX10_does 307 = .ok (.iload_n 2, 1) := by decide +kernel
theorem dX10_does_308 : decode cX10_does 308 = .ok (.iload_n 3, 1) := by decide +kernel
theorem dX10_does_309 : decode cX10_does 309 = .ok (.iload 4, 2) := by decide +kernel
theorem dX10_does_311 : decode cX10_does 311 = .ok (.invokevirtual 215, 3) := by decide +kernel
theorem dX10_does_314 : decode cX10_does 314 = .ok (.goto 103, 3) := by decide +kernel
theorem dX10_does_317 : decode cX10_does 317 = .ok (.aload_n 0, 1) := by decide +kernel
theorem dX10_does_318 : decode cX10_does 318 = .ok (.aload_n 1, 1) := by decide +kernel
theorem dX10_does_319 : decode cX10_does 319 = .ok (.iload_n 2, 1) := by decide +kernel
theorem dX10_does_320 : decode cX10_does 320 = .ok (.iload_n 3, 1) := by decide +kernel
theorem dX10_does_321 : decode cX10_does 321 = .ok (.iload 4, 2) := by decide +kernel
theorem dX10_does_323 : decode cX10_does 323 = .ok (.invokevirtual 218, 3) := by decide +kernel
theorem dX10_does_326 : decode cX10_does 326 = .ok (.goto 91, 3) := by decide +kernel
theorem dX10_does_329 : decode cX10_does 329 = .ok (.aload_n 0, 1) := by decide +kernel
theorem dX10_does_330 : decode cX10_does 330 = .ok (.iload 6, 2) := by decide +kernel
theorem dX10_does_332 : decode cX10_does 332 = .ok (.putfield 192, 3) := by decide +kernel
theorem dX10_does_335 : decode cX10_does 335 = .ok (.aload_n 0, 1) := by decide +kernel
theorem dX10_does_336 : decode cX10_does 336 = .ok (.aload_n 1, 1) := by decide +kernel
theorem dX10_does_337 : decode cX10_does 337 = .ok (.iload_n 3, 1) := by decide +kernel
theorem dX10_does_338 : decode cX10_does 338 = .ok (.iconst 2, 1) := by decide +kernel
theorem dX10_does_339 : decode cX10_does 339 = .ok (.aload_n 0, 1) := by decide +kernel
theorem dX10_does_340 : decode cX10_does 340 = .ok (.getfield 51, 3) := by decide +kernel
theorem dX10_does_343 : decode cX10_does 343 = .ok (.iload 7, 2) := by decide +kernel
theorem dX10_does_345 : decode cX10_does 345 = .ok (.iload 6, 2) := by decide +kernel
theorem dX10_does_347 : decode cX10_does 347 = .ok (.iadd, 1) := by decide +kernel
theorem dX10_does_348 : decode cX10_does 348 = .ok (.iaload, 1) := by decide +kernel
theorem dX10_does_349 : decode cX10_does 349 = .ok (.invokevirtual 208, 3) := by decide +kernel
theorem dX10_does_352 : decode cX10_does 352 = .ok (.goto 65, 3) := by decide +kernel
theorem dX10_does_355 : decode cX10_does 355 = .ok (.aload_n 1, 1) := by decide +kernel
theorem dX10_does_356 : decode cX10_does 356 = .ok (.sipush 130, 3) := by decide +kernel
theorem dX10_does_359 : decode cX10_does 359 = .ok (.dup2, 1) := by decide +kernel
theorem dX10_does_360 : decode cX10_does 360 = .ok (.iaload, 1) := by decide +kernel
theorem dX10_does_361 : decode cX10_does 361 = .ok (.iconst 1, 1) := by decide +kernel
theorem dX10_does_362 : decode cX10_does 362 = .ok (.iadd, 1) := by decide +kernel
theorem dX10_does_363 : decode cX10_does 363 = .ok (.iastore, 1) := by decide +kernel
theorem dX10_does_364 : decode cX10_does 364 = .ok (.aload_n 1, 1) := by decide +kernel
theorem dX10_does_365 : decode cX10_does 365 = .ok (.sipush 131, 3) := by decide +kernel
theorem dX10_does_368 : decode cX10_does 368 = .ok (.bipush 31, 2) := by decide +kernel
theorem dX10_does_370 : decode cX10_does 370 = .ok (.aload_n 1, 1) := by decide +kernel
theorem dX10_does_371 : decode cX10_does 371 = .ok (.sipush 131, 3) := by decide +kernel
theorem dX10_does_374 : decode cX10_does 374 = .ok (.iaload, 1) := by decide +kernel
theorem dX10_does_375 : decode cX10_does 375 = .ok (.imul, 1) := by decide +kernel
theorem dX10_does_376 : decode cX10_does 376 = .ok (.iconst 3, 1) := by decide +kernel
theorem dX10_does_377 : decode cX10_does 377 = .ok (.aload_n 1, 1) := by decide +kernel
theorem dX10_does_378 : decode cX10_does 378 = .ok (.bipush 40, 2) := by decide +kernel
theorem dX10_does_380 : decode cX10_does 380 = .ok (.iload_n 3, 1) := by decide +kernel
theorem dX10_does_381 : decode cX10_does 381 = .ok (.iadd, 1) := by decide +kernel
theorem dX10_does_382 : decode cX10_does 382 = .ok (.iaload, 1) := by decide +kernel
theorem dX10_does_383 : decode cX10_does 383 = .ok (.imul, 1) := by decide +kernel
theorem dX10_does_384 : decode cX10_does 384 = .ok (.iadd, 1) := by decide +kernel
theorem dX10_does_385 : decode cX10_does 385 = .ok (.aload_n 1, 1) := by decide +kernel
theorem dX10_does_386 : decode cX10_does 386 = .ok (.iconst 0, 1) := by decide +kernel
theorem dX10_does_387 : decode cX10_does 387 = .ok (.iload_n 3, 1) := by decide +kernel
theorem dX10_does_388 : decode cX10_does 388 = .ok (.iadd, 1) := by decide +kernel
theorem dX10_does_389 : decode cX10_does 389 = .ok (.iaload, 1) := by decide +kernel
theorem dX10_does_390 : decode cX10_does 390 = .ok (.iadd, 1) := by decide +kernel
theorem dX10_does_391 : decode cX10_does 391 = .ok (.iastore, 1) := by decide +kernel
theorem dX10_does_392 : decode cX10_does 392 = .ok (.goto 25, 3) := by decide +kernel
theorem dX10_does_395 : decode cX10_does 395 = .ok (.aload_n 0, 1) := by decide +kernel
theorem dX10_does_396 : decode cX10_does 396 = .ok (.aload_n 1, 1) := by decide +kernel
theorem dX10_does_397 : decode cX10_does 397 = .ok (.iload_n 3, 1) := by decide +kernel
theorem dX10_does_398 : decode cX10_does 398 = .ok (.iconst 0, 1) := by decide +kernel
theorem dX10_does_399 : decode cX10_does 399 = .ok (.iconst 0, 1) := by decide +kernel
theorem dX10_does_400 : decode cX10_does 400 = .ok (.invokevirtual 208, 3) := by decide +kernel
theorem dX10_does_403 : decode cX10_does 403 = .ok (.goto 14, 3) := by decide +kernel
theorem dX10_does_406 : decode cX10_does 406 = .ok (.aload_n 0, 1) := by decide +kernel
theorem dX10_does_407 : decode cX10_does 407 = .ok (.aload_n 1, 1) := by decide +kernel
theorem dX10_does_408 : decode cX10_does 408 = .ok (.iload_n 2, 1) := by decide +kernel
theorem dX10_does_409 : decode cX10_does 409 = .ok (.iload_n 3, 1) := by decide +kernel
theorem dX10_does_410 : decode cX10_does 410 = .ok (.iload 4, 2) := by decide +kernel
theorem dX10_does_412 : decode cX10_does 412 = .ok (.iload 5, 2) := by decide +kernel
theorem dX10_does_414 : decode cX10_does 414 = .ok (.invokevirtual 221, 3) := by decide +kernel
theorem dX10_does_417 : decode cX10_does 417 = .ok (.return_, 1) := by decide +kernel
theorem dX10_gives_0 : decode cX10_gives 0 = .ok (.aload_n 0, 1) := by decide +kernel
theorem dX10_gives_1 : decode cX10_gives 1 = .ok (.iload_n 2, 1) := by decide +kernel
theorem dX10_gives_2 : decode cX10_gives 2 = .ok (.putfield 186, 3) := by decide +kernel
theorem dX10_gives_5 : decode cX10_gives 5 = .ok (.aload_n 1, 1) := by decide +kernel
theorem dX10_gives_6 : decode cX10_gives 6 = .ok (.iload_n 2, 1) := by decide +kernel
theorem dX10_gives_7 : decode cX10_gives 7 = .ok (.iload_n 3, 1) := by decide +kernel
theorem dX10_gives_8 : decode cX10_gives 8 = .ok (.iload 4, 2) := by decide +kernel
theorem dX10_gives_10 : decode cX10_gives 10 = .ok (.invokestatic 179, 3) := by decide +kernel
theorem dX10_gives_13 : decode cX10_gives 13 = .ok (.return_, 1) := by decide +kernel
theorem dX10_goes_0 : decode cX10_goes 0 = .ok (.iload_n 2, 1) := by decide +kernel
theorem dX10_goes_1 : decode cX10_goes 1 = .ok (.bipush 15, 2) := by decide +kernel
theorem dX10_goes_3 : decode cX10_goes 3 = .ok (.if_icmp .ne 11, 3) := by decide +kernel
theorem dX10_goes_6 : decode cX10_goes 6 = .ok (.aload_n 1, 1) := by decide +kernel
theorem dX10_goes_7 : decode cX10_goes 7 = .ok (.bipush 120, 2) := by decide +kernel
theorem dX10_goes_9 : decode cX10_goes 9 = .ok (.iload_n 3, 1) := by decide +kernel
theorem dX10_goes_10 : decode cX10_goes 10 = .ok (.iastore, 1) := by decide +kernel
theorem dX10_goes_11 : decode cX10_goes 11 = .ok (.goto 134, 3) := by decide +kernel
theorem dX10_goes_14 : decode cX10_goes 14 = .ok (.iload_n 2, 1) := by decide +kernel
theorem dX10_goes_15 : decode cX10_goes 15 = .ok (.bipush 16, 2) := by decide +kernel
theorem dX10_goes_17 : decode cX10_goes 17 = .ok (.if_icmp .ne 40, 3) := by decide +kernel
theorem dX10_goes_20 : decode cX10_goes 20 = .ok (.aload_n 1, 1) := by decide +kernel
theorem dX10_goes_21 : decode cX10_goes 21 = .ok (.iload_n 3, 1) := by decide +kernel
theorem dX10_goes_22 : decode cX10_goes 22 = .ok (.iconst 1, 1) := by decide +kernel
theorem dX10_goes_23 : decode cX10_goes 23 = .ok (.invokestatic 211, 3) := by decide +kernel
theorem dX10_goes_26 : decode cX10_goes 26 = .ok (.ifCond .ne 12, 3) := by decide +kernel
theorem dX10_goes_29 : decode cX10_goes 29 = .ok (.aload_n 0, 1) := by decide +kernel
theorem dX10_goes_30 : decode cX10_goes 30 = .ok (.aload_n 1, 1) := by decide +kernel
theorem dX10_goes_31 : decode cX10_goes 31 = .ok (.iconst 1, 1) := by decide +kernel
theorem dX10_goes_32 : decode cX10_goes 32 = .ok (.invokevirtual 200, 3) := by decide +kernel
theorem dX10_goes_35 : decode cX10_goes 35 = .ok (.goto 110, 3) := by decide +kernel
theorem dX10_goes_38 : decode cX10_goes 38 = .ok (.aload_n 1, 1) := by decide +kernel
theorem dX10_goes_39 : decode cX10_goes 39 = .ok (.bipush 40, 2) := by decide +kernel
theorem dX10_goes_41 : decode cX10_goes 41 = .ok (.iload_n 3, 1) := by decide +kernel
theorem dX10_goes_42 : decode cX10_goes 42 = .ok (.iadd, 1) := by decide +kernel
theorem dX10_goes_43 : decode cX10_goes 43 = .ok (.iaload, 1) := by decide +kernel
theorem dX10_goes_44 : decode cX10_goes 44 = .ok (.iconst 1, 1) := by decide +kernel
theorem dX10_goes_45 : decode cX10_goes 45 = .ok (.if_icmp .ne 100, 3) := by decide +kernel
theorem dX10_goes_48 : decode cX10_goes 48 = .ok (.aload_n 1, 1) := by decide +kernel
theorem dX10_goes_49 : decode cX10_goes 49 = .ok (.bipush 120, 2) := by decide +kernel
theorem dX10_goes_51 : decode cX10_goes 51 = .ok (.iload 4, 2) := by decide +kernel
theorem dX10_goes_53 : decode cX10_goes 53 = .ok (.iastore, 1) := by decide +kernel
theorem dX10_goes_54 : decode cX10_goes 54 = .ok (.goto 91, 3) := by decide +kernel
theorem dX10_goes_57 : decode cX10_goes 57 = .ok (.iload_n 2, 1) := by decide +kernel
theorem dX10_goes_58 : decode cX10_goes 58 = .ok (.bipush 17, 2) := by decide +kernel
theorem dX10_goes_60 : decode cX10_goes 60 = .ok (.if_icmp .ne 48, 3) := by decide +kernel
theorem dX10_goes_63 : decode cX10_goes 63 = .ok (.aload_n 1, 1) := by decide +kernel
theorem dX10_goes_64 : decode cX10_goes 64 = .ok (.bipush 121, 2) := by decide +kernel
theorem dX10_goes_66 : decode cX10_goes 66 = .ok (.iaload, 1) := by decide +kernel
theorem dX10_goes_67 : decode cX10_goes 67 = .ok (.bipush 8, 2) := by decide +kernel
theorem dX10_goes_69 : decode cX10_goes 69 = .ok (.if_icmp .ne 10, 3) := by decide +kernel
theorem dX10_goes_72 : decode cX10_goes 72 = .ok (.aload_n 0, 1) := by decide +kernel
theorem dX10_goes_73 : decode cX10_goes 73 = .ok (.aload_n 1, 1) := by decide +kernel
theorem dX10_goes_74 : decode cX10_goes 74 = .ok (.iconst 4, 1) := by decide +kernel
theorem dX10_goes_75 : decode cX10_goes 75 = .ok (.invokevirtual 200, 3) := by decide +kernel
theorem dX10_goes_78 : decode cX10_goes 78 = .ok (.return_, 1) := by decide +kernel
theorem dX10_goes_79 : decode cX10_goes 79 = .ok (.aload_n 1, 1) := by decide +kernel
theorem dX10_goes_80 : decode cX10_goes 80 = .ok (.bipush 122, 2) := by decide +kernel
theorem dX10_goes_82 : decode cX10_goes 82 = .ok (.aload_n 1, 1) := by decide +kernel
theorem dX10_goes_83 : decode cX10_goes 83 = .ok (.bipush 121, 2) := by decide +kernel
theorem dX10_goes_85 : decode cX10_goes 85 = .ok (.iaload, 1) := by decide +kernel
theorem dX10_goes_86 : decode cX10_goes 86 = .ok (.iadd, 1) := by decide +kernel
theorem dX10_goes_87 : decode cX10_goes 87 = .ok (.aload_n 1, 1) := by decide +kernel
theorem dX10_goes_88 : decode cX10_goes 88 = .ok (.bipush 120, 2) := by decide +kernel
theorem dX10_goes_90 : decode cX10_goes 90 = .ok (.iaload, 1) := by decide +kernel
theorem dX10_goes_91 : decode cX10_goes 91 = .ok (.iastore, 1) := by decide +kernel
theorem dX10_goes_92 : decode cX10_goes 92 = .ok (.aload_n 1, 1) := by decide +kernel
theorem dX10_goes_93 : decode cX10_goes 93 = .ok (.bipush 121, 2) := by decide +kernel
theorem dX10_goes_95 : decode cX10_goes 95 = .ok (.dup2, 1) := by decide +kernel
theorem dX10_goes_96 : decode cX10_goes 96 = .ok (.iaload, 1) := by decide +kernel
theorem dX10_goes_97 : decode cX10_goes 97 = .ok (.iconst 1, 1) := by decide +kernel
theorem dX10_goes_98 : decode cX10_goes 98 = .ok (.iadd, 1) := by decide +kernel
theorem dX10_goes_99 : decode cX10_goes 99 = .ok (.iastore, 1) := by decide +kernel
theorem dX10_goes_100 : decode cX10_goes 100 = .ok (.aload_n 1, 1) := by decide +kernel
theorem dX10_goes_101 : decode cX10_goes 101 = .ok (.bipush 120, 2) := by decide +kernel
theorem dX10_goes_103 : decode cX10_goes 103 = .ok (.iload_n 3, 1) := by decide +kernel
theorem dX10_goes_104 : decode cX10_goes 104 = .ok (.iastore, 1) := by decide +kernel
theorem dX10_goes_105 : decode cX10_goes 105 = .ok (.goto 40, 3) := by decide +kernel
theorem dX10_goes_108 : decode cX10_goes 108 = .ok (.aload_n 1, 1) := by decide +kernel
theorem dX10_goes_109 : decode cX10_goes 109 = .ok (.bipush 121, 2) := by decide +kernel
theorem dX10_goes_111 : decode cX10_goes 111 = .ok (.iaload, 1) := by decide +kernel
theorem dX10_goes_112 : decode cX10_goes 112 = .ok (.ifCond .ne 12, 3) := by decide +kernel
theorem dX10_goes_115 : decode cX10_goes 115 = .ok (.aload_n 1, 1) := by decide +kernel
theorem dX10_goes_116 : decode cX10_goes 116 = .ok (.sipush 132, 3) := by decide +kernel
theorem dX10_goes_119 : decode cX10_goes 119 = .ok (.iconst 2, 1) := by decide +kernel
theorem dX10_goes_120 : decode cX10_goes 120 = .ok (.iastore, 1) := by decide +kernel
theorem dX10_goes_121 : decode cX10_goes 121 = .ok (.goto 24, 3) := by decide +kernel
theorem dX10_goes_124 : decode cX10_goes 124 = .ok (.aload_n 1, 1) := by decide +kernel
theorem dX10_goes_125 : decode cX10_goes 125 = .ok (.bipush 121, 2) := by decide +kernel
theorem dX10_goes_127 : decode cX10_goes 127 = .ok (.dup2, 1) := by decide +kernel
theorem dX10_goes_128 : decode cX10_goes 128 = .ok (.iaload, 1) := by decide +kernel
theorem dX10_goes_129 : decode cX10_goes 129 = .ok (.iconst 1, 1) := by decide +kernel
theorem dX10_goes_130 : decode cX10_goes 130 = .ok (.isub, 1) := by decide +kernel
theorem dX10_goes_131 : decode cX10_goes 131 = .ok (.iastore, 1) := by decide +kernel
theorem dX10_goes_132 : decode cX10_goes 132 = .ok (.aload_n 1, 1) := by decide +kernel
theorem dX10_goes_133 : decode cX10_goes 133 = .ok (.bipush 120, 2) := by decide +kernel
theorem dX10_goes_135 : decode cX10_goes 135 = .ok (.aload_n 1, 1) := by decide +kernel
theorem dX10_goes_136 : decode cX10_goes 136 = .ok (.bipush 122, 2) := by decide +kernel
theorem dX10_goes_138 : decode cX10_goes 138 = .ok (.aload_n 1, 1) := by decide +kernel
theorem dX10_goes_139 : decode cX10_goes 139 = .ok (.bipush 121, 2) := by decide +kernel
theorem dX10_goes_141 : decode cX10_goes 141 = .ok (.iaload, 1) := by decide +kernel
theorem dX10_goes_142 : decode cX10_goes 142 = .ok (.iadd, 1) := by decide +kernel
theorem dX10_goes_143 : decode cX10_goes 143 = .ok (.iaload, 1) := by decide +kernel
theorem dX10_goes_144 : decode cX10_goes 144 = .ok (.iastore, 1) := by decide +kernel
theorem dX10_goes_145 : decode cX10_goes 145 = .ok (.return_, 1) := by decide +kernel
theorem dX10_isOf_0 : decode cX10_isOf 0 = .ok (.aload_n 0, 1) := by decide +kernel
theorem dX10_isOf_1 : decode cX10_isOf 1 = .ok (.iconst 0, 1) := by decide +kernel
theorem dX10_isOf_2 : decode cX10_isOf 2 = .ok (.iload_n 1, 1) := by decide +kernel
theorem dX10_isOf_3 : decode cX10_isOf 3 = .ok (.iadd, 1) := by decide +kernel
theorem dX10_isOf_4 : decode cX10_isOf 4 = .ok (.iaload, 1) := by decide +kernel
theorem dX10_isOf_5 : decode cX10_isOf 5 = .ok (.iload_n 2, 1) := by decide +kernel
theorem dX10_isOf_6 : decode cX10_isOf 6 = .ok (.if_icmp .ne 7, 3) := by decide +kernel
theorem dX10_isOf_9 : decode cX10_isOf 9 = .ok (.iconst 1, 1) := by decide +kernel
theorem dX10_isOf_10 : decode cX10_isOf 10 = .ok (.goto 4, 3) := by decide +kernel
theorem dX10_isOf_13 : decode cX10_isOf 13 = .ok (.iconst 0, 1) := by decide +kernel
theorem dX10_isOf_14 : decode cX10_isOf 14 = .ok (.ireturn, 1) := by decide +kernel
theorem dX10_kindAt_0 : decode cX10_kindAt 0 = .ok (.iload_n 2, 1) := by decide +kernel
theorem dX10_kindAt_1 : decode cX10_kindAt 1 = .ok (.bipush 64, 2) := by decide +kernel
theorem dX10_kindAt_3 : decode cX10_kindAt 3 = .ok (.if_icmp .lt 7, 3) := by decide +kernel
theorem dX10_kindAt_6 : decode cX10_kindAt 6 = .ok (.iconst (-1), 1) := by decide +kernel
theorem dX10_kindAt_7 : decode cX10_kindAt 7 = .ok (.goto 14, 3) := by decide +kernel
theorem dX10_kindAt_10 : decode cX10_kindAt 10 = .ok (.aload_n 0, 1) := by decide +kernel
theorem dX10_kindAt_11 : decode cX10_kindAt 11 = .ok (.getfield 33, 3) := by decide +kernel
theorem dX10_kindAt_14 : decode cX10_kindAt 14 = .ok (.bipush 64, 2) := by decide +kernel
theorem dX10_kindAt_16 : decode cX10_kindAt 16 = .ok (.iload_n 1, 1) := by decide +kernel
theorem dX10_kindAt_17 : decode cX10_kindAt 17 = .ok (.imul, 1) := by decide +kernel
theorem dX10_kindAt_18 : decode cX10_kindAt 18 = .ok (.iload_n 2, 1) := by decide +kernel
theorem dX10_kindAt_19 : decode cX10_kindAt 19 = .ok (.iadd, 1) := by decide +kernel
theorem dX10_kindAt_20 : decode cX10_kindAt 20 = .ok (.iaload, 1) := by decide +kernel
theorem dX10_kindAt_21 : decode cX10_kindAt 21 = .ok (.ireturn, 1) := by decide +kernel
theorem dX10_poke_0 : decode cX10_poke 0 = .ok (.aload_n 0, 1) := by decide +kernel
theorem dX10_poke_1 : decode cX10_poke 1 = .ok (.getfield 29, 3) := by decide +kernel
theorem dX10_poke_4 : decode cX10_poke 4 = .ok (.iconst 4, 1) := by decide +kernel
theorem dX10_poke_5 : decode cX10_poke 5 = .ok (.baload, 1) := by decide +kernel
theorem dX10_poke_6 : decode cX10_poke 6 = .ok (.ifCond .eq 30, 3) := by decide +kernel
theorem dX10_poke_9 : decode cX10_poke 9 = .ok (.iload_n 1, 1) := by decide +kernel
theorem dX10_poke_10 : decode cX10_poke 10 = .ok (.invokestatic 169, 3) := by decide +kernel
theorem dX10_poke_13 : decode cX10_poke 13 = .ok (.ifCond .eq 23, 3) := by decide +kernel
theorem dX10_poke_16 : decode cX10_poke 16 = .ok (.iload_n 2, 1) := by decide +kernel
theorem dX10_poke_17 : decode cX10_poke 17 = .ok (.iload_n 3, 1) := by decide +kernel
theorem dX10_poke_18 : decode cX10_poke 18 = .ok (.invokestatic 172, 3) := by decide +kernel
theorem dX10_poke_21 : decode cX10_poke 21 = .ok (.ifCond .eq 15, 3) := by decide +kernel
theorem dX10_poke_24 : decode cX10_poke 24 = .ok (.aload_n 0, 1) := by decide +kernel
theorem dX10_poke_25 : decode cX10_poke 25 = .ok (.getfield 60, 3) := by decide +kernel
theorem dX10_poke_28 : decode cX10_poke 28 = .ok (.iconst 4, 1) := by decide +kernel
theorem dX10_poke_29 : decode cX10_poke 29 = .ok (.iaload, 1) := by decide +kernel
theorem dX10_poke_30 : decode cX10_poke 30 = .ok (.sipush 800, 3) := by decide +kernel
theorem dX10_poke_33 : decode cX10_poke 33 = .ok (.if_icmp .ne 5, 3) := by decide +kernel
theorem dX10_poke_36 : decode cX10_poke 36 = .ok (.iconst (-1), 1) := by decide +kernel
theorem dX10_poke_37 : decode cX10_poke 37 = .ok (.ireturn, 1) := by decide +kernel
theorem dX10_poke_38 : decode cX10_poke 38 = .ok (.aload_n 0, 1) := by decide +kernel
theorem dX10_poke_39 : decode cX10_poke 39 = .ok (.getfield 102, 3) := by decide +kernel
theorem dX10_poke_42 : decode cX10_poke 42 = .ok (.bipush 80, 2) := by decide +kernel
theorem dX10_poke_44 : decode cX10_poke 44 = .ok (.iload_n 1, 1) := by decide +kernel
theorem dX10_poke_45 : decode cX10_poke 45 = .ok (.iadd, 1) := by decide +kernel
theorem dX10_poke_46 : decode cX10_poke 46 = .ok (.iaload, 1) := by decide +kernel
theorem dX10_poke_47 : decode cX10_poke 47 = .ok (.istore 4, 2) := by decide +kernel
theorem dX10_poke_49 : decode cX10_poke 49 = .ok (.aload_n 0, 1) := by decide +kernel
theorem dX10_poke_50 : decode cX10_poke 50 = .ok (.iconst 2, 1) := by decide +kernel
theorem dX10_poke_51 : decode cX10_poke 51 = .ok (.iload_n 3, 1) := by decide +kernel
theorem dX10_poke_52 : decode cX10_poke 52 = .ok (.iload_n 1, 1) := by decide +kernel
theorem dX10_poke_53 : decode cX10_poke 53 = .ok (.iload_n 2, 1) := by decide +kernel
theorem dX10_poke_54 : decode cX10_poke 54 = .ok (.invokevirtual 175, 3) := by decide +kernel
theorem dX10_poke_57 : decode cX10_poke 57 = .ok (.aload_n 0, 1) := by decide +kernel
theorem dX10_poke_58 : decode cX10_poke 58 = .ok (.getfield 102, 3) := by decide +kernel
theorem dX10_poke_61 : decode cX10_poke 61 = .ok (.iload_n 1, 1) := by decide +kernel
theorem dX10_poke_62 : decode cX10_poke 62 = .ok (.iload_n 2, 1) := by decide +kernel
theorem dX10_poke_63 : decode cX10_poke 63 = .ok (.iload_n 3, 1) := by decide +kernel
theorem dX10_poke_64 : decode cX10_poke 64 = .ok (.invokestatic 179, 3) := by decide +kernel
theorem dX10_poke_67 : decode cX10_poke 67 = .ok (.aload_n 0, 1) := by decide +kernel
theorem dX10_poke_68 : decode cX10_poke 68 = .ok (.iconst (-1), 1) := by decide +kernel
theorem dX10_poke_69 : decode cX10_poke 69 = .ok (.putfield 117, 3) := by decide +kernel
theorem dX10_poke_72 : decode cX10_poke 72 = .ok (.aload_n 0, 1) := by decide +kernel
theorem dX10_poke_73 : decode cX10_poke 73 = .ok (.getfield 102, 3) := by decide +kernel
theorem dX10_poke_76 : decode cX10_poke 76 = .ok (.bipush 80, 2) := by decide +kernel
theorem dX10_poke_78 : decode cX10_poke 78 = .ok (.iload_n 1, 1) := by decide +kernel
theorem dX10_poke_79 : decode cX10_poke 79 = .ok (.iadd, 1) := by decide +kernel
theorem dX10_poke_80 : decode cX10_poke 80 = .ok (.iaload, 1) := by decide +kernel
theorem dX10_poke_81 : decode cX10_poke 81 = .ok (.iload 4, 2) := by decide +kernel
theorem dX10_poke_83 : decode cX10_poke 83 = .ok (.isub, 1) := by decide +kernel
theorem dX10_poke_84 : decode cX10_poke 84 = .ok (.ireturn, 1) := by decide +kernel
theorem dX10_reckons_0 : decode cX10_reckons 0 = .ok (.aload_n 1, 1) := by decide +kernel
theorem dX10_reckons_1 : decode cX10_reckons 1 = .ok (.iload 4, 2) := by decide +kernel
theorem dX10_reckons_3 : decode cX10_reckons 3 = .ok (.iconst 2, 1) := by decide +kernel
theorem dX10_reckons_4 : decode cX10_reckons 4 = .ok (.invokestatic 211, 3) := by decide +kernel
theorem dX10_reckons_7 : decode cX10_reckons 7 = .ok (.ifCond .eq 13, 3) := by decide +kernel
theorem dX10_reckons_10 : decode cX10_reckons 10 = .ok (.aload_n 1, 1) := by decide +kernel
theorem dX10_reckons_11 : decode cX10_reckons 11 = .ok (.iload 5, 2) := by decide +kernel
theorem dX10_reckons_13 : decode cX10_reckons 13 = .ok (.iconst 2, 1) := by decide +kernel
theorem dX10_reckons_14 : decode cX10_reckons 14 = .ok (.invokestatic 211, 3) := by decide +kernel
theorem dX10_reckons_17 : decode cX10_reckons 17 = .ok (.ifCond .ne 10, 3) := by decide +kernel
theorem dX10_reckons_20 : decode cX10_reckons 20 = .ok (.aload_n 0, 1) := by decide +kernel
theorem dX10_reckons_21 : decode cX10_reckons 21 = .ok (.aload_n 1, 1) := by decide +kernel
theorem dX10_reckons_22 : decode cX10_reckons 22 = .ok (.iconst 1, 1) := by decide +kernel
theorem dX10_reckons_23 : decode cX10_reckons 23 = .ok (.invokevirtual 200, 3) := by decide +kernel
theorem dX10_reckons_26 : decode cX10_reckons 26 = .ok (.return_, 1) := by decide +kernel
theorem dX10_reckons_27 : decode cX10_reckons 27 = .ok (.aload_n 1, 1) := by decide +kernel
theorem dX10_reckons_28 : decode cX10_reckons 28 = .ok (.bipush 40, 2) := by decide +kernel
theorem dX10_reckons_30 : decode cX10_reckons 30 = .ok (.iload 4, 2) := by decide +kernel
theorem dX10_reckons_32 : decode cX10_reckons 32 = .ok (.iadd, 1) := by decide +kernel
theorem dX10_reckons_33 : decode cX10_reckons 33 = .ok (.iaload, 1) := by decide +kernel
theorem dX10_reckons_34 : decode cX10_reckons 34 = .ok (.istore 6, 2) := by decide +kernel
theorem dX10_reckons_36 : decode cX10_reckons 36 = .ok (.aload_n 1, 1) := by decide +kernel
theorem dX10_reckons_37 : decode cX10_reckons 37 = .ok (.bipush 40, 2) := by decide +kernel
theorem dX10_reckons_39 : decode cX10_reckons 39 = .ok (.iload 5, 2) := by decide +kernel
theorem dX10_reckons_41 : decode cX10_reckons 41 = .ok (.iadd, 1) := by decide +kernel
theorem dX10_reckons_42 : decode cX10_reckons 42 = .ok (.iaload, 1) := by decide +kernel
theorem dX10_reckons_43 : decode cX10_reckons 43 = .ok (.istore 7, 2) := by decide +kernel
theorem dX10_reckons_45 : decode cX10_reckons 45 = .ok (.iload_n 2, 1) := by decide +kernel
theorem dX10_reckons_46 : decode cX10_reckons 46 = .ok (.bipush 7, 2) := by decide +kernel
theorem dX10_reckons_48 : decode cX10_reckons 48 = .ok (.if_icmp .eq 9, 3) := by decide +kernel
theorem dX10_reckons_51 : decode cX10_reckons 51 = .ok (.iload_n 2, 1) := by decide +kernel
theorem dX10_reckons_52 : decode cX10_reckons 52 = .ok (.bipush 8, 2) := by decide +kernel
theorem dX10_reckons_54 : decode cX10_reckons 54 = .ok (.if_icmp .ne 15, 3) := by decide +kernel
theorem dX10_reckons_57 : decode cX10_reckons 57 = .ok (.iload 7, 2) := by decide +kernel
theorem dX10_reckons_59 : decode cX10_reckons 59 = .ok (.ifCond .ne 10, 3) := by decide +kernel
theorem dX10_reckons_62 : decode cX10_reckons 62 = .ok (.aload_n 0, 1) := by decide +kernel
theorem dX10_reckons_63 : decode cX10_reckons 63 = .ok (.aload_n 1, 1) := by decide +kernel
theorem dX10_reckons_64 : decode cX10_reckons 64 = .ok (.iconst 2, 1) := by decide +kernel
theorem dX10_reckons_65 : decode cX10_reckons 65 = .ok (.invokevirtual 200, 3) := by decide +kernel
theorem dX10_reckons_68 : decode cX10_reckons 68 = .ok (.return_, 1) := by decide +kernel
theorem dX10_reckons_69 : decode cX10_reckons 69 = .ok (.iload_n 2, 1) := by decide +kernel
theorem dX10_reckons_70 : decode cX10_reckons 70 = .ok (.bipush 9, 2) := by decide +kernel
theorem dX10_reckons_72 : decode cX10_reckons 72 = .ok (.if_icmp .ne 28, 3) := by decide +kernel
theorem dX10_reckons_75 : decode cX10_reckons 75 = .ok (.aload_n 0, 1) := by decide +kernel
theorem dX10_reckons_76 : decode cX10_reckons 76 = .ok (.aload_n 1, 1) := by decide +kernel
theorem dX10_reckons_77 : decode cX10_reckons 77 = .ok (.iload_n 3, 1) := by decide +kernel
theorem dX10_reckons_78 : decode cX10_reckons 78 = .ok (.iconst 1, 1) := by decide +kernel
theorem dX10_reckons_79 : decode cX10_reckons 79 = .ok (.iload 6, 2) := by decide +kernel
theorem dX10_reckons_81 : decode cX10_reckons 81 = .ok (.iload 7, 2) := by decide +kernel
theorem dX10_reckons_83 : decode cX10_reckons 83 = .ok (.if_icmp .ge 7, 3) := by decide +kernel
theorem dX10_reckons_86 : decode cX10_reckons 86 = .ok (.iconst 1, 1) := by decide +kernel
theorem dX10_reckons_87 : decode cX10_reckons 87 = .ok (.goto 4, 3) := by decide +kernel
theorem dX10_reckons_90 : decode cX10_reckons 90 = .ok (.iconst 0, 1) := by decide +kernel
theorem dX10_reckons_91 : decode cX10_reckons 91 = .ok (.invokestatic 154, 3) := by decide +kernel
theorem dX10_reckons_94 : decode cX10_reckons 94 = .ok (.invokevirtual 208, 3) := by decide +kernel
theorem dX10_reckons_97 : decode cX10_reckons 97 = .ok (.goto 69, 3) := by decide +kernel
theorem dX10_reckons_100 : decode cX10_reckons 100 = .ok (.aload_n 0, 1) := by decide +kernel
theorem dX10_reckons_101 : decode cX10_reckons 101 = .ok (.aload_n 1, 1) := by decide +kernel
theorem dX10_reckons_102 : decode cX10_reckons 102 = .ok (.iload_n 3, 1) := by decide +kernel
theorem dX10_reckons_103 : decode cX10_reckons 103 = .ok (.iconst 2, 1) := by decide +kernel
theorem dX10_reckons_104 : decode cX10_reckons 104 = .ok (.iload_n 2, 1) := by decide +kernel
theorem dX10_reckons_105 : decode cX10_reckons 105 = .ok (.iconst 4, 1) := by decide +kernel
theorem dX10_reckons_106 : decode cX10_reckons 106 = .ok (.if_icmp .ne 11, 3) := by decide +kernel
theorem dX10_reckons_109 : decode cX10_reckons 109 = .ok (.iload 6, 2) := by decide +kernel
theorem dX10_reckons_111 : decode cX10_reckons 111 = .ok (.iload 7, 2) := by decide +kernel
theorem dX10_reckons_113 : decode cX10_reckons 113 = .ok (.iadd, 1) := by decide +kernel
theorem dX10_reckons_114 : decode cX10_reckons 114 = .ok (.goto 49, 3) := by decide +kernel
theorem dX10_reckons_117 : decode cX10_reckons 117 = .ok (.iload_n 2, 1) := by decide +kernel
theorem dX10_reckons_118 : decode cX10_reckons 118 = .ok (.iconst 5, 1) := by decide +kernel
theorem dX10_reckons_119 : decode cX10_reckons 119 = .ok (.if_icmp .ne 11, 3) := by decide +kernel
theorem dX10_reckons_122 : decode cX10_reckons 122 = .ok (.iload 6, 2) := by decide +kernel
theorem dX10_reckons_124 : decode cX10_reckons 124 = .ok (.iload 7, 2) := by decide +kernel
theorem dX10_reckons_126 : decode cX10_reckons 126 = .ok (.isub, 1) := by decide +kernel
theorem dX10_reckons_127 : decode cX10_reckons 127 = .ok (.goto 36, 3) := by decide +kernel
theorem dX10_reckons_130 : decode cX10_reckons 130 = .ok (.iload_n 2, 1) := by decide +kernel
theorem dX10_reckons_131 : decode cX10_reckons 131 = .ok (.bipush 6, 2) := by decide +kernel
theorem dX10_reckons_133 : decode cX10_reckons 133 = .ok (.if_icmp .ne 11, 3) := by decide +kernel
theorem dX10_reckons_136 : decode cX10_reckons 136 = .ok (.iload 6, 2) := by decide +kernel
theorem dX10_reckons_138 : decode cX10_reckons 138 = .ok (.iload 7, 2) := by decide +kernel
theorem dX10_reckons_140 : decode cX10_reckons 140 = .ok (.imul, 1) := by decide +kernel
theorem dX10_reckons_141 : decode cX10_reckons 141 = .ok (.goto 22, 3) := by decide +kernel
theorem dX10_reckons_144 : decode cX10_reckons 144 = .ok (.iload_n 2, 1) := by decide +kernel
theorem dX10_reckons_145 : decode cX10_reckons 145 = .ok (.bipush 7, 2) := by decide +kernel
theorem dX10_reckons_147 : decode cX10_reckons 147 = .ok (.if_icmp .ne 11, 3) := by decide +kernel
theorem dX10_reckons_150 : decode cX10_reckons 150 = .ok (.iload 6, 2) := by decide +kernel
theorem dX10_reckons_152 : decode cX10_reckons 152 = .ok (.iload 7, 2) := by decide +kernel
theorem dX10_reckons_154 : decode cX10_reckons 154 = .ok (.idiv, 1) := by decide +kernel
theorem dX10_reckons_155 : decode cX10_reckons 155 = .ok (.goto 8, 3) := by decide +kernel
theorem dX10_reckons_158 : decode cX10_reckons 158 = .ok (.iload 6, 2) := by decide +kernel
theorem dX10_reckons_160 : decode cX10_reckons 160 = .ok (.iload 7, 2) := by decide +kernel
theorem dX10_reckons_162 : decode cX10_reckons 162 = .ok (.irem, 1) := by decide +kernel
theorem dX10_reckons_163 : decode cX10_reckons 163 = .ok (.invokevirtual 208, 3) := by decide +kernel
theorem dX10_reckons_166 : decode cX10_reckons 166 = .ok (.return_, 1) := by decide +kernel
theorem dX10_traps_0 : decode cX10_traps 0 = .ok (.aload_n 0, 1) := by decide +kernel
theorem dX10_traps_1 : decode cX10_traps 1 = .ok (.iload_n 2, 1) := by decide +kernel
theorem dX10_traps_2 : decode cX10_traps 2 = .ok (.putfield 183, 3) := by decide +kernel
theorem dX10_traps_5 : decode cX10_traps 5 = .ok (.aload_n 1, 1) := by decide +kernel
theorem dX10_traps_6 : decode cX10_traps 6 = .ok (.sipush 132, 3) := by decide +kernel
theorem dX10_traps_9 : decode cX10_traps 9 = .ok (.bipush 10, 2) := by decide +kernel
theorem dX10_traps_11 : decode cX10_traps 11 = .ok (.iload_n 2, 1) := by decide +kernel
theorem dX10_traps_12 : decode cX10_traps 12 = .ok (.iadd, 1) := by decide +kernel
theorem dX10_traps_13 : decode cX10_traps 13 = .ok (.iastore, 1) := by decide +kernel
theorem dX10_traps_14 : decode cX10_traps 14 = .ok (.return_, 1) := by decide +kernel
def g_X10_poke (F : Nat) (x1 : Int32) (x2 : Int32) (x3 : Int32) (u : rg_U) : Option (Int32 × rg_U) :=
  ck (inb 4 5) (if (rA u 5 4) = 0 then (some ((-1), u)) else (if (g_X10_isPlace x1) = 0 then (some ((-1), u)) else (if (g_X10_isValue x2 x3) = 0 then (some ((-1), u)) else (ck (inb 4 5) (if (rA u 15 4) = 800 then (some ((-1), u)) else (ck (inb (80 + x1) 134) (ob (g_X10_notes F 2 x3 x1 x2 u) (fun r8 => ob (g_X10_puts F 28 134 x1 x2 x3 r8) (fun r13 => lt1 (sF r13 0 41 (-1)) (fun u18 => ck (inb (80 + x1) 134) (some (((rA u18 28 (80 + x1)) - (rA u 28 (80 + x1))), u18))))))))))))
set_option maxHeartbeats 4000000 in
set_option maxRecDepth 100000 in
theorem k_X10_poke {gs : List String} {ro : pm_RO} {n : Nat} {w : Nat → va_E} {b : Nat} {u : rg_U} {F : Nat} {x1 : Int32} {x2 : Int32} {x3 : Int32} {z : (Int32 × rg_U)} (hR : rg shM b u n w) (h : g_X10_poke F x1 x2 x3 u = some z) : pm_Met gs ro M_X10_poke 2 0 0 [.ref (b + 0), .int x1, .int x2, .int x3] n w (rg_post shM b n w (some (.int z.1)) z.2) := by
  unfold g_X10_poke at h
  refine pm_ofX in_X10_poke (Nat.le_of_ble_eq_true rfl) rfl (L := [some (.ref (b + 0)), some (.int x1), some (.int x2), some (.int x3), none]) rfl ?_
  refine pm_aload_n dX10_poke_0 rfl ?_
  refine dx_gr (j := 0) (o := 5) hR dX10_poke_1 fl_X10_29 rfl rfl ?_
  refine pm_iconst (v := 4) dX10_poke_4 (by decide) ?_
  obtain ⟨c1, h⟩ := ck_some h
  refine dx_zl (j := 5) hR dX10_poke_5 rfl (vp_in_iff.mpr c1) ?_
  refine pm_if_eq (tgt := 36) dX10_poke_6 (by decide) (fun c2 => ?_) (fun c2 => ?_)
  · replace h := it_t c2 h
    refine pm_iconst (v := (-1)) dX10_poke_36 (by decide) ?_
    cases h
    exact pm_iret dX10_poke_37 rfl (Nat.le_refl _) (Nat.le_refl _) ⟨rfl, rfl, hR, rg_k0⟩
  · replace h := it_f c2 h
    refine pm_iload_n dX10_poke_9 rfl ?_
    refine dx_cSp (M := M_X10_poke) (Mc := M_X10_isPlace) (dc := 1) (As := [.int x1]) (st := []) dX10_poke_10 ml_X10_169 (by decide) (Nat.le_of_ble_eq_true rfl) rfl (k_X10_isPlace rfl) ?_
    refine pm_if_eq (tgt := 36) dX10_poke_13 (by decide) (fun c3 => ?_) (fun c3 => ?_)
    · replace h := it_t c3 h
      refine pm_iconst (v := (-1)) dX10_poke_36 (by decide) ?_
      cases h
      exact pm_iret dX10_poke_37 rfl (Nat.le_refl _) (Nat.le_refl _) ⟨rfl, rfl, hR, rg_k0⟩
    · replace h := it_f c3 h
      refine pm_iload_n dX10_poke_16 rfl ?_
      refine pm_iload_n dX10_poke_17 rfl ?_
      refine dx_cSp (M := M_X10_poke) (Mc := M_X10_isValue) (dc := 1) (As := [.int x2, .int x3]) (st := []) dX10_poke_18 ml_X10_172 (by decide) (Nat.le_of_ble_eq_true rfl) rfl (k_X10_isValue rfl) ?_
      refine pm_if_eq (tgt := 36) dX10_poke_21 (by decide) (fun c4 => ?_) (fun c4 => ?_)
      · replace h := it_t c4 h
        refine pm_iconst (v := (-1)) dX10_poke_36 (by decide) ?_
        cases h
        exact pm_iret dX10_poke_37 rfl (Nat.le_refl _) (Nat.le_refl _) ⟨rfl, rfl, hR, rg_k0⟩
      · replace h := it_f c4 h
        refine pm_aload_n dX10_poke_24 rfl ?_
        refine dx_gr (j := 0) (o := 15) hR dX10_poke_25 fl_X10_60 rfl rfl ?_
        refine pm_iconst (v := 4) dX10_poke_28 (by decide) ?_
        obtain ⟨c5, h⟩ := ck_some h
        refine dx_al (j := 15) hR dX10_poke_29 rfl (vp_in_iff.mpr c5) ?_
        refine pm_sipush (v := 800) dX10_poke_30 (by decide) ?_
        refine pm_icmp_ne (tgt := 38) dX10_poke_33 (by decide) (fun c6 => ?_) (fun c6 => ?_)
        · replace h := it_f c6 h
          refine pm_aload_n dX10_poke_38 rfl ?_
          refine dx_gr (j := 0) (o := 28) hR dX10_poke_39 fl_X10_102 rfl rfl ?_
          refine pm_bipush (v := 80) dX10_poke_42 (by decide) ?_
          refine pm_iload_n dX10_poke_44 rfl ?_
          refine pm_iadd dX10_poke_45 ?_
          obtain ⟨c7, h⟩ := ck_some h
          refine dx_al (j := 28) hR dX10_poke_46 rfl (vp_in_iff.mpr c7) ?_
          refine pm_istore dX10_poke_47 (by decide) rfl rfl ?_
          refine pm_aload_n dX10_poke_49 rfl ?_
          refine pm_iconst (v := 2) dX10_poke_50 (by decide) ?_
          refine pm_iload_n dX10_poke_51 rfl ?_
          refine pm_iload_n dX10_poke_52 rfl ?_
          refine pm_iload_n dX10_poke_53 rfl ?_
          obtain ⟨r8, h9, h⟩ := ob_some h
          refine dx_cVv (j := 0) (M := M_X10_poke) (Mc := M_X10_notes) (dc := 0) (As := [.int 2, .int x3, .int x1, .int x2]) (st := []) hR rg_k0 dX10_poke_54 ml_X10_175 ⟨TX10, 55, rfl⟩ rfl (by decide) (Nat.le_of_ble_eq_true rfl) rfl (k_X10_notes hR h9) (fun w10 hR11 hk12 => ?_)
          refine pm_aload_n dX10_poke_57 rfl ?_
          refine dx_gr (j := 0) (o := 28) hR11 dX10_poke_58 fl_X10_102 rfl rfl ?_
          refine pm_iload_n dX10_poke_61 rfl ?_
          refine pm_iload_n dX10_poke_62 rfl ?_
          refine pm_iload_n dX10_poke_63 rfl ?_
          obtain ⟨r13, h14, h⟩ := ob_some h
          refine dx_cSv (M := M_X10_poke) (Mc := M_X10_puts) (dc := 1) (As := [.ref (b + 28), .int x1, .int x2, .int x3]) (st := []) hk12 dX10_poke_64 ml_X10_179 (by decide) (Nat.le_of_ble_eq_true rfl) rfl (k_X10_puts hR11 rfl h14) (fun w15 hR16 hk17 => ?_)
          refine pm_aload_n dX10_poke_67 rfl ?_
          refine pm_iconst (v := (-1)) dX10_poke_68 (by decide) ?_
          obtain ⟨u18, hu19, h⟩ := lt1_ex h
          refine dx_pi (j := 0) hR16 hk17 dX10_poke_69 fl_X10_117 rfl rfl hu19 (fun w20 hR21 hk22 => ?_)
          refine pm_aload_n dX10_poke_72 rfl ?_
          refine dx_gr (j := 0) (o := 28) hR21 dX10_poke_73 fl_X10_102 rfl rfl ?_
          refine pm_bipush (v := 80) dX10_poke_76 (by decide) ?_
          refine pm_iload_n dX10_poke_78 rfl ?_
          refine pm_iadd dX10_poke_79 ?_
          obtain ⟨c23, h⟩ := ck_some h
          refine dx_al (j := 28) hR21 dX10_poke_80 rfl (vp_in_iff.mpr c23) ?_
          refine pm_iload dX10_poke_81 rfl ?_
          refine pm_isub dX10_poke_83 ?_
          cases h
          exact pm_iret dX10_poke_84 rfl (Nat.le_refl _) (Nat.le_refl _) ⟨rfl, rfl, hR21, hk22⟩
        · replace h := it_t c6 h
          refine pm_iconst (v := (-1)) dX10_poke_36 (by decide) ?_
          cases h
          exact pm_iret dX10_poke_37 rfl (Nat.le_refl _) (Nat.le_refl _) ⟨rfl, rfl, hR, rg_k0⟩
def g_X10_kindAt (F : Nat) (x1 : Int32) (x2 : Int32) (u : rg_U) : Option Int32 :=
  if x2 < 64 then (ck (inb ((64 * x1) + x2) 320) (some (rA u 6 ((64 * x1) + x2)))) else (some (-1))
set_option maxHeartbeats 4000000 in
set_option maxRecDepth 100000 in
theorem k_X10_kindAt {gs : List String} {ro : pm_RO} {n : Nat} {w : Nat → va_E} {b : Nat} {u : rg_U} {F : Nat} {x1 : Int32} {x2 : Int32} {z : Int32} (hR : rg shM b u n w) (h : g_X10_kindAt F x1 x2 u = some z) : pm_Met gs ro M_X10_kindAt 0 0 0 [.ref (b + 0), .int x1, .int x2] n w (pm_p n w (some (.int z))) := by
  unfold g_X10_kindAt at h
  refine pm_ofX in_X10_kindAt (Nat.le_of_ble_eq_true rfl) rfl (L := [some (.ref (b + 0)), some (.int x1), some (.int x2)]) rfl ?_
  refine pm_iload_n dX10_kindAt_0 rfl ?_
  refine pm_bipush (v := 64) dX10_kindAt_1 (by decide) ?_
  refine pm_icmp_lt (tgt := 10) dX10_kindAt_3 (by decide) (fun c1 => ?_) (fun c1 => ?_)
  · replace h := it_t c1 h
    refine pm_aload_n dX10_kindAt_10 rfl ?_
    refine dx_gr (j := 0) (o := 6) hR dX10_kindAt_11 fl_X10_33 rfl rfl ?_
    refine pm_bipush (v := 64) dX10_kindAt_14 (by decide) ?_
    refine pm_iload_n dX10_kindAt_16 rfl ?_
    refine pm_imul dX10_kindAt_17 ?_
    refine pm_iload_n dX10_kindAt_18 rfl ?_
    refine pm_iadd dX10_kindAt_19 ?_
    obtain ⟨c2, h⟩ := ck_some h
    refine dx_al (j := 6) hR dX10_kindAt_20 rfl (vp_in_iff.mpr c2) ?_
    cases h
    exact pm_iret dX10_kindAt_21 rfl (Nat.le_refl _) (Nat.le_refl _) ⟨rfl, rfl, rfl⟩
  · replace h := it_f c1 h
    refine pm_iconst (v := (-1)) dX10_kindAt_6 (by decide) ?_
    refine pm_goto (tgt := 21) dX10_kindAt_7 (by decide) ?_
    cases h
    exact pm_iret dX10_kindAt_21 rfl (Nat.le_refl _) (Nat.le_refl _) ⟨rfl, rfl, rfl⟩
def g_X10_isOf (F : Nat) (o0 N0 : Nat) (x1 : Int32) (x2 : Int32) (u : rg_U) : Option Int32 :=
  ck (inb (0 + x1) N0) (if (rA u o0 (0 + x1)) = x2 then (some 1) else (some 0))
set_option maxHeartbeats 4000000 in
set_option maxRecDepth 100000 in
theorem k_X10_isOf {gs : List String} {ro : pm_RO} {n : Nat} {w : Nat → va_E} {b : Nat} {u : rg_U} {F : Nat} {o0 N0 : Nat} {x1 : Int32} {x2 : Int32} {z : Int32} (hR : rg shM b u n w) (hs0 : shM[o0]? = some (.inr (.inl (0, N0)))) (h : g_X10_isOf F o0 N0 x1 x2 u = some z) : pm_Met gs ro M_X10_isOf 0 0 0 [.ref (b + o0), .int x1, .int x2] n w (pm_p n w (some (.int z))) := by
  unfold g_X10_isOf at h
  refine pm_ofX in_X10_isOf (Nat.le_of_ble_eq_true rfl) rfl (L := [some (.ref (b + o0)), some (.int x1), some (.int x2)]) rfl ?_
  refine pm_aload_n dX10_isOf_0 rfl ?_
  refine pm_iconst (v := 0) dX10_isOf_1 (by decide) ?_
  refine pm_iload_n dX10_isOf_2 rfl ?_
  refine pm_iadd dX10_isOf_3 ?_
  obtain ⟨c1, h⟩ := ck_some h
  refine dx_al (j := o0) hR dX10_isOf_4 hs0 (vp_in_iff.mpr c1) ?_
  refine pm_iload_n dX10_isOf_5 rfl ?_
  refine pm_icmp_ne (tgt := 13) dX10_isOf_6 (by decide) (fun c2 => ?_) (fun c2 => ?_)
  · replace h := it_f c2 h
    refine pm_iconst (v := 0) dX10_isOf_13 (by decide) ?_
    cases h
    exact pm_zret dX10_isOf_14 rfl (Or.inl rfl) (Nat.le_refl _) (Nat.le_refl _) ⟨rfl, rfl, rfl⟩
  · replace h := it_t c2 h
    refine pm_iconst (v := 1) dX10_isOf_9 (by decide) ?_
    refine pm_goto (tgt := 14) dX10_isOf_10 (by decide) ?_
    cases h
    exact pm_zret dX10_isOf_14 rfl (Or.inr rfl) (Nat.le_refl _) (Nat.le_refl _) ⟨rfl, rfl, rfl⟩
def g_X10_traps (F : Nat) (o1 N1 : Nat) (x2 : Int32) (u : rg_U) : Option rg_U :=
  lt1 (sF u 0 37 x2) (fun u1 => ck (inb 132 N1) (lt1 (sA u1 o1 132 (10 + x2)) (fun u7 => some u7)))
set_option maxHeartbeats 4000000 in
set_option maxRecDepth 100000 in
theorem k_X10_traps {gs : List String} {ro : pm_RO} {n : Nat} {w : Nat → va_E} {b : Nat} {u : rg_U} {F : Nat} {o1 N1 : Nat} {x2 : Int32} {z : rg_U} (hR : rg shM b u n w) (hs1 : shM[o1]? = some (.inr (.inl (0, N1)))) (h : g_X10_traps F o1 N1 x2 u = some z) : pm_Met gs ro M_X10_traps 0 0 0 [.ref (b + 0), .ref (b + o1), .int x2] n w (rg_post shM b n w none z) := by
  unfold g_X10_traps at h
  refine pm_ofX in_X10_traps (Nat.le_of_ble_eq_true rfl) rfl (L := [some (.ref (b + 0)), some (.ref (b + o1)), some (.int x2)]) rfl ?_
  refine pm_aload_n dX10_traps_0 rfl ?_
  refine pm_iload_n dX10_traps_1 rfl ?_
  obtain ⟨u1, hu2, h⟩ := lt1_ex h
  refine dx_pi (j := 0) hR rg_k0 dX10_traps_2 fl_X10_183 rfl rfl hu2 (fun w3 hR4 hk5 => ?_)
  refine pm_aload_n dX10_traps_5 rfl ?_
  refine pm_sipush (v := 132) dX10_traps_6 (by decide) ?_
  refine pm_bipush (v := 10) dX10_traps_9 (by decide) ?_
  refine pm_iload_n dX10_traps_11 rfl ?_
  refine pm_iadd dX10_traps_12 ?_
  obtain ⟨c6, h⟩ := ck_some h
  obtain ⟨u7, hu8, h⟩ := lt1_ex h
  refine dx_as (j := o1) hR4 hk5 dX10_traps_13 hs1 (vp_in_iff.mpr c6) hu8 (fun w9 hR10 hk11 => ?_)
  cases h
  exact pm_vret dX10_traps_14 rfl (Nat.le_refl _) (Nat.le_refl _) ⟨rfl, rfl, hR10, hk11⟩
def g_X10_gives (F : Nat) (o1 N1 : Nat) (x2 : Int32) (x3 : Int32) (x4 : Int32) (u : rg_U) : Option rg_U :=
  lt1 (sF u 0 39 x2) (fun u1 => ob (g_X10_puts F o1 N1 x2 x3 x4 u1) (fun r6 => some r6))
set_option maxHeartbeats 4000000 in
set_option maxRecDepth 100000 in
theorem k_X10_gives {gs : List String} {ro : pm_RO} {n : Nat} {w : Nat → va_E} {b : Nat} {u : rg_U} {F : Nat} {o1 N1 : Nat} {x2 : Int32} {x3 : Int32} {x4 : Int32} {z : rg_U} (hR : rg shM b u n w) (hs1 : shM[o1]? = some (.inr (.inl (0, N1)))) (h : g_X10_gives F o1 N1 x2 x3 x4 u = some z) : pm_Met gs ro M_X10_gives 2 0 0 [.ref (b + 0), .ref (b + o1), .int x2, .int x3, .int x4] n w (rg_post shM b n w none z) := by
  unfold g_X10_gives at h
  refine pm_ofX in_X10_gives (Nat.le_of_ble_eq_true rfl) rfl (L := [some (.ref (b + 0)), some (.ref (b + o1)), some (.int x2), some (.int x3), some (.int x4)]) rfl ?_
  refine pm_aload_n dX10_gives_0 rfl ?_
  refine pm_iload_n dX10_gives_1 rfl ?_
  obtain ⟨u1, hu2, h⟩ := lt1_ex h
  refine dx_pi (j := 0) hR rg_k0 dX10_gives_2 fl_X10_186 rfl rfl hu2 (fun w3 hR4 hk5 => ?_)
  refine pm_aload_n dX10_gives_5 rfl ?_
  refine pm_iload_n dX10_gives_6 rfl ?_
  refine pm_iload_n dX10_gives_7 rfl ?_
  refine pm_iload dX10_gives_8 rfl ?_
  obtain ⟨r6, h7, h⟩ := ob_some h
  refine dx_cSv (M := M_X10_gives) (Mc := M_X10_puts) (dc := 1) (As := [.ref (b + o1), .int x2, .int x3, .int x4]) (st := []) hk5 dX10_gives_10 ml_X10_179 (by decide) (Nat.le_of_ble_eq_true rfl) rfl (k_X10_puts hR4 hs1 h7) (fun w8 hR9 hk10 => ?_)
  cases h
  exact pm_vret dX10_gives_13 rfl (Nat.le_refl _) (Nat.le_refl _) ⟨rfl, rfl, hR9, hk10⟩
def g_X10_cells_j12 (F : Nat) (o1 N1 : Nat) (l2 : Int32) (l3 : Int32) (l4 : Int32) (s0 : Int32) (u : rg_U) : Option rg_U :=
  ob (g_X10_isOf F o1 N1 s0 2 u) (fun r2 => if r2 = 0 then (ob (g_X10_traps F o1 N1 1 u) (fun r28 => some r28)) else (ck (inb (40 + s0) N1) (if (g_X10_isIn (rA u o1 (40 + s0)) 0 31) = 0 then (ob (g_X10_traps F o1 N1 3 u) (fun r23 => some r23)) else (ck (inb (40 + s0) N1) (if l2 = 13 then (ck (inb (0 + (8 + (rA u o1 (40 + s0)))) N1) (ck (inb (40 + (8 + (rA u o1 (40 + s0)))) N1) (ob (g_X10_gives F o1 N1 l3 (rA u o1 (0 + (8 + (rA u o1 (40 + s0))))) (rA u o1 (40 + (8 + (rA u o1 (40 + s0))))) u) (fun r18 => some r18)))) else (ck (inb (0 + l4) N1) (ck (inb (40 + l4) N1) (ob (g_X10_gives F o1 N1 (8 + (rA u o1 (40 + s0))) (rA u o1 (0 + l4)) (rA u o1 (40 + l4)) u) (fun r11 => some r11)))))))))
set_option maxHeartbeats 4000000 in
set_option maxRecDepth 100000 in
theorem k_X10_cells_j12 {gs : List String} {ro : pm_RO} {n : Nat} {w w1 : Nat → va_E} {b : Nat} {u : rg_U} {F : Nat} {o1 N1 : Nat} {l2 : Int32} {l3 : Int32} {l4 : Int32} {s0 : Int32} {z : rg_U} (hR : rg shM b u n w1) (hk : rg_k b shM.length w w1) (hs1 : shM[o1]? = some (.inr (.inl (0, N1)))) (h : g_X10_cells_j12 F o1 N1 l2 l3 l4 s0 u = some z) : pm_X gs ro M_X10_cells 3 0 0 0 0 12 [some (.ref (b + 0)), some (.ref (b + o1)), some (.int l2), some (.int l3), some (.int l4), none, none] [.int s0] n w1 (rg_post shM b n w none z) := by
  unfold g_X10_cells_j12 at h
  refine pm_istore dX10_cells_12 (by decide) rfl rfl ?_
  refine pm_aload_n dX10_cells_14 rfl ?_
  refine pm_iload dX10_cells_15 rfl ?_
  refine pm_iconst (v := 2) dX10_cells_17 (by decide) ?_
  obtain ⟨r2, h3, h⟩ := ob_some h
  refine dx_cSp (M := M_X10_cells) (Mc := M_X10_isOf) (dc := 0) (As := [.ref (b + o1), .int s0, .int 2]) (st := []) dX10_cells_18 ml_X10_211 (by decide) (Nat.le_of_ble_eq_true rfl) rfl (k_X10_isOf hR hs1 h3) ?_
  refine pm_if_ne (tgt := 31) dX10_cells_21 (by decide) (fun c4 => ?_) (fun c4 => ?_)
  · replace h := it_f c4 h
    refine pm_aload_n dX10_cells_31 rfl ?_
    refine pm_bipush (v := 40) dX10_cells_32 (by decide) ?_
    refine pm_iload dX10_cells_34 rfl ?_
    refine pm_iadd dX10_cells_36 ?_
    obtain ⟨c5, h⟩ := ck_some h
    refine dx_al (j := o1) hR dX10_cells_37 hs1 (vp_in_iff.mpr c5) ?_
    refine pm_iconst (v := 0) dX10_cells_38 (by decide) ?_
    refine pm_bipush (v := 31) dX10_cells_39 (by decide) ?_
    refine dx_cSp (M := M_X10_cells) (Mc := M_X10_isIn) (dc := 0) (As := [.int (rA u o1 (40 + s0)), .int 0, .int 31]) (st := []) dX10_cells_41 ml_X10_138 (by decide) (Nat.le_of_ble_eq_true rfl) rfl (k_X10_isIn rfl) ?_
    refine pm_if_ne (tgt := 54) dX10_cells_44 (by decide) (fun c6 => ?_) (fun c6 => ?_)
    · replace h := it_f c6 h
      refine pm_bipush (v := 8) dX10_cells_54 (by decide) ?_
      refine pm_aload_n dX10_cells_56 rfl ?_
      refine pm_bipush (v := 40) dX10_cells_57 (by decide) ?_
      refine pm_iload dX10_cells_59 rfl ?_
      refine pm_iadd dX10_cells_61 ?_
      obtain ⟨c7, h⟩ := ck_some h
      refine dx_al (j := o1) hR dX10_cells_62 hs1 (vp_in_iff.mpr c7) ?_
      refine pm_iadd dX10_cells_63 ?_
      refine pm_istore dX10_cells_64 (by decide) rfl rfl ?_
      refine pm_iload_n dX10_cells_66 rfl ?_
      refine pm_bipush (v := 13) dX10_cells_67 (by decide) ?_
      refine pm_icmp_ne (tgt := 94) dX10_cells_69 (by decide) (fun c8 => ?_) (fun c8 => ?_)
      · replace h := it_f c8 h
        refine pm_aload_n dX10_cells_94 rfl ?_
        refine pm_aload_n dX10_cells_95 rfl ?_
        refine pm_iload dX10_cells_96 rfl ?_
        refine pm_aload_n dX10_cells_98 rfl ?_
        refine pm_iconst (v := 0) dX10_cells_99 (by decide) ?_
        refine pm_iload dX10_cells_100 rfl ?_
        refine pm_iadd dX10_cells_102 ?_
        obtain ⟨c9, h⟩ := ck_some h
        refine dx_al (j := o1) hR dX10_cells_103 hs1 (vp_in_iff.mpr c9) ?_
        refine pm_aload_n dX10_cells_104 rfl ?_
        refine pm_bipush (v := 40) dX10_cells_105 (by decide) ?_
        refine pm_iload dX10_cells_107 rfl ?_
        refine pm_iadd dX10_cells_109 ?_
        obtain ⟨c10, h⟩ := ck_some h
        refine dx_al (j := o1) hR dX10_cells_110 hs1 (vp_in_iff.mpr c10) ?_
        obtain ⟨r11, h12, h⟩ := ob_some h
        refine dx_cVv (j := 0) (M := M_X10_cells) (Mc := M_X10_gives) (dc := 2) (As := [.ref (b + o1), .int (8 + (rA u o1 (40 + s0))), .int (rA u o1 (0 + l4)), .int (rA u o1 (40 + l4))]) (st := []) hR hk dX10_cells_111 ml_X10_208 ⟨TX10, 55, rfl⟩ rfl (by decide) (Nat.le_of_ble_eq_true rfl) rfl (k_X10_gives hR hs1 h12) (fun w13 hR14 hk15 => ?_)
        cases h
        exact pm_vret dX10_cells_114 rfl (Nat.le_refl _) (Nat.le_refl _) ⟨rfl, rfl, hR14, hk15⟩
      · replace h := it_t c8 h
        refine pm_aload_n dX10_cells_72 rfl ?_
        refine pm_aload_n dX10_cells_73 rfl ?_
        refine pm_iload_n dX10_cells_74 rfl ?_
        refine pm_aload_n dX10_cells_75 rfl ?_
        refine pm_iconst (v := 0) dX10_cells_76 (by decide) ?_
        refine pm_iload dX10_cells_77 rfl ?_
        refine pm_iadd dX10_cells_79 ?_
        obtain ⟨c16, h⟩ := ck_some h
        refine dx_al (j := o1) hR dX10_cells_80 hs1 (vp_in_iff.mpr c16) ?_
        refine pm_aload_n dX10_cells_81 rfl ?_
        refine pm_bipush (v := 40) dX10_cells_82 (by decide) ?_
        refine pm_iload dX10_cells_84 rfl ?_
        refine pm_iadd dX10_cells_86 ?_
        obtain ⟨c17, h⟩ := ck_some h
        refine dx_al (j := o1) hR dX10_cells_87 hs1 (vp_in_iff.mpr c17) ?_
        obtain ⟨r18, h19, h⟩ := ob_some h
        refine dx_cVv (j := 0) (M := M_X10_cells) (Mc := M_X10_gives) (dc := 2) (As := [.ref (b + o1), .int l3, .int (rA u o1 (0 + (8 + (rA u o1 (40 + s0))))), .int (rA u o1 (40 + (8 + (rA u o1 (40 + s0)))))]) (st := []) hR hk dX10_cells_88 ml_X10_208 ⟨TX10, 55, rfl⟩ rfl (by decide) (Nat.le_of_ble_eq_true rfl) rfl (k_X10_gives hR hs1 h19) (fun w20 hR21 hk22 => ?_)
        refine pm_goto (tgt := 114) dX10_cells_91 (by decide) ?_
        cases h
        exact pm_vret dX10_cells_114 rfl (Nat.le_refl _) (Nat.le_refl _) ⟨rfl, rfl, hR21, hk22⟩
    · replace h := it_t c6 h
      refine pm_aload_n dX10_cells_47 rfl ?_
      refine pm_aload_n dX10_cells_48 rfl ?_
      refine pm_iconst (v := 3) dX10_cells_49 (by decide) ?_
      obtain ⟨r23, h24, h⟩ := ob_some h
      refine dx_cVv (j := 0) (M := M_X10_cells) (Mc := M_X10_traps) (dc := 0) (As := [.ref (b + o1), .int 3]) (st := []) hR hk dX10_cells_50 ml_X10_200 ⟨TX10, 55, rfl⟩ rfl (by decide) (Nat.le_of_ble_eq_true rfl) rfl (k_X10_traps hR hs1 h24) (fun w25 hR26 hk27 => ?_)
      cases h
      exact pm_vret dX10_cells_53 rfl (Nat.le_refl _) (Nat.le_refl _) ⟨rfl, rfl, hR26, hk27⟩
  · replace h := it_t c4 h
    refine pm_aload_n dX10_cells_24 rfl ?_
    refine pm_aload_n dX10_cells_25 rfl ?_
    refine pm_iconst (v := 1) dX10_cells_26 (by decide) ?_
    obtain ⟨r28, h29, h⟩ := ob_some h
    refine dx_cVv (j := 0) (M := M_X10_cells) (Mc := M_X10_traps) (dc := 0) (As := [.ref (b + o1), .int 1]) (st := []) hR hk dX10_cells_27 ml_X10_200 ⟨TX10, 55, rfl⟩ rfl (by decide) (Nat.le_of_ble_eq_true rfl) rfl (k_X10_traps hR hs1 h29) (fun w30 hR31 hk32 => ?_)
    cases h
    exact pm_vret dX10_cells_30 rfl (Nat.le_refl _) (Nat.le_refl _) ⟨rfl, rfl, hR31, hk32⟩
def g_X10_cells (F : Nat) (o1 N1 : Nat) (x2 : Int32) (x3 : Int32) (x4 : Int32) (u : rg_U) : Option rg_U :=
  if x2 = 13 then (g_X10_cells_j12 F o1 N1 x2 x3 x4 x4 u) else (g_X10_cells_j12 F o1 N1 x2 x3 x4 x3 u)
set_option maxHeartbeats 4000000 in
set_option maxRecDepth 100000 in
theorem k_X10_cells {gs : List String} {ro : pm_RO} {n : Nat} {w : Nat → va_E} {b : Nat} {u : rg_U} {F : Nat} {o1 N1 : Nat} {x2 : Int32} {x3 : Int32} {x4 : Int32} {z : rg_U} (hR : rg shM b u n w) (hs1 : shM[o1]? = some (.inr (.inl (0, N1)))) (h : g_X10_cells F o1 N1 x2 x3 x4 u = some z) : pm_Met gs ro M_X10_cells 3 0 0 [.ref (b + 0), .ref (b + o1), .int x2, .int x3, .int x4] n w (rg_post shM b n w none z) := by
  unfold g_X10_cells at h
  refine pm_ofX in_X10_cells (Nat.le_of_ble_eq_true rfl) rfl (L := [some (.ref (b + 0)), some (.ref (b + o1)), some (.int x2), some (.int x3), some (.int x4), none, none]) rfl ?_
  refine pm_iload_n dX10_cells_0 rfl ?_
  refine pm_bipush (v := 13) dX10_cells_1 (by decide) ?_
  refine pm_icmp_ne (tgt := 11) dX10_cells_3 (by decide) (fun c1 => ?_) (fun c1 => ?_)
  · replace h := it_f c1 h
    refine pm_iload_n dX10_cells_11 rfl ?_
    exact k_X10_cells_j12 hR rg_k0 hs1 h
  · replace h := it_t c1 h
    refine pm_iload dX10_cells_6 rfl ?_
    refine pm_goto (tgt := 12) dX10_cells_8 (by decide) ?_
    exact k_X10_cells_j12 hR rg_k0 hs1 h
def g_X10_goes (F : Nat) (o1 N1 : Nat) (x2 : Int32) (x3 : Int32) (x4 : Int32) (u : rg_U) : Option rg_U :=
  if x2 = 15 then (ck (inb 120 N1) (lt1 (sA u o1 120 x3) (fun u72 => some u72))) else (if x2 = 16 then (ob (g_X10_isOf F o1 N1 x3 1 u) (fun r55 => if r55 = 0 then (ob (g_X10_traps F o1 N1 1 u) (fun r66 => some r66)) else (ck (inb (40 + x3) N1) (if (rA u o1 (40 + x3)) = 1 then (ck (inb 120 N1) (lt1 (sA u o1 120 x4) (fun u61 => some u61))) else (some u))))) else (if x2 = 17 then (ck (inb 121 N1) (if (rA u o1 121) = 8 then (ob (g_X10_traps F o1 N1 4 u) (fun r50 => some r50)) else (ck (inb 121 N1) (ck (inb 120 N1) (ck (inb (122 + (rA u o1 121)) N1) (lt1 (sA u o1 (122 + (rA u o1 121)) (rA u o1 120)) (fun u32 => ck (inb 121 N1) (ck (inb 121 N1) (lt1 (sA u32 o1 121 ((rA u32 o1 121) + 1)) (fun u39 => ck (inb 120 N1) (lt1 (sA u39 o1 120 x3) (fun u45 => some u45)))))))))))) else (ck (inb 121 N1) (if (rA u o1 121) = 0 then (ck (inb 132 N1) (lt1 (sA u o1 132 2) (fun u22 => some u22))) else (ck (inb 121 N1) (ck (inb 121 N1) (lt1 (sA u o1 121 ((rA u o1 121) - 1)) (fun u8 => ck (inb 121 N1) (ck (inb (122 + (rA u8 o1 121)) N1) (ck (inb 120 N1) (lt1 (sA u8 o1 120 (rA u8 o1 (122 + (rA u8 o1 121)))) (fun u16 => some u16))))))))))))
set_option maxHeartbeats 4000000 in
set_option maxRecDepth 100000 in
theorem k_X10_goes {gs : List String} {ro : pm_RO} {n : Nat} {w : Nat → va_E} {b : Nat} {u : rg_U} {F : Nat} {o1 N1 : Nat} {x2 : Int32} {x3 : Int32} {x4 : Int32} {z : rg_U} (hR : rg shM b u n w) (hs1 : shM[o1]? = some (.inr (.inl (0, N1)))) (h : g_X10_goes F o1 N1 x2 x3 x4 u = some z) : pm_Met gs ro M_X10_goes 1 0 0 [.ref (b + 0), .ref (b + o1), .int x2, .int x3, .int x4] n w (rg_post shM b n w none z) := by
  unfold g_X10_goes at h
  refine pm_ofX in_X10_goes (Nat.le_of_ble_eq_true rfl) rfl (L := [some (.ref (b + 0)), some (.ref (b + o1)), some (.int x2), some (.int x3), some (.int x4)]) rfl ?_
  refine pm_iload_n dX10_goes_0 rfl ?_
  refine pm_bipush (v := 15) dX10_goes_1 (by decide) ?_
  refine pm_icmp_ne (tgt := 14) dX10_goes_3 (by decide) (fun c1 => ?_) (fun c1 => ?_)
  · replace h := it_f c1 h
    refine pm_iload_n dX10_goes_14 rfl ?_
    refine pm_bipush (v := 16) dX10_goes_15 (by decide) ?_
    refine pm_icmp_ne (tgt := 57) dX10_goes_17 (by decide) (fun c2 => ?_) (fun c2 => ?_)
    · replace h := it_f c2 h
      refine pm_iload_n dX10_goes_57 rfl ?_
      refine pm_bipush (v := 17) dX10_goes_58 (by decide) ?_
      refine pm_icmp_ne (tgt := 108) dX10_goes_60 (by decide) (fun c3 => ?_) (fun c3 => ?_)
      · replace h := it_f c3 h
        refine pm_aload_n dX10_goes_108 rfl ?_
        refine pm_bipush (v := 121) dX10_goes_109 (by decide) ?_
        obtain ⟨c4, h⟩ := ck_some h
        refine dx_al (j := o1) hR dX10_goes_111 hs1 (vp_in_iff.mpr c4) ?_
        refine pm_if_ne (tgt := 124) dX10_goes_112 (by decide) (fun c5 => ?_) (fun c5 => ?_)
        · replace h := it_f c5 h
          refine pm_aload_n dX10_goes_124 rfl ?_
          refine pm_bipush (v := 121) dX10_goes_125 (by decide) ?_
          refine pm_dup2 dX10_goes_127 rfl rfl ?_
          obtain ⟨c6, h⟩ := ck_some h
          refine dx_al (j := o1) hR dX10_goes_128 hs1 (vp_in_iff.mpr c6) ?_
          refine pm_iconst (v := 1) dX10_goes_129 (by decide) ?_
          refine pm_isub dX10_goes_130 ?_
          obtain ⟨c7, h⟩ := ck_some h
          obtain ⟨u8, hu9, h⟩ := lt1_ex h
          refine dx_as (j := o1) hR rg_k0 dX10_goes_131 hs1 (vp_in_iff.mpr c7) hu9 (fun w10 hR11 hk12 => ?_)
          refine pm_aload_n dX10_goes_132 rfl ?_
          refine pm_bipush (v := 120) dX10_goes_133 (by decide) ?_
          refine pm_aload_n dX10_goes_135 rfl ?_
          refine pm_bipush (v := 122) dX10_goes_136 (by decide) ?_
          refine pm_aload_n dX10_goes_138 rfl ?_
          refine pm_bipush (v := 121) dX10_goes_139 (by decide) ?_
          obtain ⟨c13, h⟩ := ck_some h
          refine dx_al (j := o1) hR11 dX10_goes_141 hs1 (vp_in_iff.mpr c13) ?_
          refine pm_iadd dX10_goes_142 ?_
          obtain ⟨c14, h⟩ := ck_some h
          refine dx_al (j := o1) hR11 dX10_goes_143 hs1 (vp_in_iff.mpr c14) ?_
          obtain ⟨c15, h⟩ := ck_some h
          obtain ⟨u16, hu17, h⟩ := lt1_ex h
          refine dx_as (j := o1) hR11 hk12 dX10_goes_144 hs1 (vp_in_iff.mpr c15) hu17 (fun w18 hR19 hk20 => ?_)
          cases h
          exact pm_vret dX10_goes_145 rfl (Nat.le_refl _) (Nat.le_refl _) ⟨rfl, rfl, hR19, hk20⟩
        · replace h := it_t c5 h
          refine pm_aload_n dX10_goes_115 rfl ?_
          refine pm_sipush (v := 132) dX10_goes_116 (by decide) ?_
          refine pm_iconst (v := 2) dX10_goes_119 (by decide) ?_
          obtain ⟨c21, h⟩ := ck_some h
          obtain ⟨u22, hu23, h⟩ := lt1_ex h
          refine dx_as (j := o1) hR rg_k0 dX10_goes_120 hs1 (vp_in_iff.mpr c21) hu23 (fun w24 hR25 hk26 => ?_)
          refine pm_goto (tgt := 145) dX10_goes_121 (by decide) ?_
          cases h
          exact pm_vret dX10_goes_145 rfl (Nat.le_refl _) (Nat.le_refl _) ⟨rfl, rfl, hR25, hk26⟩
      · replace h := it_t c3 h
        refine pm_aload_n dX10_goes_63 rfl ?_
        refine pm_bipush (v := 121) dX10_goes_64 (by decide) ?_
        obtain ⟨c27, h⟩ := ck_some h
        refine dx_al (j := o1) hR dX10_goes_66 hs1 (vp_in_iff.mpr c27) ?_
        refine pm_bipush (v := 8) dX10_goes_67 (by decide) ?_
        refine pm_icmp_ne (tgt := 79) dX10_goes_69 (by decide) (fun c28 => ?_) (fun c28 => ?_)
        · replace h := it_f c28 h
          refine pm_aload_n dX10_goes_79 rfl ?_
          refine pm_bipush (v := 122) dX10_goes_80 (by decide) ?_
          refine pm_aload_n dX10_goes_82 rfl ?_
          refine pm_bipush (v := 121) dX10_goes_83 (by decide) ?_
          obtain ⟨c29, h⟩ := ck_some h
          refine dx_al (j := o1) hR dX10_goes_85 hs1 (vp_in_iff.mpr c29) ?_
          refine pm_iadd dX10_goes_86 ?_
          refine pm_aload_n dX10_goes_87 rfl ?_
          refine pm_bipush (v := 120) dX10_goes_88 (by decide) ?_
          obtain ⟨c30, h⟩ := ck_some h
          refine dx_al (j := o1) hR dX10_goes_90 hs1 (vp_in_iff.mpr c30) ?_
          obtain ⟨c31, h⟩ := ck_some h
          obtain ⟨u32, hu33, h⟩ := lt1_ex h
          refine dx_as (j := o1) hR rg_k0 dX10_goes_91 hs1 (vp_in_iff.mpr c31) hu33 (fun w34 hR35 hk36 => ?_)
          refine pm_aload_n dX10_goes_92 rfl ?_
          refine pm_bipush (v := 121) dX10_goes_93 (by decide) ?_
          refine pm_dup2 dX10_goes_95 rfl rfl ?_
          obtain ⟨c37, h⟩ := ck_some h
          refine dx_al (j := o1) hR35 dX10_goes_96 hs1 (vp_in_iff.mpr c37) ?_
          refine pm_iconst (v := 1) dX10_goes_97 (by decide) ?_
          refine pm_iadd dX10_goes_98 ?_
          obtain ⟨c38, h⟩ := ck_some h
          obtain ⟨u39, hu40, h⟩ := lt1_ex h
          refine dx_as (j := o1) hR35 hk36 dX10_goes_99 hs1 (vp_in_iff.mpr c38) hu40 (fun w41 hR42 hk43 => ?_)
          refine pm_aload_n dX10_goes_100 rfl ?_
          refine pm_bipush (v := 120) dX10_goes_101 (by decide) ?_
          refine pm_iload_n dX10_goes_103 rfl ?_
          obtain ⟨c44, h⟩ := ck_some h
          obtain ⟨u45, hu46, h⟩ := lt1_ex h
          refine dx_as (j := o1) hR42 hk43 dX10_goes_104 hs1 (vp_in_iff.mpr c44) hu46 (fun w47 hR48 hk49 => ?_)
          refine pm_goto (tgt := 145) dX10_goes_105 (by decide) ?_
          cases h
          exact pm_vret dX10_goes_145 rfl (Nat.le_refl _) (Nat.le_refl _) ⟨rfl, rfl, hR48, hk49⟩
        · replace h := it_t c28 h
          refine pm_aload_n dX10_goes_72 rfl ?_
          refine pm_aload_n dX10_goes_73 rfl ?_
          refine pm_iconst (v := 4) dX10_goes_74 (by decide) ?_
          obtain ⟨r50, h51, h⟩ := ob_some h
          refine dx_cVv (j := 0) (M := M_X10_goes) (Mc := M_X10_traps) (dc := 0) (As := [.ref (b + o1), .int 4]) (st := []) hR rg_k0 dX10_goes_75 ml_X10_200 ⟨TX10, 55, rfl⟩ rfl (by decide) (Nat.le_of_ble_eq_true rfl) rfl (k_X10_traps hR hs1 h51) (fun w52 hR53 hk54 => ?_)
          cases h
          exact pm_vret dX10_goes_78 rfl (Nat.le_refl _) (Nat.le_refl _) ⟨rfl, rfl, hR53, hk54⟩
    · replace h := it_t c2 h
      refine pm_aload_n dX10_goes_20 rfl ?_
      refine pm_iload_n dX10_goes_21 rfl ?_
      refine pm_iconst (v := 1) dX10_goes_22 (by decide) ?_
      obtain ⟨r55, h56, h⟩ := ob_some h
      refine dx_cSp (M := M_X10_goes) (Mc := M_X10_isOf) (dc := 0) (As := [.ref (b + o1), .int x3, .int 1]) (st := []) dX10_goes_23 ml_X10_211 (by decide) (Nat.le_of_ble_eq_true rfl) rfl (k_X10_isOf hR hs1 h56) ?_
      refine pm_if_ne (tgt := 38) dX10_goes_26 (by decide) (fun c57 => ?_) (fun c57 => ?_)
      · replace h := it_f c57 h
        refine pm_aload_n dX10_goes_38 rfl ?_
        refine pm_bipush (v := 40) dX10_goes_39 (by decide) ?_
        refine pm_iload_n dX10_goes_41 rfl ?_
        refine pm_iadd dX10_goes_42 ?_
        obtain ⟨c58, h⟩ := ck_some h
        refine dx_al (j := o1) hR dX10_goes_43 hs1 (vp_in_iff.mpr c58) ?_
        refine pm_iconst (v := 1) dX10_goes_44 (by decide) ?_
        refine pm_icmp_ne (tgt := 145) dX10_goes_45 (by decide) (fun c59 => ?_) (fun c59 => ?_)
        · replace h := it_f c59 h
          cases h
          exact pm_vret dX10_goes_145 rfl (Nat.le_refl _) (Nat.le_refl _) ⟨rfl, rfl, hR, rg_k0⟩
        · replace h := it_t c59 h
          refine pm_aload_n dX10_goes_48 rfl ?_
          refine pm_bipush (v := 120) dX10_goes_49 (by decide) ?_
          refine pm_iload dX10_goes_51 rfl ?_
          obtain ⟨c60, h⟩ := ck_some h
          obtain ⟨u61, hu62, h⟩ := lt1_ex h
          refine dx_as (j := o1) hR rg_k0 dX10_goes_53 hs1 (vp_in_iff.mpr c60) hu62 (fun w63 hR64 hk65 => ?_)
          refine pm_goto (tgt := 145) dX10_goes_54 (by decide) ?_
          cases h
          exact pm_vret dX10_goes_145 rfl (Nat.le_refl _) (Nat.le_refl _) ⟨rfl, rfl, hR64, hk65⟩
      · replace h := it_t c57 h
        refine pm_aload_n dX10_goes_29 rfl ?_
        refine pm_aload_n dX10_goes_30 rfl ?_
        refine pm_iconst (v := 1) dX10_goes_31 (by decide) ?_
        obtain ⟨r66, h67, h⟩ := ob_some h
        refine dx_cVv (j := 0) (M := M_X10_goes) (Mc := M_X10_traps) (dc := 0) (As := [.ref (b + o1), .int 1]) (st := []) hR rg_k0 dX10_goes_32 ml_X10_200 ⟨TX10, 55, rfl⟩ rfl (by decide) (Nat.le_of_ble_eq_true rfl) rfl (k_X10_traps hR hs1 h67) (fun w68 hR69 hk70 => ?_)
        refine pm_goto (tgt := 145) dX10_goes_35 (by decide) ?_
        cases h
        exact pm_vret dX10_goes_145 rfl (Nat.le_refl _) (Nat.le_refl _) ⟨rfl, rfl, hR69, hk70⟩
  · replace h := it_t c1 h
    refine pm_aload_n dX10_goes_6 rfl ?_
    refine pm_bipush (v := 120) dX10_goes_7 (by decide) ?_
    refine pm_iload_n dX10_goes_9 rfl ?_
    obtain ⟨c71, h⟩ := ck_some h
    obtain ⟨u72, hu73, h⟩ := lt1_ex h
    refine dx_as (j := o1) hR rg_k0 dX10_goes_10 hs1 (vp_in_iff.mpr c71) hu73 (fun w74 hR75 hk76 => ?_)
    refine pm_goto (tgt := 145) dX10_goes_11 (by decide) ?_
    cases h
    exact pm_vret dX10_goes_145 rfl (Nat.le_refl _) (Nat.le_refl _) ⟨rfl, rfl, hR75, hk76⟩
def g_X10_reckons_j20 (F : Nat) (o1 N1 : Nat) (u : rg_U) : Option rg_U :=
  ob (g_X10_traps F o1 N1 1 u) (fun r4 => some r4)
set_option maxHeartbeats 4000000 in
set_option maxRecDepth 100000 in
theorem k_X10_reckons_j20 {gs : List String} {ro : pm_RO} {n : Nat} {w w1 : Nat → va_E} {b : Nat} {u : rg_U} {F : Nat} {o1 N1 : Nat} {z : rg_U} (hR : rg shM b u n w1) (hk : rg_k b shM.length w w1) (hs1 : shM[o1]? = some (.inr (.inl (0, N1)))) (h : g_X10_reckons_j20 F o1 N1 u = some z) : pm_X gs ro M_X10_reckons 3 0 0 0 0 20 [some (.ref (b + 0)), some (.ref (b + o1)), none, none, none, none, none, none] [] n w1 (rg_post shM b n w none z) := by
  unfold g_X10_reckons_j20 at h
  refine pm_aload_n dX10_reckons_20 rfl ?_
  refine pm_aload_n dX10_reckons_21 rfl ?_
  refine pm_iconst (v := 1) dX10_reckons_22 (by decide) ?_
  obtain ⟨r4, h5, h⟩ := ob_some h
  refine dx_cVv (j := 0) (M := M_X10_reckons) (Mc := M_X10_traps) (dc := 0) (As := [.ref (b + o1), .int 1]) (st := []) hR hk dX10_reckons_23 ml_X10_200 ⟨TX10, 55, rfl⟩ rfl (by decide) (Nat.le_of_ble_eq_true rfl) rfl (k_X10_traps hR hs1 h5) (fun w6 hR7 hk8 => ?_)
  cases h
  exact pm_vret dX10_reckons_26 rfl (Nat.le_refl _) (Nat.le_refl _) ⟨rfl, rfl, hR7, hk8⟩
def g_X10_reckons_j163 (F : Nat) (o1 N1 : Nat) (s0 : Int32) (s1 : Int32) (s2 : Int32) (u : rg_U) : Option rg_U :=
  ob (g_X10_gives F o1 N1 s2 s1 s0 u) (fun r22 => some r22)
set_option maxHeartbeats 4000000 in
set_option maxRecDepth 100000 in
theorem k_X10_reckons_j163 {gs : List String} {ro : pm_RO} {n : Nat} {w w1 : Nat → va_E} {b : Nat} {u : rg_U} {F : Nat} {o1 N1 : Nat} {s0 : Int32} {s1 : Int32} {s2 : Int32} {z : rg_U} (hR : rg shM b u n w1) (hk : rg_k b shM.length w w1) (hs1 : shM[o1]? = some (.inr (.inl (0, N1)))) (h : g_X10_reckons_j163 F o1 N1 s0 s1 s2 u = some z) : pm_X gs ro M_X10_reckons 3 0 0 0 0 163 [none, none, none, none, none, none, none, none] [.int s0, .int s1, .int s2, .ref (b + o1), .ref (b + 0)] n w1 (rg_post shM b n w none z) := by
  unfold g_X10_reckons_j163 at h
  obtain ⟨r22, h23, h⟩ := ob_some h
  refine dx_cVv (j := 0) (M := M_X10_reckons) (Mc := M_X10_gives) (dc := 2) (As := [.ref (b + o1), .int s2, .int s1, .int s0]) (st := []) hR hk dX10_reckons_163 ml_X10_208 ⟨TX10, 55, rfl⟩ rfl (by decide) (Nat.le_of_ble_eq_true rfl) rfl (k_X10_gives hR hs1 h23) (fun w24 hR25 hk26 => ?_)
  cases h
  exact pm_vret dX10_reckons_166 rfl (Nat.le_refl _) (Nat.le_refl _) ⟨rfl, rfl, hR25, hk26⟩
def g_X10_reckons_j91 (F : Nat) (o1 N1 : Nat) (s0 : Int32) (s1 : Int32) (s2 : Int32) (u : rg_U) : Option rg_U :=
  ob (g_X10_gives F o1 N1 s2 s1 (g_X10_one s0) u) (fun r29 => some r29)
set_option maxHeartbeats 4000000 in
set_option maxRecDepth 100000 in
theorem k_X10_reckons_j91 {gs : List String} {ro : pm_RO} {n : Nat} {w w1 : Nat → va_E} {b : Nat} {u : rg_U} {F : Nat} {o1 N1 : Nat} {s0 : Int32} {s1 : Int32} {s2 : Int32} {z : rg_U} (hR : rg shM b u n w1) (hk : rg_k b shM.length w w1) (hs1 : shM[o1]? = some (.inr (.inl (0, N1)))) (h : g_X10_reckons_j91 F o1 N1 s0 s1 s2 u = some z) : pm_X gs ro M_X10_reckons 3 0 0 0 0 91 [none, none, none, none, none, none, none, none] [.int s0, .int s1, .int s2, .ref (b + o1), .ref (b + 0)] n w1 (rg_post shM b n w none z) := by
  unfold g_X10_reckons_j91 at h
  refine dx_cSp (M := M_X10_reckons) (Mc := M_X10_one) (dc := 0) (As := [.int s0]) (st := [.int s1, .int s2, .ref (b + o1), .ref (b + 0)]) dX10_reckons_91 ml_X10_154 (by decide) (Nat.le_of_ble_eq_true rfl) rfl (k_X10_one rfl) ?_
  obtain ⟨r29, h30, h⟩ := ob_some h
  refine dx_cVv (j := 0) (M := M_X10_reckons) (Mc := M_X10_gives) (dc := 2) (As := [.ref (b + o1), .int s2, .int s1, .int (g_X10_one s0)]) (st := []) hR hk dX10_reckons_94 ml_X10_208 ⟨TX10, 55, rfl⟩ rfl (by decide) (Nat.le_of_ble_eq_true rfl) rfl (k_X10_gives hR hs1 h30) (fun w31 hR32 hk33 => ?_)
  refine pm_goto (tgt := 166) dX10_reckons_97 (by decide) ?_
  cases h
  exact pm_vret dX10_reckons_166 rfl (Nat.le_refl _) (Nat.le_refl _) ⟨rfl, rfl, hR32, hk33⟩
def g_X10_reckons_j69 (F : Nat) (o1 N1 : Nat) (l2 : Int32) (l3 : Int32) (l6 : Int32) (l7 : Int32) (u : rg_U) : Option rg_U :=
  if l2 = 9 then (if l7 ≤ l6 then (g_X10_reckons_j91 F o1 N1 0 1 l3 u) else (g_X10_reckons_j91 F o1 N1 1 1 l3 u)) else (if l2 = 4 then (g_X10_reckons_j163 F o1 N1 (l6 + l7) 2 l3 u) else (if l2 = 5 then (g_X10_reckons_j163 F o1 N1 (l6 - l7) 2 l3 u) else (if l2 = 6 then (g_X10_reckons_j163 F o1 N1 (l6 * l7) 2 l3 u) else (if l2 = 7 then (ck (¬ l7 = 0) (g_X10_reckons_j163 F o1 N1 (l6 / l7) 2 l3 u)) else (ck (¬ l7 = 0) (g_X10_reckons_j163 F o1 N1 (dx_rem l6 l7) 2 l3 u))))))
set_option maxHeartbeats 4000000 in
set_option maxRecDepth 100000 in
theorem k_X10_reckons_j69 {gs : List String} {ro : pm_RO} {n : Nat} {w w1 : Nat → va_E} {b : Nat} {u : rg_U} {F : Nat} {o1 N1 : Nat} {l2 : Int32} {l3 : Int32} {l6 : Int32} {l7 : Int32} {z : rg_U} (hR : rg shM b u n w1) (hk : rg_k b shM.length w w1) (hs1 : shM[o1]? = some (.inr (.inl (0, N1)))) (h : g_X10_reckons_j69 F o1 N1 l2 l3 l6 l7 u = some z) : pm_X gs ro M_X10_reckons 3 0 0 0 0 69 [some (.ref (b + 0)), some (.ref (b + o1)), some (.int l2), some (.int l3), none, none, some (.int l6), some (.int l7)] [] n w1 (rg_post shM b n w none z) := by
  unfold g_X10_reckons_j69 at h
  refine pm_iload_n dX10_reckons_69 rfl ?_
  refine pm_bipush (v := 9) dX10_reckons_70 (by decide) ?_
  refine pm_icmp_ne (tgt := 100) dX10_reckons_72 (by decide) (fun c16 => ?_) (fun c16 => ?_)
  · replace h := it_f c16 h
    refine pm_aload_n dX10_reckons_100 rfl ?_
    refine pm_aload_n dX10_reckons_101 rfl ?_
    refine pm_iload_n dX10_reckons_102 rfl ?_
    refine pm_iconst (v := 2) dX10_reckons_103 (by decide) ?_
    refine pm_iload_n dX10_reckons_104 rfl ?_
    refine pm_iconst (v := 4) dX10_reckons_105 (by decide) ?_
    refine pm_icmp_ne (tgt := 117) dX10_reckons_106 (by decide) (fun c17 => ?_) (fun c17 => ?_)
    · replace h := it_f c17 h
      refine pm_iload_n dX10_reckons_117 rfl ?_
      refine pm_iconst (v := 5) dX10_reckons_118 (by decide) ?_
      refine pm_icmp_ne (tgt := 130) dX10_reckons_119 (by decide) (fun c18 => ?_) (fun c18 => ?_)
      · replace h := it_f c18 h
        refine pm_iload_n dX10_reckons_130 rfl ?_
        refine pm_bipush (v := 6) dX10_reckons_131 (by decide) ?_
        refine pm_icmp_ne (tgt := 144) dX10_reckons_133 (by decide) (fun c19 => ?_) (fun c19 => ?_)
        · replace h := it_f c19 h
          refine pm_iload_n dX10_reckons_144 rfl ?_
          refine pm_bipush (v := 7) dX10_reckons_145 (by decide) ?_
          refine pm_icmp_ne (tgt := 158) dX10_reckons_147 (by decide) (fun c20 => ?_) (fun c20 => ?_)
          · replace h := it_f c20 h
            refine pm_iload dX10_reckons_158 rfl ?_
            refine pm_iload dX10_reckons_160 rfl ?_
            obtain ⟨c21, h⟩ := ck_some h
            refine pm_irem dX10_reckons_162 c21 ?_
            refine pm_lw (L' := [none, none, none, none, none, none, none, none]) ⟨Or.inl rfl, Or.inl rfl, Or.inl rfl, Or.inl rfl, Or.inl rfl, Or.inl rfl, Or.inl rfl, Or.inl rfl, trivial⟩ ?_
            exact k_X10_reckons_j163 hR hk hs1 h
          · replace h := it_t c20 h
            refine pm_iload dX10_reckons_150 rfl ?_
            refine pm_iload dX10_reckons_152 rfl ?_
            obtain ⟨c27, h⟩ := ck_some h
            refine pm_idiv dX10_reckons_154 c27 ?_
            refine pm_goto (tgt := 163) dX10_reckons_155 (by decide) ?_
            refine pm_lw (L' := [none, none, none, none, none, none, none, none]) ⟨Or.inl rfl, Or.inl rfl, Or.inl rfl, Or.inl rfl, Or.inl rfl, Or.inl rfl, Or.inl rfl, Or.inl rfl, trivial⟩ ?_
            exact k_X10_reckons_j163 hR hk hs1 h
        · replace h := it_t c19 h
          refine pm_iload dX10_reckons_136 rfl ?_
          refine pm_iload dX10_reckons_138 rfl ?_
          refine pm_imul dX10_reckons_140 ?_
          refine pm_goto (tgt := 163) dX10_reckons_141 (by decide) ?_
          refine pm_lw (L' := [none, none, none, none, none, none, none, none]) ⟨Or.inl rfl, Or.inl rfl, Or.inl rfl, Or.inl rfl, Or.inl rfl, Or.inl rfl, Or.inl rfl, Or.inl rfl, trivial⟩ ?_
          exact k_X10_reckons_j163 hR hk hs1 h
      · replace h := it_t c18 h
        refine pm_iload dX10_reckons_122 rfl ?_
        refine pm_iload dX10_reckons_124 rfl ?_
        refine pm_isub dX10_reckons_126 ?_
        refine pm_goto (tgt := 163) dX10_reckons_127 (by decide) ?_
        refine pm_lw (L' := [none, none, none, none, none, none, none, none]) ⟨Or.inl rfl, Or.inl rfl, Or.inl rfl, Or.inl rfl, Or.inl rfl, Or.inl rfl, Or.inl rfl, Or.inl rfl, trivial⟩ ?_
        exact k_X10_reckons_j163 hR hk hs1 h
    · replace h := it_t c17 h
      refine pm_iload dX10_reckons_109 rfl ?_
      refine pm_iload dX10_reckons_111 rfl ?_
      refine pm_iadd dX10_reckons_113 ?_
      refine pm_goto (tgt := 163) dX10_reckons_114 (by decide) ?_
      refine pm_lw (L' := [none, none, none, none, none, none, none, none]) ⟨Or.inl rfl, Or.inl rfl, Or.inl rfl, Or.inl rfl, Or.inl rfl, Or.inl rfl, Or.inl rfl, Or.inl rfl, trivial⟩ ?_
      exact k_X10_reckons_j163 hR hk hs1 h
  · replace h := it_t c16 h
    refine pm_aload_n dX10_reckons_75 rfl ?_
    refine pm_aload_n dX10_reckons_76 rfl ?_
    refine pm_iload_n dX10_reckons_77 rfl ?_
    refine pm_iconst (v := 1) dX10_reckons_78 (by decide) ?_
    refine pm_iload dX10_reckons_79 rfl ?_
    refine pm_iload dX10_reckons_81 rfl ?_
    refine pm_icmp_ge (tgt := 90) dX10_reckons_83 (by decide) (fun c28 => ?_) (fun c28 => ?_)
    · replace h := it_t c28 h
      refine pm_iconst (v := 0) dX10_reckons_90 (by decide) ?_
      refine pm_lw (L' := [none, none, none, none, none, none, none, none]) ⟨Or.inl rfl, Or.inl rfl, Or.inl rfl, Or.inl rfl, Or.inl rfl, Or.inl rfl, Or.inl rfl, Or.inl rfl, trivial⟩ ?_
      exact k_X10_reckons_j91 hR hk hs1 h
    · replace h := it_f c28 h
      refine pm_iconst (v := 1) dX10_reckons_86 (by decide) ?_
      refine pm_goto (tgt := 91) dX10_reckons_87 (by decide) ?_
      refine pm_lw (L' := [none, none, none, none, none, none, none, none]) ⟨Or.inl rfl, Or.inl rfl, Or.inl rfl, Or.inl rfl, Or.inl rfl, Or.inl rfl, Or.inl rfl, Or.inl rfl, trivial⟩ ?_
      exact k_X10_reckons_j91 hR hk hs1 h
def g_X10_reckons_j57 (F : Nat) (o1 N1 : Nat) (l2 : Int32) (l3 : Int32) (l6 : Int32) (l7 : Int32) (u : rg_U) : Option rg_U :=
  if l7 = 0 then (ob (g_X10_traps F o1 N1 2 u) (fun r34 => some r34)) else (g_X10_reckons_j69 F o1 N1 l2 l3 l6 l7 u)
set_option maxHeartbeats 4000000 in
set_option maxRecDepth 100000 in
theorem k_X10_reckons_j57 {gs : List String} {ro : pm_RO} {n : Nat} {w w1 : Nat → va_E} {b : Nat} {u : rg_U} {F : Nat} {o1 N1 : Nat} {l2 : Int32} {l3 : Int32} {l6 : Int32} {l7 : Int32} {z : rg_U} (hR : rg shM b u n w1) (hk : rg_k b shM.length w w1) (hs1 : shM[o1]? = some (.inr (.inl (0, N1)))) (h : g_X10_reckons_j57 F o1 N1 l2 l3 l6 l7 u = some z) : pm_X gs ro M_X10_reckons 3 0 0 0 0 57 [some (.ref (b + 0)), some (.ref (b + o1)), some (.int l2), some (.int l3), none, none, some (.int l6), some (.int l7)] [] n w1 (rg_post shM b n w none z) := by
  unfold g_X10_reckons_j57 at h
  refine pm_iload dX10_reckons_57 rfl ?_
  refine pm_if_ne (tgt := 69) dX10_reckons_59 (by decide) (fun c15 => ?_) (fun c15 => ?_)
  · replace h := it_f c15 h
    exact k_X10_reckons_j69 hR hk hs1 h
  · replace h := it_t c15 h
    refine pm_aload_n dX10_reckons_62 rfl ?_
    refine pm_aload_n dX10_reckons_63 rfl ?_
    refine pm_iconst (v := 2) dX10_reckons_64 (by decide) ?_
    obtain ⟨r34, h35, h⟩ := ob_some h
    refine dx_cVv (j := 0) (M := M_X10_reckons) (Mc := M_X10_traps) (dc := 0) (As := [.ref (b + o1), .int 2]) (st := []) hR hk dX10_reckons_65 ml_X10_200 ⟨TX10, 55, rfl⟩ rfl (by decide) (Nat.le_of_ble_eq_true rfl) rfl (k_X10_traps hR hs1 h35) (fun w36 hR37 hk38 => ?_)
    cases h
    exact pm_vret dX10_reckons_68 rfl (Nat.le_refl _) (Nat.le_refl _) ⟨rfl, rfl, hR37, hk38⟩
def g_X10_reckons (F : Nat) (o1 N1 : Nat) (x2 : Int32) (x3 : Int32) (x4 : Int32) (x5 : Int32) (u : rg_U) : Option rg_U :=
  ob (g_X10_isOf F o1 N1 x4 2 u) (fun r1 => if r1 = 0 then (g_X10_reckons_j20 F o1 N1 u) else (ob (g_X10_isOf F o1 N1 x5 2 u) (fun r9 => if r9 = 0 then (g_X10_reckons_j20 F o1 N1 u) else (ck (inb (40 + x4) N1) (ck (inb (40 + x5) N1) (if x2 = 7 then (g_X10_reckons_j57 F o1 N1 x2 x3 (rA u o1 (40 + x4)) (rA u o1 (40 + x5)) u) else (if x2 = 8 then (g_X10_reckons_j57 F o1 N1 x2 x3 (rA u o1 (40 + x4)) (rA u o1 (40 + x5)) u) else (g_X10_reckons_j69 F o1 N1 x2 x3 (rA u o1 (40 + x4)) (rA u o1 (40 + x5)) u))))))))
set_option maxHeartbeats 4000000 in
set_option maxRecDepth 100000 in
theorem k_X10_reckons {gs : List String} {ro : pm_RO} {n : Nat} {w : Nat → va_E} {b : Nat} {u : rg_U} {F : Nat} {o1 N1 : Nat} {x2 : Int32} {x3 : Int32} {x4 : Int32} {x5 : Int32} {z : rg_U} (hR : rg shM b u n w) (hs1 : shM[o1]? = some (.inr (.inl (0, N1)))) (h : g_X10_reckons F o1 N1 x2 x3 x4 x5 u = some z) : pm_Met gs ro M_X10_reckons 3 0 0 [.ref (b + 0), .ref (b + o1), .int x2, .int x3, .int x4, .int x5] n w (rg_post shM b n w none z) := by
  unfold g_X10_reckons at h
  refine pm_ofX in_X10_reckons (Nat.le_of_ble_eq_true rfl) rfl (L := [some (.ref (b + 0)), some (.ref (b + o1)), some (.int x2), some (.int x3), some (.int x4), some (.int x5), none, none]) rfl ?_
  refine pm_aload_n dX10_reckons_0 rfl ?_
  refine pm_iload dX10_reckons_1 rfl ?_
  refine pm_iconst (v := 2) dX10_reckons_3 (by decide) ?_
  obtain ⟨r1, h2, h⟩ := ob_some h
  refine dx_cSp (M := M_X10_reckons) (Mc := M_X10_isOf) (dc := 0) (As := [.ref (b + o1), .int x4, .int 2]) (st := []) dX10_reckons_4 ml_X10_211 (by decide) (Nat.le_of_ble_eq_true rfl) rfl (k_X10_isOf hR hs1 h2) ?_
  refine pm_if_eq (tgt := 20) dX10_reckons_7 (by decide) (fun c3 => ?_) (fun c3 => ?_)
  · replace h := it_t c3 h
    refine pm_lw (L' := [some (.ref (b + 0)), some (.ref (b + o1)), none, none, none, none, none, none]) ⟨Or.inr rfl, Or.inr rfl, Or.inl rfl, Or.inl rfl, Or.inl rfl, Or.inl rfl, Or.inl rfl, Or.inl rfl, trivial⟩ ?_
    exact k_X10_reckons_j20 hR rg_k0 hs1 h
  · replace h := it_f c3 h
    refine pm_aload_n dX10_reckons_10 rfl ?_
    refine pm_iload dX10_reckons_11 rfl ?_
    refine pm_iconst (v := 2) dX10_reckons_13 (by decide) ?_
    obtain ⟨r9, h10, h⟩ := ob_some h
    refine dx_cSp (M := M_X10_reckons) (Mc := M_X10_isOf) (dc := 0) (As := [.ref (b + o1), .int x5, .int 2]) (st := []) dX10_reckons_14 ml_X10_211 (by decide) (Nat.le_of_ble_eq_true rfl) rfl (k_X10_isOf hR hs1 h10) ?_
    refine pm_if_ne (tgt := 27) dX10_reckons_17 (by decide) (fun c11 => ?_) (fun c11 => ?_)
    · replace h := it_f c11 h
      refine pm_aload_n dX10_reckons_27 rfl ?_
      refine pm_bipush (v := 40) dX10_reckons_28 (by decide) ?_
      refine pm_iload dX10_reckons_30 rfl ?_
      refine pm_iadd dX10_reckons_32 ?_
      obtain ⟨c12, h⟩ := ck_some h
      refine dx_al (j := o1) hR dX10_reckons_33 hs1 (vp_in_iff.mpr c12) ?_
      refine pm_istore dX10_reckons_34 (by decide) rfl rfl ?_
      refine pm_aload_n dX10_reckons_36 rfl ?_
      refine pm_bipush (v := 40) dX10_reckons_37 (by decide) ?_
      refine pm_iload dX10_reckons_39 rfl ?_
      refine pm_iadd dX10_reckons_41 ?_
      obtain ⟨c13, h⟩ := ck_some h
      refine dx_al (j := o1) hR dX10_reckons_42 hs1 (vp_in_iff.mpr c13) ?_
      refine pm_istore dX10_reckons_43 (by decide) rfl rfl ?_
      refine pm_iload_n dX10_reckons_45 rfl ?_
      refine pm_bipush (v := 7) dX10_reckons_46 (by decide) ?_
      refine pm_icmp_eq (tgt := 57) dX10_reckons_48 (by decide) (fun c14 => ?_) (fun c14 => ?_)
      · replace h := it_t c14 h
        refine pm_lw (L' := [some (.ref (b + 0)), some (.ref (b + o1)), some (.int x2), some (.int x3), none, none, some (.int (rA u o1 (40 + x4))), some (.int (rA u o1 (40 + x5)))]) ⟨Or.inr rfl, Or.inr rfl, Or.inr rfl, Or.inr rfl, Or.inl rfl, Or.inl rfl, Or.inr rfl, Or.inr rfl, trivial⟩ ?_
        exact k_X10_reckons_j57 hR rg_k0 hs1 h
      · replace h := it_f c14 h
        refine pm_iload_n dX10_reckons_51 rfl ?_
        refine pm_bipush (v := 8) dX10_reckons_52 (by decide) ?_
        refine pm_icmp_ne (tgt := 69) dX10_reckons_54 (by decide) (fun c39 => ?_) (fun c39 => ?_)
        · replace h := it_f c39 h
          refine pm_lw (L' := [some (.ref (b + 0)), some (.ref (b + o1)), some (.int x2), some (.int x3), none, none, some (.int (rA u o1 (40 + x4))), some (.int (rA u o1 (40 + x5)))]) ⟨Or.inr rfl, Or.inr rfl, Or.inr rfl, Or.inr rfl, Or.inl rfl, Or.inl rfl, Or.inr rfl, Or.inr rfl, trivial⟩ ?_
          exact k_X10_reckons_j69 hR rg_k0 hs1 h
        · replace h := it_t c39 h
          refine pm_lw (L' := [some (.ref (b + 0)), some (.ref (b + o1)), some (.int x2), some (.int x3), none, none, some (.int (rA u o1 (40 + x4))), some (.int (rA u o1 (40 + x5)))]) ⟨Or.inr rfl, Or.inr rfl, Or.inr rfl, Or.inr rfl, Or.inl rfl, Or.inl rfl, Or.inr rfl, Or.inr rfl, trivial⟩ ?_
          exact k_X10_reckons_j57 hR rg_k0 hs1 h
    · replace h := it_t c11 h
      refine pm_lw (L' := [some (.ref (b + 0)), some (.ref (b + o1)), none, none, none, none, none, none]) ⟨Or.inr rfl, Or.inr rfl, Or.inl rfl, Or.inl rfl, Or.inl rfl, Or.inl rfl, Or.inl rfl, Or.inl rfl, trivial⟩ ?_
      exact k_X10_reckons_j20 hR rg_k0 hs1 h
def g_X10_does_j204 (F : Nat) (o1 N1 : Nat) (s0 : Int32) (s1 : Int32) (s2 : Int32) (u : rg_U) : Option rg_U :=
  ob (g_X10_gives F o1 N1 s2 s1 (g_X10_one s0) u) (fun r32 => some r32)
set_option maxHeartbeats 4000000 in
set_option maxRecDepth 100000 in
theorem k_X10_does_j204 {gs : List String} {ro : pm_RO} {n : Nat} {w w1 : Nat → va_E} {b : Nat} {u : rg_U} {F : Nat} {o1 N1 : Nat} {s0 : Int32} {s1 : Int32} {s2 : Int32} {z : rg_U} (hR : rg shM b u n w1) (hk : rg_k b shM.length w w1) (hs1 : shM[o1]? = some (.inr (.inl (0, N1)))) (h : g_X10_does_j204 F o1 N1 s0 s1 s2 u = some z) : pm_X gs ro M_X10_does 4 0 0 0 0 204 [none, none, none, none, none, none, none, none] [.int s0, .int s1, .int s2, .ref (b + o1), .ref (b + 0)] n w1 (rg_post shM b n w none z) := by
  unfold g_X10_does_j204 at h
  refine dx_cSp (M := M_X10_does) (Mc := M_X10_one) (dc := 0) (As := [.int s0]) (st := [.int s1, .int s2, .ref (b + o1), .ref (b + 0)]) dX10_does_204 ml_X10_154 (by decide) (Nat.le_of_ble_eq_true rfl) rfl (k_X10_one rfl) ?_
  obtain ⟨r32, h33, h⟩ := ob_some h
  refine dx_cVv (j := 0) (M := M_X10_does) (Mc := M_X10_gives) (dc := 2) (As := [.ref (b + o1), .int s2, .int s1, .int (g_X10_one s0)]) (st := []) hR hk dX10_does_207 ml_X10_208 ⟨TX10, 55, rfl⟩ rfl (by decide) (Nat.le_of_ble_eq_true rfl) rfl (k_X10_gives hR hs1 h33) (fun w34 hR35 hk36 => ?_)
  refine pm_goto (tgt := 417) dX10_does_210 (by decide) ?_
  cases h
  exact pm_vret dX10_does_417 rfl (Nat.le_refl _) (Nat.le_refl _) ⟨rfl, rfl, hR35, hk36⟩
def g_X10_does_j203 (F : Nat) (o1 N1 : Nat) (s0 : Int32) (s1 : Int32) (u : rg_U) : Option rg_U :=
  g_X10_does_j204 F o1 N1 0 s0 s1 u
set_option maxHeartbeats 4000000 in
set_option maxRecDepth 100000 in
theorem k_X10_does_j203 {gs : List String} {ro : pm_RO} {n : Nat} {w w1 : Nat → va_E} {b : Nat} {u : rg_U} {F : Nat} {o1 N1 : Nat} {s0 : Int32} {s1 : Int32} {z : rg_U} (hR : rg shM b u n w1) (hk : rg_k b shM.length w w1) (hs1 : shM[o1]? = some (.inr (.inl (0, N1)))) (h : g_X10_does_j203 F o1 N1 s0 s1 u = some z) : pm_X gs ro M_X10_does 4 0 0 0 0 203 [none, none, none, none, none, none, none, none] [.int s0, .int s1, .ref (b + o1), .ref (b + 0)] n w1 (rg_post shM b n w none z) := by
  unfold g_X10_does_j203 at h
  refine pm_iconst (v := 0) dX10_does_203 (by decide) ?_
  exact k_X10_does_j204 hR hk hs1 h
def g_X10_does_j296 (F : Nat) (o1 N1 : Nat) (u : rg_U) : Option rg_U :=
  ob (g_X10_traps F o1 N1 1 u) (fun r59 => some r59)
set_option maxHeartbeats 4000000 in
set_option maxRecDepth 100000 in
theorem k_X10_does_j296 {gs : List String} {ro : pm_RO} {n : Nat} {w w1 : Nat → va_E} {b : Nat} {u : rg_U} {F : Nat} {o1 N1 : Nat} {z : rg_U} (hR : rg shM b u n w1) (hk : rg_k b shM.length w w1) (hs1 : shM[o1]? = some (.inr (.inl (0, N1)))) (h : g_X10_does_j296 F o1 N1 u = some z) : pm_X gs ro M_X10_does 4 0 0 0 0 296 [some (.ref (b + 0)), some (.ref (b + o1)), none, none, none, none, none, none] [] n w1 (rg_post shM b n w none z) := by
  unfold g_X10_does_j296 at h
  refine pm_aload_n dX10_does_296 rfl ?_
  refine pm_aload_n dX10_does_297 rfl ?_
  refine pm_iconst (v := 1) dX10_does_298 (by decide) ?_
  obtain ⟨r59, h60, h⟩ := ob_some h
  refine dx_cVv (j := 0) (M := M_X10_does) (Mc := M_X10_traps) (dc := 0) (As := [.ref (b + o1), .int 1]) (st := []) hR hk dX10_does_299 ml_X10_200 ⟨TX10, 55, rfl⟩ rfl (by decide) (Nat.le_of_ble_eq_true rfl) rfl (k_X10_traps hR hs1 h60) (fun w61 hR62 hk63 => ?_)
  refine pm_goto (tgt := 417) dX10_does_302 (by decide) ?_
  cases h
  exact pm_vret dX10_does_417 rfl (Nat.le_refl _) (Nat.le_refl _) ⟨rfl, rfl, hR62, hk63⟩
def g_X10_does_j305 (F : Nat) (o1 N1 : Nat) (l2 : Int32) (l3 : Int32) (l4 : Int32) (u : rg_U) : Option rg_U :=
  ob (g_X10_cells F o1 N1 l2 l3 l4 u) (fun r75 => some r75)
set_option maxHeartbeats 4000000 in
set_option maxRecDepth 100000 in
theorem k_X10_does_j305 {gs : List String} {ro : pm_RO} {n : Nat} {w w1 : Nat → va_E} {b : Nat} {u : rg_U} {F : Nat} {o1 N1 : Nat} {l2 : Int32} {l3 : Int32} {l4 : Int32} {z : rg_U} (hR : rg shM b u n w1) (hk : rg_k b shM.length w w1) (hs1 : shM[o1]? = some (.inr (.inl (0, N1)))) (h : g_X10_does_j305 F o1 N1 l2 l3 l4 u = some z) : pm_X gs ro M_X10_does 4 0 0 0 0 305 [some (.ref (b + 0)), some (.ref (b + o1)), some (.int l2), some (.int l3), some (.int l4), none, none, none] [] n w1 (rg_post shM b n w none z) := by
  unfold g_X10_does_j305 at h
  refine pm_aload_n dX10_does_305 rfl ?_
  refine pm_aload_n dX10_does_306 rfl ?_
  refine pm_iload_n dX10_does_307 rfl ?_
  refine pm_iload_n dX10_does_308 rfl ?_
  refine pm_iload dX10_does_309 rfl ?_
  obtain ⟨r75, h76, h⟩ := ob_some h
  refine dx_cVv (j := 0) (M := M_X10_does) (Mc := M_X10_cells) (dc := 3) (As := [.ref (b + o1), .int l2, .int l3, .int l4]) (st := []) hR hk dX10_does_311 ml_X10_215 ⟨TX10, 55, rfl⟩ rfl (by decide) (Nat.le_of_ble_eq_true rfl) rfl (k_X10_cells hR hs1 h76) (fun w77 hR78 hk79 => ?_)
  refine pm_goto (tgt := 417) dX10_does_314 (by decide) ?_
  cases h
  exact pm_vret dX10_does_417 rfl (Nat.le_refl _) (Nat.le_refl _) ⟨rfl, rfl, hR78, hk79⟩
def g_X10_does_j317 (F : Nat) (o1 N1 : Nat) (l2 : Int32) (l3 : Int32) (l4 : Int32) (u : rg_U) : Option rg_U :=
  ob (g_X10_goes F o1 N1 l2 l3 l4 u) (fun r82 => some r82)
set_option maxHeartbeats 4000000 in
set_option maxRecDepth 100000 in
theorem k_X10_does_j317 {gs : List String} {ro : pm_RO} {n : Nat} {w w1 : Nat → va_E} {b : Nat} {u : rg_U} {F : Nat} {o1 N1 : Nat} {l2 : Int32} {l3 : Int32} {l4 : Int32} {z : rg_U} (hR : rg shM b u n w1) (hk : rg_k b shM.length w w1) (hs1 : shM[o1]? = some (.inr (.inl (0, N1)))) (h : g_X10_does_j317 F o1 N1 l2 l3 l4 u = some z) : pm_X gs ro M_X10_does 4 0 0 0 0 317 [some (.ref (b + 0)), some (.ref (b + o1)), some (.int l2), some (.int l3), some (.int l4), none, none, none] [] n w1 (rg_post shM b n w none z) := by
  unfold g_X10_does_j317 at h
  refine pm_aload_n dX10_does_317 rfl ?_
  refine pm_aload_n dX10_does_318 rfl ?_
  refine pm_iload_n dX10_does_319 rfl ?_
  refine pm_iload_n dX10_does_320 rfl ?_
  refine pm_iload dX10_does_321 rfl ?_
  obtain ⟨r82, h83, h⟩ := ob_some h
  refine dx_cVv (j := 0) (M := M_X10_does) (Mc := M_X10_goes) (dc := 1) (As := [.ref (b + o1), .int l2, .int l3, .int l4]) (st := []) hR hk dX10_does_323 ml_X10_218 ⟨TX10, 55, rfl⟩ rfl (by decide) (Nat.le_of_ble_eq_true rfl) rfl (k_X10_goes hR hs1 h83) (fun w84 hR85 hk86 => ?_)
  refine pm_goto (tgt := 417) dX10_does_326 (by decide) ?_
  cases h
  exact pm_vret dX10_does_417 rfl (Nat.le_refl _) (Nat.le_refl _) ⟨rfl, rfl, hR85, hk86⟩
def g_X10_does_j329 (F : Nat) (o1 N1 : Nat) (l3 : Int32) (l6 : Int32) (l7 : Int32) (u : rg_U) : Option rg_U :=
  lt1 (sF u 0 38 l6) (fun u91 => ck (inb (l7 + l6) 4000) (ob (g_X10_gives F o1 N1 l3 2 (rA u91 12 (l7 + l6)) u91) (fun r97 => some r97)))
set_option maxHeartbeats 4000000 in
set_option maxRecDepth 100000 in
theorem k_X10_does_j329 {gs : List String} {ro : pm_RO} {n : Nat} {w w1 : Nat → va_E} {b : Nat} {u : rg_U} {F : Nat} {o1 N1 : Nat} {l3 : Int32} {l6 : Int32} {l7 : Int32} {z : rg_U} (hR : rg shM b u n w1) (hk : rg_k b shM.length w w1) (hs1 : shM[o1]? = some (.inr (.inl (0, N1)))) (h : g_X10_does_j329 F o1 N1 l3 l6 l7 u = some z) : pm_X gs ro M_X10_does 4 0 0 0 0 329 [some (.ref (b + 0)), some (.ref (b + o1)), none, some (.int l3), none, none, some (.int l6), some (.int l7)] [] n w1 (rg_post shM b n w none z) := by
  unfold g_X10_does_j329 at h
  refine pm_aload_n dX10_does_329 rfl ?_
  refine pm_iload dX10_does_330 rfl ?_
  obtain ⟨u91, hu92, h⟩ := lt1_ex h
  refine dx_pi (j := 0) hR hk dX10_does_332 fl_X10_192 rfl rfl hu92 (fun w93 hR94 hk95 => ?_)
  refine pm_aload_n dX10_does_335 rfl ?_
  refine pm_aload_n dX10_does_336 rfl ?_
  refine pm_iload_n dX10_does_337 rfl ?_
  refine pm_iconst (v := 2) dX10_does_338 (by decide) ?_
  refine pm_aload_n dX10_does_339 rfl ?_
  refine dx_gr (j := 0) (o := 12) hR94 dX10_does_340 fl_X10_51 rfl rfl ?_
  refine pm_iload dX10_does_343 rfl ?_
  refine pm_iload dX10_does_345 rfl ?_
  refine pm_iadd dX10_does_347 ?_
  obtain ⟨c96, h⟩ := ck_some h
  refine dx_al (j := 12) hR94 dX10_does_348 rfl (vp_in_iff.mpr c96) ?_
  obtain ⟨r97, h98, h⟩ := ob_some h
  refine dx_cVv (j := 0) (M := M_X10_does) (Mc := M_X10_gives) (dc := 2) (As := [.ref (b + o1), .int l3, .int 2, .int (rA u91 12 (l7 + l6))]) (st := []) hR94 hk95 dX10_does_349 ml_X10_208 ⟨TX10, 55, rfl⟩ rfl (by decide) (Nat.le_of_ble_eq_true rfl) rfl (k_X10_gives hR94 hs1 h98) (fun w99 hR100 hk101 => ?_)
  refine pm_goto (tgt := 417) dX10_does_352 (by decide) ?_
  cases h
  exact pm_vret dX10_does_417 rfl (Nat.le_refl _) (Nat.le_refl _) ⟨rfl, rfl, hR100, hk101⟩
def g_X10_does_j406 (F : Nat) (o1 N1 : Nat) (l2 : Int32) (l3 : Int32) (l4 : Int32) (l5 : Int32) (u : rg_U) : Option rg_U :=
  ob (g_X10_reckons F o1 N1 l2 l3 l4 l5 u) (fun r127 => some r127)
set_option maxHeartbeats 4000000 in
set_option maxRecDepth 100000 in
theorem k_X10_does_j406 {gs : List String} {ro : pm_RO} {n : Nat} {w w1 : Nat → va_E} {b : Nat} {u : rg_U} {F : Nat} {o1 N1 : Nat} {l2 : Int32} {l3 : Int32} {l4 : Int32} {l5 : Int32} {z : rg_U} (hR : rg shM b u n w1) (hk : rg_k b shM.length w w1) (hs1 : shM[o1]? = some (.inr (.inl (0, N1)))) (h : g_X10_does_j406 F o1 N1 l2 l3 l4 l5 u = some z) : pm_X gs ro M_X10_does 4 0 0 0 0 406 [some (.ref (b + 0)), some (.ref (b + o1)), some (.int l2), some (.int l3), some (.int l4), some (.int l5), none, none] [] n w1 (rg_post shM b n w none z) := by
  unfold g_X10_does_j406 at h
  refine pm_aload_n dX10_does_406 rfl ?_
  refine pm_aload_n dX10_does_407 rfl ?_
  refine pm_iload_n dX10_does_408 rfl ?_
  refine pm_iload_n dX10_does_409 rfl ?_
  refine pm_iload dX10_does_410 rfl ?_
  refine pm_iload dX10_does_412 rfl ?_
  obtain ⟨r127, h128, h⟩ := ob_some h
  refine dx_cVv (j := 0) (M := M_X10_does) (Mc := M_X10_reckons) (dc := 3) (As := [.ref (b + o1), .int l2, .int l3, .int l4, .int l5]) (st := []) hR hk dX10_does_414 ml_X10_221 ⟨TX10, 55, rfl⟩ rfl (by decide) (Nat.le_of_ble_eq_true rfl) rfl (k_X10_reckons hR hs1 h128) (fun w129 hR130 hk131 => ?_)
  cases h
  exact pm_vret dX10_does_417 rfl (Nat.le_refl _) (Nat.le_refl _) ⟨rfl, rfl, hR130, hk131⟩
def g_X10_does (F : Nat) (o1 N1 : Nat) (x2 : Int32) (x3 : Int32) (x4 : Int32) (x5 : Int32) (x6 : Int32) (x7 : Int32) (u : rg_U) : Option rg_U :=
  if x2 = 0 then (ck (inb 132 N1) (lt1 (sA u o1 132 2) (fun u3 => some u3))) else if x2 = 1 then (ob (g_X10_gives F o1 N1 x3 2 x4 u) (fun r9 => some r9)) else if x2 = 2 then (ob (g_X10_gives F o1 N1 x3 1 x4 u) (fun r15 => some r15)) else if x2 = 3 then (ck (inb (0 + x4) N1) (ck (inb (40 + x4) N1) (ob (g_X10_gives F o1 N1 x3 (rA u o1 (0 + x4)) (rA u o1 (40 + x4)) u) (fun r23 => some r23)))) else if x2 = 10 then (ck (inb (0 + x4) N1) (ck (inb (0 + x5) N1) (if (rA u o1 (0 + x4)) = (rA u o1 (0 + x5)) then (ck (inb (40 + x4) N1) (ck (inb (40 + x5) N1) (if (rA u o1 (40 + x4)) = (rA u o1 (40 + x5)) then (g_X10_does_j204 F o1 N1 1 1 x3 u) else (g_X10_does_j203 F o1 N1 1 x3 u)))) else (g_X10_does_j203 F o1 N1 1 x3 u)))) else if x2 = 11 then (ob (g_X10_isOf F o1 N1 x4 1 u) (fun r41 => if r41 = 0 then (ob (g_X10_traps F o1 N1 1 u) (fun r44 => some r44)) else (ck (inb (40 + x4) N1) (ob (g_X10_gives F o1 N1 x3 1 (1 - (rA u o1 (40 + x4))) u) (fun r50 => some r50))))) else if x2 = 12 then (ob (g_X10_isOf F o1 N1 x4 1 u) (fun r56 => if r56 = 0 then (g_X10_does_j296 F o1 N1 u) else (ob (g_X10_isOf F o1 N1 x5 1 u) (fun r64 => if r64 = 0 then (g_X10_does_j296 F o1 N1 u) else (ck (inb (40 + x4) N1) (ck (inb (40 + x5) N1) (ob (g_X10_gives F o1 N1 x3 1 ((rA u o1 (40 + x4)) &&& (rA u o1 (40 + x5))) u) (fun r69 => some r69)))))))) else if x2 = 13 then (g_X10_does_j305 F o1 N1 x2 x3 x4 u) else if x2 = 14 then (g_X10_does_j305 F o1 N1 x2 x3 x4 u) else if x2 = 15 then (g_X10_does_j317 F o1 N1 x2 x3 x4 u) else if x2 = 16 then (g_X10_does_j317 F o1 N1 x2 x3 x4 u) else if x2 = 17 then (g_X10_does_j317 F o1 N1 x2 x3 x4 u) else if x2 = 18 then (g_X10_does_j317 F o1 N1 x2 x3 x4 u) else if x2 = 19 then (g_X10_does_j329 F o1 N1 x3 x6 x7 u) else if x2 = 20 then (g_X10_does_j329 F o1 N1 x3 x6 x7 u) else if x2 = 21 then (ck (inb 130 N1) (ck (inb 130 N1) (lt1 (sA u o1 130 ((rA u o1 130) + 1)) (fun u106 => ck (inb 131 N1) (ck (inb (40 + x3) N1) (ck (inb (0 + x3) N1) (ck (inb 131 N1) (lt1 (sA u106 o1 131 (((31 * (rA u106 o1 131)) + (3 * (rA u106 o1 (40 + x3)))) + (rA u106 o1 (0 + x3)))) (fun u115 => some u115))))))))) else if x2 = 22 then (ob (g_X10_gives F o1 N1 x3 0 0 u) (fun r121 => some r121)) else (g_X10_does_j406 F o1 N1 x2 x3 x4 x5 u)
set_option maxHeartbeats 4000000 in
set_option maxRecDepth 100000 in
theorem k_X10_does {gs : List String} {ro : pm_RO} {n : Nat} {w : Nat → va_E} {b : Nat} {u : rg_U} {F : Nat} {o1 N1 : Nat} {x2 : Int32} {x3 : Int32} {x4 : Int32} {x5 : Int32} {x6 : Int32} {x7 : Int32} {z : rg_U} (hR : rg shM b u n w) (hs1 : shM[o1]? = some (.inr (.inl (0, N1)))) (h : g_X10_does F o1 N1 x2 x3 x4 x5 x6 x7 u = some z) : pm_Met gs ro M_X10_does 4 0 0 [.ref (b + 0), .ref (b + o1), .int x2, .int x3, .int x4, .int x5, .int x6, .int x7] n w (rg_post shM b n w none z) := by
  unfold g_X10_does at h
  refine pm_ofX in_X10_does (Nat.le_of_ble_eq_true rfl) rfl (L := [some (.ref (b + 0)), some (.ref (b + o1)), some (.int x2), some (.int x3), some (.int x4), some (.int x5), some (.int x6), some (.int x7)]) rfl ?_
  refine pm_iload_n dX10_does_0 rfl ?_
  by_cases t1 : x2 = 0
  · replace h := it_t t1 h
    refine pm_tableIn (off := 107) (tgt := 108) dX10_does_1 (by rw [t1]; decide) (by rw [t1]; decide) (by rw [t1]; rfl) (by decide) ?_
    refine pm_aload_n dX10_does_108 rfl ?_
    refine pm_sipush (v := 132) dX10_does_109 (by decide) ?_
    refine pm_iconst (v := 2) dX10_does_112 (by decide) ?_
    obtain ⟨c2, h⟩ := ck_some h
    obtain ⟨u3, hu4, h⟩ := lt1_ex h
    refine dx_as (j := o1) hR rg_k0 dX10_does_113 hs1 (vp_in_iff.mpr c2) hu4 (fun w5 hR6 hk7 => ?_)
    refine pm_goto (tgt := 417) dX10_does_114 (by decide) ?_
    cases h
    exact pm_vret dX10_does_417 rfl (Nat.le_refl _) (Nat.le_refl _) ⟨rfl, rfl, hR6, hk7⟩
  replace h := it_f t1 h
  by_cases t8 : x2 = 1
  · replace h := it_t t8 h
    refine pm_tableIn (off := 116) (tgt := 117) dX10_does_1 (by rw [t8]; decide) (by rw [t8]; decide) (by rw [t8]; rfl) (by decide) ?_
    refine pm_aload_n dX10_does_117 rfl ?_
    refine pm_aload_n dX10_does_118 rfl ?_
    refine pm_iload_n dX10_does_119 rfl ?_
    refine pm_iconst (v := 2) dX10_does_120 (by decide) ?_
    refine pm_iload dX10_does_121 rfl ?_
    obtain ⟨r9, h10, h⟩ := ob_some h
    refine dx_cVv (j := 0) (M := M_X10_does) (Mc := M_X10_gives) (dc := 2) (As := [.ref (b + o1), .int x3, .int 2, .int x4]) (st := []) hR rg_k0 dX10_does_123 ml_X10_208 ⟨TX10, 55, rfl⟩ rfl (by decide) (Nat.le_of_ble_eq_true rfl) rfl (k_X10_gives hR hs1 h10) (fun w11 hR12 hk13 => ?_)
    refine pm_goto (tgt := 417) dX10_does_126 (by decide) ?_
    cases h
    exact pm_vret dX10_does_417 rfl (Nat.le_refl _) (Nat.le_refl _) ⟨rfl, rfl, hR12, hk13⟩
  replace h := it_f t8 h
  by_cases t14 : x2 = 2
  · replace h := it_t t14 h
    refine pm_tableIn (off := 128) (tgt := 129) dX10_does_1 (by rw [t14]; decide) (by rw [t14]; decide) (by rw [t14]; rfl) (by decide) ?_
    refine pm_aload_n dX10_does_129 rfl ?_
    refine pm_aload_n dX10_does_130 rfl ?_
    refine pm_iload_n dX10_does_131 rfl ?_
    refine pm_iconst (v := 1) dX10_does_132 (by decide) ?_
    refine pm_iload dX10_does_133 rfl ?_
    obtain ⟨r15, h16, h⟩ := ob_some h
    refine dx_cVv (j := 0) (M := M_X10_does) (Mc := M_X10_gives) (dc := 2) (As := [.ref (b + o1), .int x3, .int 1, .int x4]) (st := []) hR rg_k0 dX10_does_135 ml_X10_208 ⟨TX10, 55, rfl⟩ rfl (by decide) (Nat.le_of_ble_eq_true rfl) rfl (k_X10_gives hR hs1 h16) (fun w17 hR18 hk19 => ?_)
    refine pm_goto (tgt := 417) dX10_does_138 (by decide) ?_
    cases h
    exact pm_vret dX10_does_417 rfl (Nat.le_refl _) (Nat.le_refl _) ⟨rfl, rfl, hR18, hk19⟩
  replace h := it_f t14 h
  by_cases t20 : x2 = 3
  · replace h := it_t t20 h
    refine pm_tableIn (off := 140) (tgt := 141) dX10_does_1 (by rw [t20]; decide) (by rw [t20]; decide) (by rw [t20]; rfl) (by decide) ?_
    refine pm_aload_n dX10_does_141 rfl ?_
    refine pm_aload_n dX10_does_142 rfl ?_
    refine pm_iload_n dX10_does_143 rfl ?_
    refine pm_aload_n dX10_does_144 rfl ?_
    refine pm_iconst (v := 0) dX10_does_145 (by decide) ?_
    refine pm_iload dX10_does_146 rfl ?_
    refine pm_iadd dX10_does_148 ?_
    obtain ⟨c21, h⟩ := ck_some h
    refine dx_al (j := o1) hR dX10_does_149 hs1 (vp_in_iff.mpr c21) ?_
    refine pm_aload_n dX10_does_150 rfl ?_
    refine pm_bipush (v := 40) dX10_does_151 (by decide) ?_
    refine pm_iload dX10_does_153 rfl ?_
    refine pm_iadd dX10_does_155 ?_
    obtain ⟨c22, h⟩ := ck_some h
    refine dx_al (j := o1) hR dX10_does_156 hs1 (vp_in_iff.mpr c22) ?_
    obtain ⟨r23, h24, h⟩ := ob_some h
    refine dx_cVv (j := 0) (M := M_X10_does) (Mc := M_X10_gives) (dc := 2) (As := [.ref (b + o1), .int x3, .int (rA u o1 (0 + x4)), .int (rA u o1 (40 + x4))]) (st := []) hR rg_k0 dX10_does_157 ml_X10_208 ⟨TX10, 55, rfl⟩ rfl (by decide) (Nat.le_of_ble_eq_true rfl) rfl (k_X10_gives hR hs1 h24) (fun w25 hR26 hk27 => ?_)
    refine pm_goto (tgt := 417) dX10_does_160 (by decide) ?_
    cases h
    exact pm_vret dX10_does_417 rfl (Nat.le_refl _) (Nat.le_refl _) ⟨rfl, rfl, hR26, hk27⟩
  replace h := it_f t20 h
  by_cases t28 : x2 = 10
  · replace h := it_t t28 h
    refine pm_tableIn (off := 162) (tgt := 163) dX10_does_1 (by rw [t28]; decide) (by rw [t28]; decide) (by rw [t28]; rfl) (by decide) ?_
    refine pm_aload_n dX10_does_163 rfl ?_
    refine pm_aload_n dX10_does_164 rfl ?_
    refine pm_iload_n dX10_does_165 rfl ?_
    refine pm_iconst (v := 1) dX10_does_166 (by decide) ?_
    refine pm_aload_n dX10_does_167 rfl ?_
    refine pm_iconst (v := 0) dX10_does_168 (by decide) ?_
    refine pm_iload dX10_does_169 rfl ?_
    refine pm_iadd dX10_does_171 ?_
    obtain ⟨c29, h⟩ := ck_some h
    refine dx_al (j := o1) hR dX10_does_172 hs1 (vp_in_iff.mpr c29) ?_
    refine pm_aload_n dX10_does_173 rfl ?_
    refine pm_iconst (v := 0) dX10_does_174 (by decide) ?_
    refine pm_iload dX10_does_175 rfl ?_
    refine pm_iadd dX10_does_177 ?_
    obtain ⟨c30, h⟩ := ck_some h
    refine dx_al (j := o1) hR dX10_does_178 hs1 (vp_in_iff.mpr c30) ?_
    refine pm_icmp_ne (tgt := 203) dX10_does_179 (by decide) (fun c31 => ?_) (fun c31 => ?_)
    · replace h := it_f c31 h
      refine pm_lw (L' := [none, none, none, none, none, none, none, none]) ⟨Or.inl rfl, Or.inl rfl, Or.inl rfl, Or.inl rfl, Or.inl rfl, Or.inl rfl, Or.inl rfl, Or.inl rfl, trivial⟩ ?_
      exact k_X10_does_j203 hR rg_k0 hs1 h
    · replace h := it_t c31 h
      refine pm_aload_n dX10_does_182 rfl ?_
      refine pm_bipush (v := 40) dX10_does_183 (by decide) ?_
      refine pm_iload dX10_does_185 rfl ?_
      refine pm_iadd dX10_does_187 ?_
      obtain ⟨c37, h⟩ := ck_some h
      refine dx_al (j := o1) hR dX10_does_188 hs1 (vp_in_iff.mpr c37) ?_
      refine pm_aload_n dX10_does_189 rfl ?_
      refine pm_bipush (v := 40) dX10_does_190 (by decide) ?_
      refine pm_iload dX10_does_192 rfl ?_
      refine pm_iadd dX10_does_194 ?_
      obtain ⟨c38, h⟩ := ck_some h
      refine dx_al (j := o1) hR dX10_does_195 hs1 (vp_in_iff.mpr c38) ?_
      refine pm_icmp_ne (tgt := 203) dX10_does_196 (by decide) (fun c39 => ?_) (fun c39 => ?_)
      · replace h := it_f c39 h
        refine pm_lw (L' := [none, none, none, none, none, none, none, none]) ⟨Or.inl rfl, Or.inl rfl, Or.inl rfl, Or.inl rfl, Or.inl rfl, Or.inl rfl, Or.inl rfl, Or.inl rfl, trivial⟩ ?_
        exact k_X10_does_j203 hR rg_k0 hs1 h
      · replace h := it_t c39 h
        refine pm_iconst (v := 1) dX10_does_199 (by decide) ?_
        refine pm_goto (tgt := 204) dX10_does_200 (by decide) ?_
        refine pm_lw (L' := [none, none, none, none, none, none, none, none]) ⟨Or.inl rfl, Or.inl rfl, Or.inl rfl, Or.inl rfl, Or.inl rfl, Or.inl rfl, Or.inl rfl, Or.inl rfl, trivial⟩ ?_
        exact k_X10_does_j204 hR rg_k0 hs1 h
  replace h := it_f t28 h
  by_cases t40 : x2 = 11
  · replace h := it_t t40 h
    refine pm_tableIn (off := 212) (tgt := 213) dX10_does_1 (by rw [t40]; decide) (by rw [t40]; decide) (by rw [t40]; rfl) (by decide) ?_
    refine pm_aload_n dX10_does_213 rfl ?_
    refine pm_iload dX10_does_214 rfl ?_
    refine pm_iconst (v := 1) dX10_does_216 (by decide) ?_
    obtain ⟨r41, h42, h⟩ := ob_some h
    refine dx_cSp (M := M_X10_does) (Mc := M_X10_isOf) (dc := 0) (As := [.ref (b + o1), .int x4, .int 1]) (st := []) dX10_does_217 ml_X10_211 (by decide) (Nat.le_of_ble_eq_true rfl) rfl (k_X10_isOf hR hs1 h42) ?_
    refine pm_if_eq (tgt := 242) dX10_does_220 (by decide) (fun c43 => ?_) (fun c43 => ?_)
    · replace h := it_t c43 h
      refine pm_aload_n dX10_does_242 rfl ?_
      refine pm_aload_n dX10_does_243 rfl ?_
      refine pm_iconst (v := 1) dX10_does_244 (by decide) ?_
      obtain ⟨r44, h45, h⟩ := ob_some h
      refine dx_cVv (j := 0) (M := M_X10_does) (Mc := M_X10_traps) (dc := 0) (As := [.ref (b + o1), .int 1]) (st := []) hR rg_k0 dX10_does_245 ml_X10_200 ⟨TX10, 55, rfl⟩ rfl (by decide) (Nat.le_of_ble_eq_true rfl) rfl (k_X10_traps hR hs1 h45) (fun w46 hR47 hk48 => ?_)
      refine pm_goto (tgt := 417) dX10_does_248 (by decide) ?_
      cases h
      exact pm_vret dX10_does_417 rfl (Nat.le_refl _) (Nat.le_refl _) ⟨rfl, rfl, hR47, hk48⟩
    · replace h := it_f c43 h
      refine pm_aload_n dX10_does_223 rfl ?_
      refine pm_aload_n dX10_does_224 rfl ?_
      refine pm_iload_n dX10_does_225 rfl ?_
      refine pm_iconst (v := 1) dX10_does_226 (by decide) ?_
      refine pm_iconst (v := 1) dX10_does_227 (by decide) ?_
      refine pm_aload_n dX10_does_228 rfl ?_
      refine pm_bipush (v := 40) dX10_does_229 (by decide) ?_
      refine pm_iload dX10_does_231 rfl ?_
      refine pm_iadd dX10_does_233 ?_
      obtain ⟨c49, h⟩ := ck_some h
      refine dx_al (j := o1) hR dX10_does_234 hs1 (vp_in_iff.mpr c49) ?_
      refine pm_isub dX10_does_235 ?_
      obtain ⟨r50, h51, h⟩ := ob_some h
      refine dx_cVv (j := 0) (M := M_X10_does) (Mc := M_X10_gives) (dc := 2) (As := [.ref (b + o1), .int x3, .int 1, .int (1 - (rA u o1 (40 + x4)))]) (st := []) hR rg_k0 dX10_does_236 ml_X10_208 ⟨TX10, 55, rfl⟩ rfl (by decide) (Nat.le_of_ble_eq_true rfl) rfl (k_X10_gives hR hs1 h51) (fun w52 hR53 hk54 => ?_)
      refine pm_goto (tgt := 417) dX10_does_239 (by decide) ?_
      cases h
      exact pm_vret dX10_does_417 rfl (Nat.le_refl _) (Nat.le_refl _) ⟨rfl, rfl, hR53, hk54⟩
  replace h := it_f t40 h
  by_cases t55 : x2 = 12
  · replace h := it_t t55 h
    refine pm_tableIn (off := 250) (tgt := 251) dX10_does_1 (by rw [t55]; decide) (by rw [t55]; decide) (by rw [t55]; rfl) (by decide) ?_
    refine pm_aload_n dX10_does_251 rfl ?_
    refine pm_iload dX10_does_252 rfl ?_
    refine pm_iconst (v := 1) dX10_does_254 (by decide) ?_
    obtain ⟨r56, h57, h⟩ := ob_some h
    refine dx_cSp (M := M_X10_does) (Mc := M_X10_isOf) (dc := 0) (As := [.ref (b + o1), .int x4, .int 1]) (st := []) dX10_does_255 ml_X10_211 (by decide) (Nat.le_of_ble_eq_true rfl) rfl (k_X10_isOf hR hs1 h57) ?_
    refine pm_if_eq (tgt := 296) dX10_does_258 (by decide) (fun c58 => ?_) (fun c58 => ?_)
    · replace h := it_t c58 h
      refine pm_lw (L' := [some (.ref (b + 0)), some (.ref (b + o1)), none, none, none, none, none, none]) ⟨Or.inr rfl, Or.inr rfl, Or.inl rfl, Or.inl rfl, Or.inl rfl, Or.inl rfl, Or.inl rfl, Or.inl rfl, trivial⟩ ?_
      exact k_X10_does_j296 hR rg_k0 hs1 h
    · replace h := it_f c58 h
      refine pm_aload_n dX10_does_261 rfl ?_
      refine pm_iload dX10_does_262 rfl ?_
      refine pm_iconst (v := 1) dX10_does_264 (by decide) ?_
      obtain ⟨r64, h65, h⟩ := ob_some h
      refine dx_cSp (M := M_X10_does) (Mc := M_X10_isOf) (dc := 0) (As := [.ref (b + o1), .int x5, .int 1]) (st := []) dX10_does_265 ml_X10_211 (by decide) (Nat.le_of_ble_eq_true rfl) rfl (k_X10_isOf hR hs1 h65) ?_
      refine pm_if_eq (tgt := 296) dX10_does_268 (by decide) (fun c66 => ?_) (fun c66 => ?_)
      · replace h := it_t c66 h
        refine pm_lw (L' := [some (.ref (b + 0)), some (.ref (b + o1)), none, none, none, none, none, none]) ⟨Or.inr rfl, Or.inr rfl, Or.inl rfl, Or.inl rfl, Or.inl rfl, Or.inl rfl, Or.inl rfl, Or.inl rfl, trivial⟩ ?_
        exact k_X10_does_j296 hR rg_k0 hs1 h
      · replace h := it_f c66 h
        refine pm_aload_n dX10_does_271 rfl ?_
        refine pm_aload_n dX10_does_272 rfl ?_
        refine pm_iload_n dX10_does_273 rfl ?_
        refine pm_iconst (v := 1) dX10_does_274 (by decide) ?_
        refine pm_aload_n dX10_does_275 rfl ?_
        refine pm_bipush (v := 40) dX10_does_276 (by decide) ?_
        refine pm_iload dX10_does_278 rfl ?_
        refine pm_iadd dX10_does_280 ?_
        obtain ⟨c67, h⟩ := ck_some h
        refine dx_al (j := o1) hR dX10_does_281 hs1 (vp_in_iff.mpr c67) ?_
        refine pm_aload_n dX10_does_282 rfl ?_
        refine pm_bipush (v := 40) dX10_does_283 (by decide) ?_
        refine pm_iload dX10_does_285 rfl ?_
        refine pm_iadd dX10_does_287 ?_
        obtain ⟨c68, h⟩ := ck_some h
        refine dx_al (j := o1) hR dX10_does_288 hs1 (vp_in_iff.mpr c68) ?_
        refine pm_iand dX10_does_289 ?_
        obtain ⟨r69, h70, h⟩ := ob_some h
        refine dx_cVv (j := 0) (M := M_X10_does) (Mc := M_X10_gives) (dc := 2) (As := [.ref (b + o1), .int x3, .int 1, .int ((rA u o1 (40 + x4)) &&& (rA u o1 (40 + x5)))]) (st := []) hR rg_k0 dX10_does_290 ml_X10_208 ⟨TX10, 55, rfl⟩ rfl (by decide) (Nat.le_of_ble_eq_true rfl) rfl (k_X10_gives hR hs1 h70) (fun w71 hR72 hk73 => ?_)
        refine pm_goto (tgt := 417) dX10_does_293 (by decide) ?_
        cases h
        exact pm_vret dX10_does_417 rfl (Nat.le_refl _) (Nat.le_refl _) ⟨rfl, rfl, hR72, hk73⟩
  replace h := it_f t55 h
  by_cases t74 : x2 = 13
  · replace h := it_t t74 h
    refine pm_tableIn (off := 304) (tgt := 305) dX10_does_1 (by rw [t74]; decide) (by rw [t74]; decide) (by rw [t74]; rfl) (by decide) ?_
    refine pm_lw (L' := [some (.ref (b + 0)), some (.ref (b + o1)), some (.int x2), some (.int x3), some (.int x4), none, none, none]) ⟨Or.inr rfl, Or.inr rfl, Or.inr rfl, Or.inr rfl, Or.inr rfl, Or.inl rfl, Or.inl rfl, Or.inl rfl, trivial⟩ ?_
    exact k_X10_does_j305 hR rg_k0 hs1 h
  replace h := it_f t74 h
  by_cases t80 : x2 = 14
  · replace h := it_t t80 h
    refine pm_tableIn (off := 304) (tgt := 305) dX10_does_1 (by rw [t80]; decide) (by rw [t80]; decide) (by rw [t80]; rfl) (by decide) ?_
    refine pm_lw (L' := [some (.ref (b + 0)), some (.ref (b + o1)), some (.int x2), some (.int x3), some (.int x4), none, none, none]) ⟨Or.inr rfl, Or.inr rfl, Or.inr rfl, Or.inr rfl, Or.inr rfl, Or.inl rfl, Or.inl rfl, Or.inl rfl, trivial⟩ ?_
    exact k_X10_does_j305 hR rg_k0 hs1 h
  replace h := it_f t80 h
  by_cases t81 : x2 = 15
  · replace h := it_t t81 h
    refine pm_tableIn (off := 316) (tgt := 317) dX10_does_1 (by rw [t81]; decide) (by rw [t81]; decide) (by rw [t81]; rfl) (by decide) ?_
    refine pm_lw (L' := [some (.ref (b + 0)), some (.ref (b + o1)), some (.int x2), some (.int x3), some (.int x4), none, none, none]) ⟨Or.inr rfl, Or.inr rfl, Or.inr rfl, Or.inr rfl, Or.inr rfl, Or.inl rfl, Or.inl rfl, Or.inl rfl, trivial⟩ ?_
    exact k_X10_does_j317 hR rg_k0 hs1 h
  replace h := it_f t81 h
  by_cases t87 : x2 = 16
  · replace h := it_t t87 h
    refine pm_tableIn (off := 316) (tgt := 317) dX10_does_1 (by rw [t87]; decide) (by rw [t87]; decide) (by rw [t87]; rfl) (by decide) ?_
    refine pm_lw (L' := [some (.ref (b + 0)), some (.ref (b + o1)), some (.int x2), some (.int x3), some (.int x4), none, none, none]) ⟨Or.inr rfl, Or.inr rfl, Or.inr rfl, Or.inr rfl, Or.inr rfl, Or.inl rfl, Or.inl rfl, Or.inl rfl, trivial⟩ ?_
    exact k_X10_does_j317 hR rg_k0 hs1 h
  replace h := it_f t87 h
  by_cases t88 : x2 = 17
  · replace h := it_t t88 h
    refine pm_tableIn (off := 316) (tgt := 317) dX10_does_1 (by rw [t88]; decide) (by rw [t88]; decide) (by rw [t88]; rfl) (by decide) ?_
    refine pm_lw (L' := [some (.ref (b + 0)), some (.ref (b + o1)), some (.int x2), some (.int x3), some (.int x4), none, none, none]) ⟨Or.inr rfl, Or.inr rfl, Or.inr rfl, Or.inr rfl, Or.inr rfl, Or.inl rfl, Or.inl rfl, Or.inl rfl, trivial⟩ ?_
    exact k_X10_does_j317 hR rg_k0 hs1 h
  replace h := it_f t88 h
  by_cases t89 : x2 = 18
  · replace h := it_t t89 h
    refine pm_tableIn (off := 316) (tgt := 317) dX10_does_1 (by rw [t89]; decide) (by rw [t89]; decide) (by rw [t89]; rfl) (by decide) ?_
    refine pm_lw (L' := [some (.ref (b + 0)), some (.ref (b + o1)), some (.int x2), some (.int x3), some (.int x4), none, none, none]) ⟨Or.inr rfl, Or.inr rfl, Or.inr rfl, Or.inr rfl, Or.inr rfl, Or.inl rfl, Or.inl rfl, Or.inl rfl, trivial⟩ ?_
    exact k_X10_does_j317 hR rg_k0 hs1 h
  replace h := it_f t89 h
  by_cases t90 : x2 = 19
  · replace h := it_t t90 h
    refine pm_tableIn (off := 328) (tgt := 329) dX10_does_1 (by rw [t90]; decide) (by rw [t90]; decide) (by rw [t90]; rfl) (by decide) ?_
    refine pm_lw (L' := [some (.ref (b + 0)), some (.ref (b + o1)), none, some (.int x3), none, none, some (.int x6), some (.int x7)]) ⟨Or.inr rfl, Or.inr rfl, Or.inl rfl, Or.inr rfl, Or.inl rfl, Or.inl rfl, Or.inr rfl, Or.inr rfl, trivial⟩ ?_
    exact k_X10_does_j329 hR rg_k0 hs1 h
  replace h := it_f t90 h
  by_cases t102 : x2 = 20
  · replace h := it_t t102 h
    refine pm_tableIn (off := 328) (tgt := 329) dX10_does_1 (by rw [t102]; decide) (by rw [t102]; decide) (by rw [t102]; rfl) (by decide) ?_
    refine pm_lw (L' := [some (.ref (b + 0)), some (.ref (b + o1)), none, some (.int x3), none, none, some (.int x6), some (.int x7)]) ⟨Or.inr rfl, Or.inr rfl, Or.inl rfl, Or.inr rfl, Or.inl rfl, Or.inl rfl, Or.inr rfl, Or.inr rfl, trivial⟩ ?_
    exact k_X10_does_j329 hR rg_k0 hs1 h
  replace h := it_f t102 h
  by_cases t103 : x2 = 21
  · replace h := it_t t103 h
    refine pm_tableIn (off := 354) (tgt := 355) dX10_does_1 (by rw [t103]; decide) (by rw [t103]; decide) (by rw [t103]; rfl) (by decide) ?_
    refine pm_aload_n dX10_does_355 rfl ?_
    refine pm_sipush (v := 130) dX10_does_356 (by decide) ?_
    refine pm_dup2 dX10_does_359 rfl rfl ?_
    obtain ⟨c104, h⟩ := ck_some h
    refine dx_al (j := o1) hR dX10_does_360 hs1 (vp_in_iff.mpr c104) ?_
    refine pm_iconst (v := 1) dX10_does_361 (by decide) ?_
    refine pm_iadd dX10_does_362 ?_
    obtain ⟨c105, h⟩ := ck_some h
    obtain ⟨u106, hu107, h⟩ := lt1_ex h
    refine dx_as (j := o1) hR rg_k0 dX10_does_363 hs1 (vp_in_iff.mpr c105) hu107 (fun w108 hR109 hk110 => ?_)
    refine pm_aload_n dX10_does_364 rfl ?_
    refine pm_sipush (v := 131) dX10_does_365 (by decide) ?_
    refine pm_bipush (v := 31) dX10_does_368 (by decide) ?_
    refine pm_aload_n dX10_does_370 rfl ?_
    refine pm_sipush (v := 131) dX10_does_371 (by decide) ?_
    obtain ⟨c111, h⟩ := ck_some h
    refine dx_al (j := o1) hR109 dX10_does_374 hs1 (vp_in_iff.mpr c111) ?_
    refine pm_imul dX10_does_375 ?_
    refine pm_iconst (v := 3) dX10_does_376 (by decide) ?_
    refine pm_aload_n dX10_does_377 rfl ?_
    refine pm_bipush (v := 40) dX10_does_378 (by decide) ?_
    refine pm_iload_n dX10_does_380 rfl ?_
    refine pm_iadd dX10_does_381 ?_
    obtain ⟨c112, h⟩ := ck_some h
    refine dx_al (j := o1) hR109 dX10_does_382 hs1 (vp_in_iff.mpr c112) ?_
    refine pm_imul dX10_does_383 ?_
    refine pm_iadd dX10_does_384 ?_
    refine pm_aload_n dX10_does_385 rfl ?_
    refine pm_iconst (v := 0) dX10_does_386 (by decide) ?_
    refine pm_iload_n dX10_does_387 rfl ?_
    refine pm_iadd dX10_does_388 ?_
    obtain ⟨c113, h⟩ := ck_some h
    refine dx_al (j := o1) hR109 dX10_does_389 hs1 (vp_in_iff.mpr c113) ?_
    refine pm_iadd dX10_does_390 ?_
    obtain ⟨c114, h⟩ := ck_some h
    obtain ⟨u115, hu116, h⟩ := lt1_ex h
    refine dx_as (j := o1) hR109 hk110 dX10_does_391 hs1 (vp_in_iff.mpr c114) hu116 (fun w117 hR118 hk119 => ?_)
    refine pm_goto (tgt := 417) dX10_does_392 (by decide) ?_
    cases h
    exact pm_vret dX10_does_417 rfl (Nat.le_refl _) (Nat.le_refl _) ⟨rfl, rfl, hR118, hk119⟩
  replace h := it_f t103 h
  by_cases t120 : x2 = 22
  · replace h := it_t t120 h
    refine pm_tableIn (off := 394) (tgt := 395) dX10_does_1 (by rw [t120]; decide) (by rw [t120]; decide) (by rw [t120]; rfl) (by decide) ?_
    refine pm_aload_n dX10_does_395 rfl ?_
    refine pm_aload_n dX10_does_396 rfl ?_
    refine pm_iload_n dX10_does_397 rfl ?_
    refine pm_iconst (v := 0) dX10_does_398 (by decide) ?_
    refine pm_iconst (v := 0) dX10_does_399 (by decide) ?_
    obtain ⟨r121, h122, h⟩ := ob_some h
    refine dx_cVv (j := 0) (M := M_X10_does) (Mc := M_X10_gives) (dc := 2) (As := [.ref (b + o1), .int x3, .int 0, .int 0]) (st := []) hR rg_k0 dX10_does_400 ml_X10_208 ⟨TX10, 55, rfl⟩ rfl (by decide) (Nat.le_of_ble_eq_true rfl) rfl (k_X10_gives hR hs1 h122) (fun w123 hR124 hk125 => ?_)
    refine pm_goto (tgt := 417) dX10_does_403 (by decide) ?_
    cases h
    exact pm_vret dX10_does_417 rfl (Nat.le_refl _) (Nat.le_refl _) ⟨rfl, rfl, hR124, hk125⟩
  replace h := it_f t120 h
  by_cases t126 : x2 = 4
  · refine pm_tableIn (off := 405) (tgt := 406) dX10_does_1 (by rw [t126]; decide) (by rw [t126]; decide) (by rw [t126]; rfl) (by decide) ?_
    refine pm_lw (L' := [some (.ref (b + 0)), some (.ref (b + o1)), some (.int x2), some (.int x3), some (.int x4), some (.int x5), none, none]) ⟨Or.inr rfl, Or.inr rfl, Or.inr rfl, Or.inr rfl, Or.inr rfl, Or.inr rfl, Or.inl rfl, Or.inl rfl, trivial⟩ ?_
    exact k_X10_does_j406 hR rg_k0 hs1 h
  by_cases t132 : x2 = 5
  · refine pm_tableIn (off := 405) (tgt := 406) dX10_does_1 (by rw [t132]; decide) (by rw [t132]; decide) (by rw [t132]; rfl) (by decide) ?_
    refine pm_lw (L' := [some (.ref (b + 0)), some (.ref (b + o1)), some (.int x2), some (.int x3), some (.int x4), some (.int x5), none, none]) ⟨Or.inr rfl, Or.inr rfl, Or.inr rfl, Or.inr rfl, Or.inr rfl, Or.inr rfl, Or.inl rfl, Or.inl rfl, trivial⟩ ?_
    exact k_X10_does_j406 hR rg_k0 hs1 h
  by_cases t133 : x2 = 6
  · refine pm_tableIn (off := 405) (tgt := 406) dX10_does_1 (by rw [t133]; decide) (by rw [t133]; decide) (by rw [t133]; rfl) (by decide) ?_
    refine pm_lw (L' := [some (.ref (b + 0)), some (.ref (b + o1)), some (.int x2), some (.int x3), some (.int x4), some (.int x5), none, none]) ⟨Or.inr rfl, Or.inr rfl, Or.inr rfl, Or.inr rfl, Or.inr rfl, Or.inr rfl, Or.inl rfl, Or.inl rfl, trivial⟩ ?_
    exact k_X10_does_j406 hR rg_k0 hs1 h
  by_cases t134 : x2 = 7
  · refine pm_tableIn (off := 405) (tgt := 406) dX10_does_1 (by rw [t134]; decide) (by rw [t134]; decide) (by rw [t134]; rfl) (by decide) ?_
    refine pm_lw (L' := [some (.ref (b + 0)), some (.ref (b + o1)), some (.int x2), some (.int x3), some (.int x4), some (.int x5), none, none]) ⟨Or.inr rfl, Or.inr rfl, Or.inr rfl, Or.inr rfl, Or.inr rfl, Or.inr rfl, Or.inl rfl, Or.inl rfl, trivial⟩ ?_
    exact k_X10_does_j406 hR rg_k0 hs1 h
  by_cases t135 : x2 = 8
  · refine pm_tableIn (off := 405) (tgt := 406) dX10_does_1 (by rw [t135]; decide) (by rw [t135]; decide) (by rw [t135]; rfl) (by decide) ?_
    refine pm_lw (L' := [some (.ref (b + 0)), some (.ref (b + o1)), some (.int x2), some (.int x3), some (.int x4), some (.int x5), none, none]) ⟨Or.inr rfl, Or.inr rfl, Or.inr rfl, Or.inr rfl, Or.inr rfl, Or.inr rfl, Or.inl rfl, Or.inl rfl, trivial⟩ ?_
    exact k_X10_does_j406 hR rg_k0 hs1 h
  by_cases t136 : x2 = 9
  · refine pm_tableIn (off := 405) (tgt := 406) dX10_does_1 (by rw [t136]; decide) (by rw [t136]; decide) (by rw [t136]; rfl) (by decide) ?_
    refine pm_lw (L' := [some (.ref (b + 0)), some (.ref (b + o1)), some (.int x2), some (.int x3), some (.int x4), some (.int x5), none, none]) ⟨Or.inr rfl, Or.inr rfl, Or.inr rfl, Or.inr rfl, Or.inr rfl, Or.inr rfl, Or.inl rfl, Or.inl rfl, trivial⟩ ?_
    exact k_X10_does_j406 hR rg_k0 hs1 h
  refine pm_tableOut (tgt := 406) dX10_does_1 (by have h0 := lv_neT t1 (show (0 : Int32).toInt = 0 from by decide); have h1 := lv_neT t8 (show (1 : Int32).toInt = 1 from by decide); have h2 := lv_neT t14 (show (2 : Int32).toInt = 2 from by decide); have h3 := lv_neT t20 (show (3 : Int32).toInt = 3 from by decide); have h4 := lv_neT t28 (show (10 : Int32).toInt = 10 from by decide); have h5 := lv_neT t40 (show (11 : Int32).toInt = 11 from by decide); have h6 := lv_neT t55 (show (12 : Int32).toInt = 12 from by decide); have h7 := lv_neT t74 (show (13 : Int32).toInt = 13 from by decide); have h8 := lv_neT t80 (show (14 : Int32).toInt = 14 from by decide); have h9 := lv_neT t81 (show (15 : Int32).toInt = 15 from by decide); have h10 := lv_neT t87 (show (16 : Int32).toInt = 16 from by decide); have h11 := lv_neT t88 (show (17 : Int32).toInt = 17 from by decide); have h12 := lv_neT t89 (show (18 : Int32).toInt = 18 from by decide); have h13 := lv_neT t90 (show (19 : Int32).toInt = 19 from by decide); have h14 := lv_neT t102 (show (20 : Int32).toInt = 20 from by decide); have h15 := lv_neT t103 (show (21 : Int32).toInt = 21 from by decide); have h16 := lv_neT t120 (show (22 : Int32).toInt = 22 from by decide); have h17 := lv_neT t126 (show (4 : Int32).toInt = 4 from by decide); have h18 := lv_neT t132 (show (5 : Int32).toInt = 5 from by decide); have h19 := lv_neT t133 (show (6 : Int32).toInt = 6 from by decide); have h20 := lv_neT t134 (show (7 : Int32).toInt = 7 from by decide); have h21 := lv_neT t135 (show (8 : Int32).toInt = 8 from by decide); have h22 := lv_neT t136 (show (9 : Int32).toInt = 9 from by decide); omega) (by decide) ?_
  refine pm_lw (L' := [some (.ref (b + 0)), some (.ref (b + o1)), some (.int x2), some (.int x3), some (.int x4), some (.int x5), none, none]) ⟨Or.inr rfl, Or.inr rfl, Or.inr rfl, Or.inr rfl, Or.inr rfl, Or.inr rfl, Or.inl rfl, Or.inl rfl, trivial⟩ ?_
  exact k_X10_does_j406 hR rg_k0 hs1 h
