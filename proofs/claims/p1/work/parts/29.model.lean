theorem dX10_init_0 : decode cX10_init 0 = .ok (.aload_n 0, 1) := by decide +kernel
theorem dX10_init_1 : decode cX10_init 1 = .ok (.invokespecial 1, 3) := by decide +kernel
theorem dX10_init_4 : decode cX10_init 4 = .ok (.aload_n 0, 1) := by decide +kernel
theorem dX10_init_5 : decode cX10_init 5 = .ok (.bipush 64, 2) := by decide +kernel
theorem dX10_init_7 : decode cX10_init 7 = .ok (.newarray .int, 2) := by decide +kernel
theorem dX10_init_9 : decode cX10_init 9 = .ok (.putfield 7, 3) := by decide +kernel
theorem dX10_init_12 : decode cX10_init 12 = .ok (.aload_n 0, 1) := by decide +kernel
theorem dX10_init_13 : decode cX10_init 13 = .ok (.bipush 64, 2) := by decide +kernel
theorem dX10_init_15 : decode cX10_init 15 = .ok (.newarray .int, 2) := by decide +kernel
theorem dX10_init_17 : decode cX10_init 17 = .ok (.putfield 13, 3) := by decide +kernel
theorem dX10_init_20 : decode cX10_init 20 = .ok (.aload_n 0, 1) := by decide +kernel
theorem dX10_init_21 : decode cX10_init 21 = .ok (.bipush 64, 2) := by decide +kernel
theorem dX10_init_23 : decode cX10_init 23 = .ok (.newarray .int, 2) := by decide +kernel
theorem dX10_init_25 : decode cX10_init 25 = .ok (.putfield 16, 3) := by decide +kernel
theorem dX10_init_28 : decode cX10_init 28 = .ok (.aload_n 0, 1) := by decide +kernel
theorem dX10_init_29 : decode cX10_init 29 = .ok (.bipush 64, 2) := by decide +kernel
theorem dX10_init_31 : decode cX10_init 31 = .ok (.newarray .int, 2) := by decide +kernel
theorem dX10_init_33 : decode cX10_init 33 = .ok (.putfield 19, 3) := by decide +kernel
theorem dX10_init_36 : decode cX10_init 36 = .ok (.aload_n 0, 1) := by decide +kernel
theorem dX10_init_37 : decode cX10_init 37 = .ok (.bipush 8, 2) := by decide +kernel
theorem dX10_init_39 : decode cX10_init 39 = .ok (.putfield 22, 3) := by decide +kernel
theorem dX10_init_42 : decode cX10_init 42 = .ok (.aload_n 0, 1) := by decide +kernel
theorem dX10_init_43 : decode cX10_init 43 = .ok (.iconst 2, 1) := by decide +kernel
theorem dX10_init_44 : decode cX10_init 44 = .ok (.putfield 26, 3) := by decide +kernel
theorem dX10_init_47 : decode cX10_init 47 = .ok (.aload_n 0, 1) := by decide +kernel
theorem dX10_init_48 : decode cX10_init 48 = .ok (.iconst 5, 1) := by decide +kernel
theorem dX10_init_49 : decode cX10_init 49 = .ok (.newarray .boolean, 2) := by decide +kernel
theorem dX10_init_51 : decode cX10_init 51 = .ok (.putfield 29, 3) := by decide +kernel
theorem dX10_init_54 : decode cX10_init 54 = .ok (.aload_n 0, 1) := by decide +kernel
theorem dX10_init_55 : decode cX10_init 55 = .ok (.sipush 320, 3) := by decide +kernel
theorem dX10_init_58 : decode cX10_init 58 = .ok (.newarray .int, 2) := by decide +kernel
theorem dX10_init_60 : decode cX10_init 60 = .ok (.putfield 33, 3) := by decide +kernel
theorem dX10_init_63 : decode cX10_init 63 = .ok (.aload_n 0, 1) := by decide +kernel
theorem dX10_init_64 : decode cX10_init 64 = .ok (.sipush 320, 3) := by decide +kernel
theorem dX10_init_67 : decode cX10_init 67 = .ok (.newarray .int, 2) := by decide +kernel
theorem dX10_init_69 : decode cX10_init 69 = .ok (.putfield 36, 3) := by decide +kernel
theorem dX10_init_72 : decode cX10_init 72 = .ok (.aload_n 0, 1) := by decide +kernel
theorem dX10_init_73 : decode cX10_init 73 = .ok (.sipush 320, 3) := by decide +kernel
theorem dX10_init_76 : decode cX10_init 76 = .ok (.newarray .int, 2) := by decide +kernel
theorem dX10_init_78 : decode cX10_init 78 = .ok (.putfield 39, 3) := by decide +kernel
theorem dX10_init_81 : decode cX10_init 81 = .ok (.aload_n 0, 1) := by decide +kernel
theorem dX10_init_82 : decode cX10_init 82 = .ok (.sipush 320, 3) := by decide +kernel
theorem dX10_init_85 : decode cX10_init 85 = .ok (.newarray .int, 2) := by decide +kernel
theorem dX10_init_87 : decode cX10_init 87 = .ok (.putfield 42, 3) := by decide +kernel
theorem dX10_init_90 : decode cX10_init 90 = .ok (.aload_n 0, 1) := by decide +kernel
theorem dX10_init_91 : decode cX10_init 91 = .ok (.sipush 4000, 3) := by decide +kernel
theorem dX10_init_94 : decode cX10_init 94 = .ok (.newarray .int, 2) := by decide +kernel
theorem dX10_init_96 : decode cX10_init 96 = .ok (.putfield 45, 3) := by decide +kernel
theorem dX10_init_99 : decode cX10_init 99 = .ok (.aload_n 0, 1) := by decide +kernel
theorem dX10_init_100 : decode cX10_init 100 = .ok (.sipush 4000, 3) := by decide +kernel
theorem dX10_init_103 : decode cX10_init 103 = .ok (.newarray .int, 2) := by decide +kernel
theorem dX10_init_105 : decode cX10_init 105 = .ok (.putfield 48, 3) := by decide +kernel
theorem dX10_init_108 : decode cX10_init 108 = .ok (.aload_n 0, 1) := by decide +kernel
theorem dX10_init_109 : decode cX10_init 109 = .ok (.sipush 4000, 3) := by decide +kernel
theorem dX10_init_112 : decode cX10_init 112 = .ok (.newarray .int, 2) := by decide +kernel
theorem dX10_init_114 : decode cX10_init 114 = .ok (.putfield 51, 3) := by decide +kernel
theorem dX10_init_117 : decode cX10_init 117 = .ok (.aload_n 0, 1) := by decide +kernel
theorem dX10_init_118 : decode cX10_init 118 = .ok (.sipush 4000, 3) := by decide +kernel
theorem dX10_init_121 : decode cX10_init 121 = .ok (.newarray .int, 2) := by decide +kernel
theorem dX10_init_123 : decode cX10_init 123 = .ok (.putfield 54, 3) := by decide +kernel
theorem dX10_init_126 : decode cX10_init 126 = .ok (.aload_n 0, 1) := by decide +kernel
theorem dX10_init_127 : decode cX10_init 127 = .ok (.sipush 4000, 3) := by decide +kernel
theorem dX10_init_130 : decode cX10_init 130 = .ok (.newarray .int, 2) := by decide +kernel
theorem dX10_init_132 : decode cX10_init 132 = .ok (.putfield 57, 3) := by decide +kernel
theorem dX10_init_135 : decode cX10_init 135 = .ok (.aload_n 0, 1) := by decide +kernel
theorem dX10_init_136 : decode cX10_init 136 = .ok (.iconst 5, 1) := by decide +kernel
theorem dX10_init_137 : decode cX10_init 137 = .ok (.newarray .int, 2) := by decide +kernel
theorem dX10_init_139 : decode cX10_init 139 = .ok (.putfield 60, 3) := by decide +kernel
theorem dX10_init_142 : decode cX10_init 142 = .ok (.aload_n 0, 1) := by decide +kernel
theorem dX10_init_143 : decode cX10_init 143 = .ok (.sipush 500, 3) := by decide +kernel
theorem dX10_init_146 : decode cX10_init 146 = .ok (.newarray .int, 2) := by decide +kernel
theorem dX10_init_148 : decode cX10_init 148 = .ok (.putfield 63, 3) := by decide +kernel
theorem dX10_init_151 : decode cX10_init 151 = .ok (.aload_n 0, 1) := by decide +kernel
theorem dX10_init_152 : decode cX10_init 152 = .ok (.sipush 500, 3) := by decide +kernel
theorem dX10_init_155 : decode cX10_init 155 = .ok (.newarray .int, 2) := by decide +kernel
theorem dX10_init_157 : decode cX10_init 157 = .ok (.putfield 66, 3) := by decide +kernel
theorem dX10_init_160 : decode cX10_init 160 = .ok (.aload_n 0, 1) := by decide +kernel
theorem dX10_init_161 : decode cX10_init 161 = .ok (.sipush 500, 3) := by decide +kernel
theorem dX10_init_164 : decode cX10_init 164 = .ok (.newarray .int, 2) := by decide +kernel
theorem dX10_init_166 : decode cX10_init 166 = .ok (.putfield 69, 3) := by decide +kernel
theorem dX10_init_169 : decode cX10_init 169 = .ok (.aload_n 0, 1) := by decide +kernel
theorem dX10_init_170 : decode cX10_init 170 = .ok (.iconst 5, 1) := by decide +kernel
theorem dX10_init_171 : decode cX10_init 171 = .ok (.newarray .int, 2) := by decide +kernel
theorem dX10_init_173 : decode cX10_init 173 = .ok (.putfield 72, 3) := by decide +kernel
theorem dX10_init_176 : decode cX10_init 176 = .ok (.aload_n 0, 1) := by decide +kernel
theorem dX10_init_177 : decode cX10_init 177 = .ok (.sipush 15005, 3) := by decide +kernel
theorem dX10_init_180 : decode cX10_init 180 = .ok (.newarray .boolean, 2) := by decide +kernel
theorem dX10_init_182 : decode cX10_init 182 = .ok (.putfield 75, 3) := by decide +kernel
theorem dX10_init_185 : decode cX10_init 185 = .ok (.aload_n 0, 1) := by decide +kernel
theorem dX10_init_186 : decode cX10_init 186 = .ok (.iconst 5, 1) := by decide +kernel
theorem dX10_init_187 : decode cX10_init 187 = .ok (.newarray .int, 2) := by decide +kernel
theorem dX10_init_189 : decode cX10_init 189 = .ok (.putfield 78, 3) := by decide +kernel
theorem dX10_init_192 : decode cX10_init 192 = .ok (.aload_n 0, 1) := by decide +kernel
theorem dX10_init_193 : decode cX10_init 193 = .ok (.iconst 5, 1) := by decide +kernel
theorem dX10_init_194 : decode cX10_init 194 = .ok (.newarray .int, 2) := by decide +kernel
theorem dX10_init_196 : decode cX10_init 196 = .ok (.putfield 81, 3) := by decide +kernel
theorem dX10_init_199 : decode cX10_init 199 = .ok (.aload_n 0, 1) := by decide +kernel
theorem dX10_init_200 : decode cX10_init 200 = .ok (.iconst 5, 1) := by decide +kernel
theorem dX10_init_201 : decode cX10_init 201 = .ok (.newarray .int, 2) := by decide +kernel
theorem dX10_init_203 : decode cX10_init 203 = .ok (.putfield 84, 3) := by decide +kernel
theorem dX10_init_206 : decode cX10_init 206 = .ok (.aload_n 0, 1) := by decide +kernel
theorem dX10_init_207 : decode cX10_init 207 = .ok (.iconst 5, 1) := by decide +kernel
theorem dX10_init_208 : decode cX10_init 208 = .ok (.newarray .int, 2) := by decide +kernel
theorem dX10_init_210 : decode cX10_init 210 = .ok (.putfield 87, 3) := by decide +kernel
theorem dX10_init_213 : decode cX10_init 213 = .ok (.aload_n 0, 1) := by decide +kernel
theorem dX10_init_214 : decode cX10_init 214 = .ok (.iconst 5, 1) := by decide +kernel
theorem dX10_init_215 : decode cX10_init 215 = .ok (.newarray .int, 2) := by decide +kernel
theorem dX10_init_217 : decode cX10_init 217 = .ok (.putfield 90, 3) := by decide +kernel
theorem dX10_init_220 : decode cX10_init 220 = .ok (.aload_n 0, 1) := by decide +kernel
theorem dX10_init_221 : decode cX10_init 221 = .ok (.iconst 5, 1) := by decide +kernel
theorem dX10_init_222 : decode cX10_init 222 = .ok (.newarray .int, 2) := by decide +kernel
theorem dX10_init_224 : decode cX10_init 224 = .ok (.putfield 93, 3) := by decide +kernel
theorem dX10_init_227 : decode cX10_init 227 = .ok (.aload_n 0, 1) := by decide +kernel
theorem dX10_init_228 : decode cX10_init 228 = .ok (.iconst 5, 1) := by decide +kernel
theorem dX10_init_229 : decode cX10_init 229 = .ok (.newarray .int, 2) := by decide +kernel
theorem dX10_init_231 : decode cX10_init 231 = .ok (.putfield 96, 3) := by decide +kernel
theorem dX10_init_234 : decode cX10_init 234 = .ok (.aload_n 0, 1) := by decide +kernel
theorem dX10_init_235 : decode cX10_init 235 = .ok (.iconst (-1), 1) := by decide +kernel
theorem dX10_init_236 : decode cX10_init 236 = .ok (.putfield 99, 3) := by decide +kernel
theorem dX10_init_239 : decode cX10_init 239 = .ok (.aload_n 0, 1) := by decide +kernel
theorem dX10_init_240 : decode cX10_init 240 = .ok (.sipush 134, 3) := by decide +kernel
theorem dX10_init_243 : decode cX10_init 243 = .ok (.newarray .int, 2) := by decide +kernel
theorem dX10_init_245 : decode cX10_init 245 = .ok (.putfield 102, 3) := by decide +kernel
theorem dX10_init_248 : decode cX10_init 248 = .ok (.aload_n 0, 1) := by decide +kernel
theorem dX10_init_249 : decode cX10_init 249 = .ok (.sipush 1000, 3) := by decide +kernel
theorem dX10_init_252 : decode cX10_init 252 = .ok (.newarray .int, 2) := by decide +kernel
theorem dX10_init_254 : decode cX10_init 254 = .ok (.putfield 105, 3) := by decide +kernel
theorem dX10_init_257 : decode cX10_init 257 = .ok (.aload_n 0, 1) := by decide +kernel
theorem dX10_init_258 : decode cX10_init 258 = .ok (.iconst 1, 1) := by decide +kernel
theorem dX10_init_259 : decode cX10_init 259 = .ok (.putfield 108, 3) := by decide +kernel
theorem dX10_init_262 : decode cX10_init 262 = .ok (.aload_n 0, 1) := by decide +kernel
theorem dX10_init_263 : decode cX10_init 263 = .ok (.bipush 40, 2) := by decide +kernel
theorem dX10_init_265 : decode cX10_init 265 = .ok (.newarray .boolean, 2) := by decide +kernel
theorem dX10_init_267 : decode cX10_init 267 = .ok (.putfield 111, 3) := by decide +kernel
theorem dX10_init_270 : decode cX10_init 270 = .ok (.aload_n 0, 1) := by decide +kernel
theorem dX10_init_271 : decode cX10_init 271 = .ok (.sipush 134, 3) := by decide +kernel
theorem dX10_init_274 : decode cX10_init 274 = .ok (.newarray .int, 2) := by decide +kernel
theorem dX10_init_276 : decode cX10_init 276 = .ok (.putfield 114, 3) := by decide +kernel
theorem dX10_init_279 : decode cX10_init 279 = .ok (.aload_n 0, 1) := by decide +kernel
theorem dX10_init_280 : decode cX10_init 280 = .ok (.iconst (-1), 1) := by decide +kernel
theorem dX10_init_281 : decode cX10_init 281 = .ok (.putfield 117, 3) := by decide +kernel
theorem dX10_init_284 : decode cX10_init 284 = .ok (.aload_n 0, 1) := by decide +kernel
theorem dX10_init_285 : decode cX10_init 285 = .ok (.bipush 40, 2) := by decide +kernel
theorem dX10_init_287 : decode cX10_init 287 = .ok (.newarray .int, 2) := by decide +kernel
theorem dX10_init_289 : decode cX10_init 289 = .ok (.putfield 120, 3) := by decide +kernel
theorem dX10_init_292 : decode cX10_init 292 = .ok (.aload_n 0, 1) := by decide +kernel
theorem dX10_init_293 : decode cX10_init 293 = .ok (.sipush 4760, 3) := by decide +kernel
theorem dX10_init_296 : decode cX10_init 296 = .ok (.newarray .int, 2) := by decide +kernel
theorem dX10_init_298 : decode cX10_init 298 = .ok (.putfield 123, 3) := by decide +kernel
theorem dX10_init_301 : decode cX10_init 301 = .ok (.aload_n 0, 1) := by decide +kernel
theorem dX10_init_302 : decode cX10_init 302 = .ok (.bipush 119, 2) := by decide +kernel
theorem dX10_init_304 : decode cX10_init 304 = .ok (.newarray .int, 2) := by decide +kernel
theorem dX10_init_306 : decode cX10_init 306 = .ok (.putfield 126, 3) := by decide +kernel
theorem dX10_init_309 : decode cX10_init 309 = .ok (.aload_n 0, 1) := by decide +kernel
theorem dX10_init_310 : decode cX10_init 310 = .ok (.sipush 10201, 3) := by decide +kernel
theorem dX10_init_313 : decode cX10_init 313 = .ok (.newarray .int, 2) := by decide +kernel
theorem dX10_init_315 : decode cX10_init 315 = .ok (.putfield 129, 3) := by decide +kernel
theorem dX10_init_318 : decode cX10_init 318 = .ok (.aload_n 0, 1) := by decide +kernel
theorem dX10_init_319 : decode cX10_init 319 = .ok (.sipush 134, 3) := by decide +kernel
theorem dX10_init_322 : decode cX10_init 322 = .ok (.newarray .int, 2) := by decide +kernel
theorem dX10_init_324 : decode cX10_init 324 = .ok (.putfield 132, 3) := by decide +kernel
theorem dX10_init_327 : decode cX10_init 327 = .ok (.aload_n 0, 1) := by decide +kernel
theorem dX10_init_328 : decode cX10_init 328 = .ok (.sipush 134, 3) := by decide +kernel
theorem dX10_init_331 : decode cX10_init 331 = .ok (.newarray .int, 2) := by decide +kernel
theorem dX10_init_333 : decode cX10_init 333 = .ok (.putfield 135, 3) := by decide +kernel
theorem dX10_init_336 : decode cX10_init 336 = .ok (.iconst 0, 1) := by decide +kernel
theorem dX10_init_337 : decode cX10_init 337 = .ok (.istore_n 1, 1) := by decide +kernel
theorem dX10_init_338 : decode cX10_init 338 = .ok (.iload_n 1, 1) := by decide +kernel
theorem dX10_init_339 : decode cX10_init 339 = .ok (.bipush 64, 2) := by decide +kernel
theorem dX10_init_341 : decode cX10_init 341 = .ok (.if_icmp .ge 16, 3) := by decide +kernel
theorem dX10_init_344 : decode cX10_init 344 = .ok (.aload_n 0, 1) := by decide +kernel
theorem dX10_init_345 : decode cX10_init 345 = .ok (.getfield 7, 3) := by decide +kernel
theorem dX10_init_348 : decode cX10_init 348 = .ok (.iload_n 1, 1) := by decide +kernel
theorem dX10_init_349 : decode cX10_init 349 = .ok (.iconst (-1), 1) := by decide +kernel
theorem dX10_init_350 : decode cX10_init 350 = .ok (.iastore, 1) := by decide +kernel
theorem dX10_init_351 : decode cX10_init 351 = .ok (.iinc 1 1, 3) := by decide +kernel
theorem dX10_init_354 : decode cX10_init 354 = .ok (.goto (-16), 3) := by decide +kernel
theorem dX10_init_357 : decode cX10_init 357 = .ok (.return_, 1) := by decide +kernel
/-- the reference, made: before its instructions are said to be none; and with k of them said so -/
def mu_made : rg_U := (rg_F (rg_F (rg_F (rg_F (rg_F rg_Z 4 8) 5 2) 30 (-1)) 34 1) 41 (-1))
def mu_none : Nat → rg_U
  | 0 => mu_made
  | k + 1 => rg_R (mu_none k) 1 (nI k).toNatClampNeg (-1)
set_option maxHeartbeats 4000000 in
set_option maxRecDepth 100000 in
theorem k_X10_init {gs : List String} {ro : pm_RO} {w : Nat → va_E} {b : Nat} (hb6 : b + 100 < 1000000) (hR : rg [.inl (9, [1, 1, 1, 1, 0, 0, 1, 1, 1, 1, 1, 1, 1, 1, 1, 1, 1, 1, 1, 1, 1, 1, 1, 1, 1, 1, 1, 1, 1, 0, 0, 1, 1, 0, 0, 0, 1, 0, 0, 0, 1, 0, 0, 1, 1, 1, 1, 0, 0, 0, 0, 1, 1, 0, 0])] b rg_Z (b + 1) w) : pm_Met gs ro M_X10_init 1 37 54787 [.ref (b + 0)] (b + 1) w (fun rr n1 w1 => rr = none ∧ n1 = b + 38 ∧ rg shM b (mu_none 64) (b + 38) w1 ∧ ∀ k, k < b → w1 k = w k) := by
  refine pm_ofX in_X10_init (Nat.le_of_ble_eq_true rfl) rfl (L := [some (.ref (b + 0)), none]) rfl ?_
  refine pm_aload_n dX10_init_0 rfl ?_
  refine pm_obj (M := M_X10_init) dX10_init_1 oi_X10 oi_2 oi_3 (by decide) (Nat.le_of_ble_eq_true rfl) ?_
  refine pm_aload_n dX10_init_4 rfl ?_
  refine pm_bipush (v := 64) dX10_init_5 (by decide) ?_
  refine rg_newi (M := M_X10_init) (len := 1) (sh' := [.inl (9, [1, 1, 1, 1, 0, 0, 1, 1, 1, 1, 1, 1, 1, 1, 1, 1, 1, 1, 1, 1, 1, 1, 1, 1, 1, 1, 1, 1, 1, 0, 0, 1, 1, 0, 0, 0, 1, 0, 0, 0, 1, 0, 0, 1, 1, 1, 1, 0, 0, 0, 0, 1, 1, 0, 0]), .inr (.inl (0, 64))]) hR dX10_init_7 ac_int (by decide) (N := 64) (by decide) (Nat.le_of_ble_eq_true rfl) (Nat.le_of_ble_eq_true rfl) (Nat.le_of_ble_eq_true rfl) rfl rfl (by omega) rfl rfl (fun w1 hR2 hb3 => ?_)
  have hb4 := hb3
  refine rg_pr (M := M_X10_init) (j := 0) (o := 1) (sh' := [.inl (9, [3, 1, 1, 1, 0, 0, 1, 1, 1, 1, 1, 1, 1, 1, 1, 1, 1, 1, 1, 1, 1, 1, 1, 1, 1, 1, 1, 1, 1, 0, 0, 1, 1, 0, 0, 0, 1, 0, 0, 0, 1, 0, 0, 1, 1, 1, 1, 0, 0, 0, 0, 1, 1, 0, 0]), .inr (.inl (0, 64))]) hR2 dX10_init_9 fl_X10_7 rfl (fun r q => by cases q; rfl) rfl (by decide) (fun _ => rfl) (fun _ => rfl) rfl (fun w5 hR6 hb7 => ?_)
  have hb8 : ∀ k, k < b → w5 k = w k := fun k hk => (hb7 k hk).trans (hb4 k hk)
  refine pm_aload_n dX10_init_12 rfl ?_
  refine pm_bipush (v := 64) dX10_init_13 (by decide) ?_
  refine rg_newi (M := M_X10_init) (len := 2) (sh' := [.inl (9, [3, 1, 1, 1, 0, 0, 1, 1, 1, 1, 1, 1, 1, 1, 1, 1, 1, 1, 1, 1, 1, 1, 1, 1, 1, 1, 1, 1, 1, 0, 0, 1, 1, 0, 0, 0, 1, 0, 0, 0, 1, 0, 0, 1, 1, 1, 1, 0, 0, 0, 0, 1, 1, 0, 0]), .inr (.inl (0, 64)), .inr (.inl (0, 64))]) hR6 dX10_init_15 ac_int (by decide) (N := 64) (by decide) (Nat.le_of_ble_eq_true rfl) (Nat.le_of_ble_eq_true rfl) (Nat.le_of_ble_eq_true rfl) rfl rfl (by omega) rfl rfl (fun w9 hR10 hb11 => ?_)
  have hb12 : ∀ k, k < b → w9 k = w k := fun k hk => (hb11 k hk).trans (hb8 k hk)
  refine rg_pr (M := M_X10_init) (j := 0) (o := 2) (sh' := [.inl (9, [3, 4, 1, 1, 0, 0, 1, 1, 1, 1, 1, 1, 1, 1, 1, 1, 1, 1, 1, 1, 1, 1, 1, 1, 1, 1, 1, 1, 1, 0, 0, 1, 1, 0, 0, 0, 1, 0, 0, 0, 1, 0, 0, 1, 1, 1, 1, 0, 0, 0, 0, 1, 1, 0, 0]), .inr (.inl (0, 64)), .inr (.inl (0, 64))]) hR10 dX10_init_17 fl_X10_13 rfl (fun r q => by cases q; rfl) rfl (by decide) (fun _ => rfl) (fun _ => rfl) rfl (fun w13 hR14 hb15 => ?_)
  have hb16 : ∀ k, k < b → w13 k = w k := fun k hk => (hb15 k hk).trans (hb12 k hk)
  refine pm_aload_n dX10_init_20 rfl ?_
  refine pm_bipush (v := 64) dX10_init_21 (by decide) ?_
  refine rg_newi (M := M_X10_init) (len := 3) (sh' := [.inl (9, [3, 4, 1, 1, 0, 0, 1, 1, 1, 1, 1, 1, 1, 1, 1, 1, 1, 1, 1, 1, 1, 1, 1, 1, 1, 1, 1, 1, 1, 0, 0, 1, 1, 0, 0, 0, 1, 0, 0, 0, 1, 0, 0, 1, 1, 1, 1, 0, 0, 0, 0, 1, 1, 0, 0]), .inr (.inl (0, 64)), .inr (.inl (0, 64)), .inr (.inl (0, 64))]) hR14 dX10_init_23 ac_int (by decide) (N := 64) (by decide) (Nat.le_of_ble_eq_true rfl) (Nat.le_of_ble_eq_true rfl) (Nat.le_of_ble_eq_true rfl) rfl rfl (by omega) rfl rfl (fun w17 hR18 hb19 => ?_)
  have hb20 : ∀ k, k < b → w17 k = w k := fun k hk => (hb19 k hk).trans (hb16 k hk)
  refine rg_pr (M := M_X10_init) (j := 0) (o := 3) (sh' := [.inl (9, [3, 4, 5, 1, 0, 0, 1, 1, 1, 1, 1, 1, 1, 1, 1, 1, 1, 1, 1, 1, 1, 1, 1, 1, 1, 1, 1, 1, 1, 0, 0, 1, 1, 0, 0, 0, 1, 0, 0, 0, 1, 0, 0, 1, 1, 1, 1, 0, 0, 0, 0, 1, 1, 0, 0]), .inr (.inl (0, 64)), .inr (.inl (0, 64)), .inr (.inl (0, 64))]) hR18 dX10_init_25 fl_X10_16 rfl (fun r q => by cases q; rfl) rfl (by decide) (fun _ => rfl) (fun _ => rfl) rfl (fun w21 hR22 hb23 => ?_)
  have hb24 : ∀ k, k < b → w21 k = w k := fun k hk => (hb23 k hk).trans (hb20 k hk)
  refine pm_aload_n dX10_init_28 rfl ?_
  refine pm_bipush (v := 64) dX10_init_29 (by decide) ?_
  refine rg_newi (M := M_X10_init) (len := 4) (sh' := [.inl (9, [3, 4, 5, 1, 0, 0, 1, 1, 1, 1, 1, 1, 1, 1, 1, 1, 1, 1, 1, 1, 1, 1, 1, 1, 1, 1, 1, 1, 1, 0, 0, 1, 1, 0, 0, 0, 1, 0, 0, 0, 1, 0, 0, 1, 1, 1, 1, 0, 0, 0, 0, 1, 1, 0, 0]), .inr (.inl (0, 64)), .inr (.inl (0, 64)), .inr (.inl (0, 64)), .inr (.inl (0, 64))]) hR22 dX10_init_31 ac_int (by decide) (N := 64) (by decide) (Nat.le_of_ble_eq_true rfl) (Nat.le_of_ble_eq_true rfl) (Nat.le_of_ble_eq_true rfl) rfl rfl (by omega) rfl rfl (fun w25 hR26 hb27 => ?_)
  have hb28 : ∀ k, k < b → w25 k = w k := fun k hk => (hb27 k hk).trans (hb24 k hk)
  refine rg_pr (M := M_X10_init) (j := 0) (o := 4) (sh' := [.inl (9, [3, 4, 5, 6, 0, 0, 1, 1, 1, 1, 1, 1, 1, 1, 1, 1, 1, 1, 1, 1, 1, 1, 1, 1, 1, 1, 1, 1, 1, 0, 0, 1, 1, 0, 0, 0, 1, 0, 0, 0, 1, 0, 0, 1, 1, 1, 1, 0, 0, 0, 0, 1, 1, 0, 0]), .inr (.inl (0, 64)), .inr (.inl (0, 64)), .inr (.inl (0, 64)), .inr (.inl (0, 64))]) hR26 dX10_init_33 fl_X10_19 rfl (fun r q => by cases q; rfl) rfl (by decide) (fun _ => rfl) (fun _ => rfl) rfl (fun w29 hR30 hb31 => ?_)
  have hb32 : ∀ k, k < b → w29 k = w k := fun k hk => (hb31 k hk).trans (hb28 k hk)
  refine pm_aload_n dX10_init_36 rfl ?_
  refine pm_bipush (v := 8) dX10_init_37 (by decide) ?_
  refine rg_pi (j := 0) hR30 dX10_init_39 fl_X10_22 rfl rfl (fun w33 hR34 hk35 => ?_)
  have hb36 : ∀ k, k < b → w33 k = w k := fun q hq => (hk35 q (Or.inl hq)).trans (hb32 q hq)
  refine pm_aload_n dX10_init_42 rfl ?_
  refine pm_iconst (v := 2) dX10_init_43 (by decide) ?_
  refine rg_pi (j := 0) hR34 dX10_init_44 fl_X10_26 rfl rfl (fun w37 hR38 hk39 => ?_)
  have hb40 : ∀ k, k < b → w37 k = w k := fun q hq => (hk39 q (Or.inl hq)).trans (hb36 q hq)
  refine pm_aload_n dX10_init_47 rfl ?_
  refine pm_iconst (v := 5) dX10_init_48 (by decide) ?_
  refine rg_newz (M := M_X10_init) (len := 5) (sh' := [.inl (9, [3, 4, 5, 6, 0, 0, 1, 1, 1, 1, 1, 1, 1, 1, 1, 1, 1, 1, 1, 1, 1, 1, 1, 1, 1, 1, 1, 1, 1, 0, 0, 1, 1, 0, 0, 0, 1, 0, 0, 0, 1, 0, 0, 1, 1, 1, 1, 0, 0, 0, 0, 1, 1, 0, 0]), .inr (.inl (0, 64)), .inr (.inl (0, 64)), .inr (.inl (0, 64)), .inr (.inl (0, 64)), .inr (.inl (1, 5))]) hR38 dX10_init_49 ac_boolean (by decide) (N := 5) (by decide) (Nat.le_of_ble_eq_true rfl) (Nat.le_of_ble_eq_true rfl) (Nat.le_of_ble_eq_true rfl) rfl rfl (by omega) rfl rfl (fun w41 hR42 hb43 => ?_)
  have hb44 : ∀ k, k < b → w41 k = w k := fun k hk => (hb43 k hk).trans (hb40 k hk)
  refine rg_pr (M := M_X10_init) (j := 0) (o := 5) (sh' := [.inl (9, [3, 4, 5, 6, 0, 0, 7, 1, 1, 1, 1, 1, 1, 1, 1, 1, 1, 1, 1, 1, 1, 1, 1, 1, 1, 1, 1, 1, 1, 0, 0, 1, 1, 0, 0, 0, 1, 0, 0, 0, 1, 0, 0, 1, 1, 1, 1, 0, 0, 0, 0, 1, 1, 0, 0]), .inr (.inl (0, 64)), .inr (.inl (0, 64)), .inr (.inl (0, 64)), .inr (.inl (0, 64)), .inr (.inl (1, 5))]) hR42 dX10_init_51 fl_X10_29 rfl (fun r q => by cases q; rfl) rfl (by decide) (fun _ => rfl) (fun _ => rfl) rfl (fun w45 hR46 hb47 => ?_)
  have hb48 : ∀ k, k < b → w45 k = w k := fun k hk => (hb47 k hk).trans (hb44 k hk)
  refine pm_aload_n dX10_init_54 rfl ?_
  refine pm_sipush (v := 320) dX10_init_55 (by decide) ?_
  refine rg_newi (M := M_X10_init) (len := 6) (sh' := [.inl (9, [3, 4, 5, 6, 0, 0, 7, 1, 1, 1, 1, 1, 1, 1, 1, 1, 1, 1, 1, 1, 1, 1, 1, 1, 1, 1, 1, 1, 1, 0, 0, 1, 1, 0, 0, 0, 1, 0, 0, 0, 1, 0, 0, 1, 1, 1, 1, 0, 0, 0, 0, 1, 1, 0, 0]), .inr (.inl (0, 64)), .inr (.inl (0, 64)), .inr (.inl (0, 64)), .inr (.inl (0, 64)), .inr (.inl (1, 5)), .inr (.inl (0, 320))]) hR46 dX10_init_58 ac_int (by decide) (N := 320) (by decide) (Nat.le_of_ble_eq_true rfl) (Nat.le_of_ble_eq_true rfl) (Nat.le_of_ble_eq_true rfl) rfl rfl (by omega) rfl rfl (fun w49 hR50 hb51 => ?_)
  have hb52 : ∀ k, k < b → w49 k = w k := fun k hk => (hb51 k hk).trans (hb48 k hk)
  refine rg_pr (M := M_X10_init) (j := 0) (o := 6) (sh' := [.inl (9, [3, 4, 5, 6, 0, 0, 7, 8, 1, 1, 1, 1, 1, 1, 1, 1, 1, 1, 1, 1, 1, 1, 1, 1, 1, 1, 1, 1, 1, 0, 0, 1, 1, 0, 0, 0, 1, 0, 0, 0, 1, 0, 0, 1, 1, 1, 1, 0, 0, 0, 0, 1, 1, 0, 0]), .inr (.inl (0, 64)), .inr (.inl (0, 64)), .inr (.inl (0, 64)), .inr (.inl (0, 64)), .inr (.inl (1, 5)), .inr (.inl (0, 320))]) hR50 dX10_init_60 fl_X10_33 rfl (fun r q => by cases q; rfl) rfl (by decide) (fun _ => rfl) (fun _ => rfl) rfl (fun w53 hR54 hb55 => ?_)
  have hb56 : ∀ k, k < b → w53 k = w k := fun k hk => (hb55 k hk).trans (hb52 k hk)
  refine pm_aload_n dX10_init_63 rfl ?_
  refine pm_sipush (v := 320) dX10_init_64 (by decide) ?_
  refine rg_newi (M := M_X10_init) (len := 7) (sh' := [.inl (9, [3, 4, 5, 6, 0, 0, 7, 8, 1, 1, 1, 1, 1, 1, 1, 1, 1, 1, 1, 1, 1, 1, 1, 1, 1, 1, 1, 1, 1, 0, 0, 1, 1, 0, 0, 0, 1, 0, 0, 0, 1, 0, 0, 1, 1, 1, 1, 0, 0, 0, 0, 1, 1, 0, 0]), .inr (.inl (0, 64)), .inr (.inl (0, 64)), .inr (.inl (0, 64)), .inr (.inl (0, 64)), .inr (.inl (1, 5)), .inr (.inl (0, 320)), .inr (.inl (0, 320))]) hR54 dX10_init_67 ac_int (by decide) (N := 320) (by decide) (Nat.le_of_ble_eq_true rfl) (Nat.le_of_ble_eq_true rfl) (Nat.le_of_ble_eq_true rfl) rfl rfl (by omega) rfl rfl (fun w57 hR58 hb59 => ?_)
  have hb60 : ∀ k, k < b → w57 k = w k := fun k hk => (hb59 k hk).trans (hb56 k hk)
  refine rg_pr (M := M_X10_init) (j := 0) (o := 7) (sh' := [.inl (9, [3, 4, 5, 6, 0, 0, 7, 8, 9, 1, 1, 1, 1, 1, 1, 1, 1, 1, 1, 1, 1, 1, 1, 1, 1, 1, 1, 1, 1, 0, 0, 1, 1, 0, 0, 0, 1, 0, 0, 0, 1, 0, 0, 1, 1, 1, 1, 0, 0, 0, 0, 1, 1, 0, 0]), .inr (.inl (0, 64)), .inr (.inl (0, 64)), .inr (.inl (0, 64)), .inr (.inl (0, 64)), .inr (.inl (1, 5)), .inr (.inl (0, 320)), .inr (.inl (0, 320))]) hR58 dX10_init_69 fl_X10_36 rfl (fun r q => by cases q; rfl) rfl (by decide) (fun _ => rfl) (fun _ => rfl) rfl (fun w61 hR62 hb63 => ?_)
  have hb64 : ∀ k, k < b → w61 k = w k := fun k hk => (hb63 k hk).trans (hb60 k hk)
  refine pm_aload_n dX10_init_72 rfl ?_
  refine pm_sipush (v := 320) dX10_init_73 (by decide) ?_
  refine rg_newi (M := M_X10_init) (len := 8) (sh' := [.inl (9, [3, 4, 5, 6, 0, 0, 7, 8, 9, 1, 1, 1, 1, 1, 1, 1, 1, 1, 1, 1, 1, 1, 1, 1, 1, 1, 1, 1, 1, 0, 0, 1, 1, 0, 0, 0, 1, 0, 0, 0, 1, 0, 0, 1, 1, 1, 1, 0, 0, 0, 0, 1, 1, 0, 0]), .inr (.inl (0, 64)), .inr (.inl (0, 64)), .inr (.inl (0, 64)), .inr (.inl (0, 64)), .inr (.inl (1, 5)), .inr (.inl (0, 320)), .inr (.inl (0, 320)), .inr (.inl (0, 320))]) hR62 dX10_init_76 ac_int (by decide) (N := 320) (by decide) (Nat.le_of_ble_eq_true rfl) (Nat.le_of_ble_eq_true rfl) (Nat.le_of_ble_eq_true rfl) rfl rfl (by omega) rfl rfl (fun w65 hR66 hb67 => ?_)
  have hb68 : ∀ k, k < b → w65 k = w k := fun k hk => (hb67 k hk).trans (hb64 k hk)
  refine rg_pr (M := M_X10_init) (j := 0) (o := 8) (sh' := [.inl (9, [3, 4, 5, 6, 0, 0, 7, 8, 9, 10, 1, 1, 1, 1, 1, 1, 1, 1, 1, 1, 1, 1, 1, 1, 1, 1, 1, 1, 1, 0, 0, 1, 1, 0, 0, 0, 1, 0, 0, 0, 1, 0, 0, 1, 1, 1, 1, 0, 0, 0, 0, 1, 1, 0, 0]), .inr (.inl (0, 64)), .inr (.inl (0, 64)), .inr (.inl (0, 64)), .inr (.inl (0, 64)), .inr (.inl (1, 5)), .inr (.inl (0, 320)), .inr (.inl (0, 320)), .inr (.inl (0, 320))]) hR66 dX10_init_78 fl_X10_39 rfl (fun r q => by cases q; rfl) rfl (by decide) (fun _ => rfl) (fun _ => rfl) rfl (fun w69 hR70 hb71 => ?_)
  have hb72 : ∀ k, k < b → w69 k = w k := fun k hk => (hb71 k hk).trans (hb68 k hk)
  refine pm_aload_n dX10_init_81 rfl ?_
  refine pm_sipush (v := 320) dX10_init_82 (by decide) ?_
  refine rg_newi (M := M_X10_init) (len := 9) (sh' := [.inl (9, [3, 4, 5, 6, 0, 0, 7, 8, 9, 10, 1, 1, 1, 1, 1, 1, 1, 1, 1, 1, 1, 1, 1, 1, 1, 1, 1, 1, 1, 0, 0, 1, 1, 0, 0, 0, 1, 0, 0, 0, 1, 0, 0, 1, 1, 1, 1, 0, 0, 0, 0, 1, 1, 0, 0]), .inr (.inl (0, 64)), .inr (.inl (0, 64)), .inr (.inl (0, 64)), .inr (.inl (0, 64)), .inr (.inl (1, 5)), .inr (.inl (0, 320)), .inr (.inl (0, 320)), .inr (.inl (0, 320)), .inr (.inl (0, 320))]) hR70 dX10_init_85 ac_int (by decide) (N := 320) (by decide) (Nat.le_of_ble_eq_true rfl) (Nat.le_of_ble_eq_true rfl) (Nat.le_of_ble_eq_true rfl) rfl rfl (by omega) rfl rfl (fun w73 hR74 hb75 => ?_)
  have hb76 : ∀ k, k < b → w73 k = w k := fun k hk => (hb75 k hk).trans (hb72 k hk)
  refine rg_pr (M := M_X10_init) (j := 0) (o := 9) (sh' := [.inl (9, [3, 4, 5, 6, 0, 0, 7, 8, 9, 10, 11, 1, 1, 1, 1, 1, 1, 1, 1, 1, 1, 1, 1, 1, 1, 1, 1, 1, 1, 0, 0, 1, 1, 0, 0, 0, 1, 0, 0, 0, 1, 0, 0, 1, 1, 1, 1, 0, 0, 0, 0, 1, 1, 0, 0]), .inr (.inl (0, 64)), .inr (.inl (0, 64)), .inr (.inl (0, 64)), .inr (.inl (0, 64)), .inr (.inl (1, 5)), .inr (.inl (0, 320)), .inr (.inl (0, 320)), .inr (.inl (0, 320)), .inr (.inl (0, 320))]) hR74 dX10_init_87 fl_X10_42 rfl (fun r q => by cases q; rfl) rfl (by decide) (fun _ => rfl) (fun _ => rfl) rfl (fun w77 hR78 hb79 => ?_)
  have hb80 : ∀ k, k < b → w77 k = w k := fun k hk => (hb79 k hk).trans (hb76 k hk)
  refine pm_aload_n dX10_init_90 rfl ?_
  refine pm_sipush (v := 4000) dX10_init_91 (by decide) ?_
  refine rg_newi (M := M_X10_init) (len := 10) (sh' := [.inl (9, [3, 4, 5, 6, 0, 0, 7, 8, 9, 10, 11, 1, 1, 1, 1, 1, 1, 1, 1, 1, 1, 1, 1, 1, 1, 1, 1, 1, 1, 0, 0, 1, 1, 0, 0, 0, 1, 0, 0, 0, 1, 0, 0, 1, 1, 1, 1, 0, 0, 0, 0, 1, 1, 0, 0]), .inr (.inl (0, 64)), .inr (.inl (0, 64)), .inr (.inl (0, 64)), .inr (.inl (0, 64)), .inr (.inl (1, 5)), .inr (.inl (0, 320)), .inr (.inl (0, 320)), .inr (.inl (0, 320)), .inr (.inl (0, 320)), .inr (.inl (0, 4000))]) hR78 dX10_init_94 ac_int (by decide) (N := 4000) (by decide) (Nat.le_of_ble_eq_true rfl) (Nat.le_of_ble_eq_true rfl) (Nat.le_of_ble_eq_true rfl) rfl rfl (by omega) rfl rfl (fun w81 hR82 hb83 => ?_)
  have hb84 : ∀ k, k < b → w81 k = w k := fun k hk => (hb83 k hk).trans (hb80 k hk)
  refine rg_pr (M := M_X10_init) (j := 0) (o := 10) (sh' := [.inl (9, [3, 4, 5, 6, 0, 0, 7, 8, 9, 10, 11, 12, 1, 1, 1, 1, 1, 1, 1, 1, 1, 1, 1, 1, 1, 1, 1, 1, 1, 0, 0, 1, 1, 0, 0, 0, 1, 0, 0, 0, 1, 0, 0, 1, 1, 1, 1, 0, 0, 0, 0, 1, 1, 0, 0]), .inr (.inl (0, 64)), .inr (.inl (0, 64)), .inr (.inl (0, 64)), .inr (.inl (0, 64)), .inr (.inl (1, 5)), .inr (.inl (0, 320)), .inr (.inl (0, 320)), .inr (.inl (0, 320)), .inr (.inl (0, 320)), .inr (.inl (0, 4000))]) hR82 dX10_init_96 fl_X10_45 rfl (fun r q => by cases q; rfl) rfl (by decide) (fun _ => rfl) (fun _ => rfl) rfl (fun w85 hR86 hb87 => ?_)
  have hb88 : ∀ k, k < b → w85 k = w k := fun k hk => (hb87 k hk).trans (hb84 k hk)
  refine pm_aload_n dX10_init_99 rfl ?_
  refine pm_sipush (v := 4000) dX10_init_100 (by decide) ?_
  refine rg_newi (M := M_X10_init) (len := 11) (sh' := [.inl (9, [3, 4, 5, 6, 0, 0, 7, 8, 9, 10, 11, 12, 1, 1, 1, 1, 1, 1, 1, 1, 1, 1, 1, 1, 1, 1, 1, 1, 1, 0, 0, 1, 1, 0, 0, 0, 1, 0, 0, 0, 1, 0, 0, 1, 1, 1, 1, 0, 0, 0, 0, 1, 1, 0, 0]), .inr (.inl (0, 64)), .inr (.inl (0, 64)), .inr (.inl (0, 64)), .inr (.inl (0, 64)), .inr (.inl (1, 5)), .inr (.inl (0, 320)), .inr (.inl (0, 320)), .inr (.inl (0, 320)), .inr (.inl (0, 320)), .inr (.inl (0, 4000)), .inr (.inl (0, 4000))]) hR86 dX10_init_103 ac_int (by decide) (N := 4000) (by decide) (Nat.le_of_ble_eq_true rfl) (Nat.le_of_ble_eq_true rfl) (Nat.le_of_ble_eq_true rfl) rfl rfl (by omega) rfl rfl (fun w89 hR90 hb91 => ?_)
  have hb92 : ∀ k, k < b → w89 k = w k := fun k hk => (hb91 k hk).trans (hb88 k hk)
  refine rg_pr (M := M_X10_init) (j := 0) (o := 11) (sh' := [.inl (9, [3, 4, 5, 6, 0, 0, 7, 8, 9, 10, 11, 12, 13, 1, 1, 1, 1, 1, 1, 1, 1, 1, 1, 1, 1, 1, 1, 1, 1, 0, 0, 1, 1, 0, 0, 0, 1, 0, 0, 0, 1, 0, 0, 1, 1, 1, 1, 0, 0, 0, 0, 1, 1, 0, 0]), .inr (.inl (0, 64)), .inr (.inl (0, 64)), .inr (.inl (0, 64)), .inr (.inl (0, 64)), .inr (.inl (1, 5)), .inr (.inl (0, 320)), .inr (.inl (0, 320)), .inr (.inl (0, 320)), .inr (.inl (0, 320)), .inr (.inl (0, 4000)), .inr (.inl (0, 4000))]) hR90 dX10_init_105 fl_X10_48 rfl (fun r q => by cases q; rfl) rfl (by decide) (fun _ => rfl) (fun _ => rfl) rfl (fun w93 hR94 hb95 => ?_)
  have hb96 : ∀ k, k < b → w93 k = w k := fun k hk => (hb95 k hk).trans (hb92 k hk)
  refine pm_aload_n dX10_init_108 rfl ?_
  refine pm_sipush (v := 4000) dX10_init_109 (by decide) ?_
  refine rg_newi (M := M_X10_init) (len := 12) (sh' := [.inl (9, [3, 4, 5, 6, 0, 0, 7, 8, 9, 10, 11, 12, 13, 1, 1, 1, 1, 1, 1, 1, 1, 1, 1, 1, 1, 1, 1, 1, 1, 0, 0, 1, 1, 0, 0, 0, 1, 0, 0, 0, 1, 0, 0, 1, 1, 1, 1, 0, 0, 0, 0, 1, 1, 0, 0]), .inr (.inl (0, 64)), .inr (.inl (0, 64)), .inr (.inl (0, 64)), .inr (.inl (0, 64)), .inr (.inl (1, 5)), .inr (.inl (0, 320)), .inr (.inl (0, 320)), .inr (.inl (0, 320)), .inr (.inl (0, 320)), .inr (.inl (0, 4000)), .inr (.inl (0, 4000)), .inr (.inl (0, 4000))]) hR94 dX10_init_112 ac_int (by decide) (N := 4000) (by decide) (Nat.le_of_ble_eq_true rfl) (Nat.le_of_ble_eq_true rfl) (Nat.le_of_ble_eq_true rfl) rfl rfl (by omega) rfl rfl (fun w97 hR98 hb99 => ?_)
  have hb100 : ∀ k, k < b → w97 k = w k := fun k hk => (hb99 k hk).trans (hb96 k hk)
  refine rg_pr (M := M_X10_init) (j := 0) (o := 12) (sh' := [.inl (9, [3, 4, 5, 6, 0, 0, 7, 8, 9, 10, 11, 12, 13, 14, 1, 1, 1, 1, 1, 1, 1, 1, 1, 1, 1, 1, 1, 1, 1, 0, 0, 1, 1, 0, 0, 0, 1, 0, 0, 0, 1, 0, 0, 1, 1, 1, 1, 0, 0, 0, 0, 1, 1, 0, 0]), .inr (.inl (0, 64)), .inr (.inl (0, 64)), .inr (.inl (0, 64)), .inr (.inl (0, 64)), .inr (.inl (1, 5)), .inr (.inl (0, 320)), .inr (.inl (0, 320)), .inr (.inl (0, 320)), .inr (.inl (0, 320)), .inr (.inl (0, 4000)), .inr (.inl (0, 4000)), .inr (.inl (0, 4000))]) hR98 dX10_init_114 fl_X10_51 rfl (fun r q => by cases q; rfl) rfl (by decide) (fun _ => rfl) (fun _ => rfl) rfl (fun w101 hR102 hb103 => ?_)
  have hb104 : ∀ k, k < b → w101 k = w k := fun k hk => (hb103 k hk).trans (hb100 k hk)
  refine pm_aload_n dX10_init_117 rfl ?_
  refine pm_sipush (v := 4000) dX10_init_118 (by decide) ?_
  refine rg_newi (M := M_X10_init) (len := 13) (sh' := [.inl (9, [3, 4, 5, 6, 0, 0, 7, 8, 9, 10, 11, 12, 13, 14, 1, 1, 1, 1, 1, 1, 1, 1, 1, 1, 1, 1, 1, 1, 1, 0, 0, 1, 1, 0, 0, 0, 1, 0, 0, 0, 1, 0, 0, 1, 1, 1, 1, 0, 0, 0, 0, 1, 1, 0, 0]), .inr (.inl (0, 64)), .inr (.inl (0, 64)), .inr (.inl (0, 64)), .inr (.inl (0, 64)), .inr (.inl (1, 5)), .inr (.inl (0, 320)), .inr (.inl (0, 320)), .inr (.inl (0, 320)), .inr (.inl (0, 320)), .inr (.inl (0, 4000)), .inr (.inl (0, 4000)), .inr (.inl (0, 4000)), .inr (.inl (0, 4000))]) hR102 dX10_init_121 ac_int (by decide) (N := 4000) (by decide) (Nat.le_of_ble_eq_true rfl) (Nat.le_of_ble_eq_true rfl) (Nat.le_of_ble_eq_true rfl) rfl rfl (by omega) rfl rfl (fun w105 hR106 hb107 => ?_)
  have hb108 : ∀ k, k < b → w105 k = w k := fun k hk => (hb107 k hk).trans (hb104 k hk)
  refine rg_pr (M := M_X10_init) (j := 0) (o := 13) (sh' := [.inl (9, [3, 4, 5, 6, 0, 0, 7, 8, 9, 10, 11, 12, 13, 14, 15, 1, 1, 1, 1, 1, 1, 1, 1, 1, 1, 1, 1, 1, 1, 0, 0, 1, 1, 0, 0, 0, 1, 0, 0, 0, 1, 0, 0, 1, 1, 1, 1, 0, 0, 0, 0, 1, 1, 0, 0]), .inr (.inl (0, 64)), .inr (.inl (0, 64)), .inr (.inl (0, 64)), .inr (.inl (0, 64)), .inr (.inl (1, 5)), .inr (.inl (0, 320)), .inr (.inl (0, 320)), .inr (.inl (0, 320)), .inr (.inl (0, 320)), .inr (.inl (0, 4000)), .inr (.inl (0, 4000)), .inr (.inl (0, 4000)), .inr (.inl (0, 4000))]) hR106 dX10_init_123 fl_X10_54 rfl (fun r q => by cases q; rfl) rfl (by decide) (fun _ => rfl) (fun _ => rfl) rfl (fun w109 hR110 hb111 => ?_)
  have hb112 : ∀ k, k < b → w109 k = w k := fun k hk => (hb111 k hk).trans (hb108 k hk)
  refine pm_aload_n dX10_init_126 rfl ?_
  refine pm_sipush (v := 4000) dX10_init_127 (by decide) ?_
  refine rg_newi (M := M_X10_init) (len := 14) (sh' := [.inl (9, [3, 4, 5, 6, 0, 0, 7, 8, 9, 10, 11, 12, 13, 14, 15, 1, 1, 1, 1, 1, 1, 1, 1, 1, 1, 1, 1, 1, 1, 0, 0, 1, 1, 0, 0, 0, 1, 0, 0, 0, 1, 0, 0, 1, 1, 1, 1, 0, 0, 0, 0, 1, 1, 0, 0]), .inr (.inl (0, 64)), .inr (.inl (0, 64)), .inr (.inl (0, 64)), .inr (.inl (0, 64)), .inr (.inl (1, 5)), .inr (.inl (0, 320)), .inr (.inl (0, 320)), .inr (.inl (0, 320)), .inr (.inl (0, 320)), .inr (.inl (0, 4000)), .inr (.inl (0, 4000)), .inr (.inl (0, 4000)), .inr (.inl (0, 4000)), .inr (.inl (0, 4000))]) hR110 dX10_init_130 ac_int (by decide) (N := 4000) (by decide) (Nat.le_of_ble_eq_true rfl) (Nat.le_of_ble_eq_true rfl) (Nat.le_of_ble_eq_true rfl) rfl rfl (by omega) rfl rfl (fun w113 hR114 hb115 => ?_)
  have hb116 : ∀ k, k < b → w113 k = w k := fun k hk => (hb115 k hk).trans (hb112 k hk)
  refine rg_pr (M := M_X10_init) (j := 0) (o := 14) (sh' := [.inl (9, [3, 4, 5, 6, 0, 0, 7, 8, 9, 10, 11, 12, 13, 14, 15, 16, 1, 1, 1, 1, 1, 1, 1, 1, 1, 1, 1, 1, 1, 0, 0, 1, 1, 0, 0, 0, 1, 0, 0, 0, 1, 0, 0, 1, 1, 1, 1, 0, 0, 0, 0, 1, 1, 0, 0]), .inr (.inl (0, 64)), .inr (.inl (0, 64)), .inr (.inl (0, 64)), .inr (.inl (0, 64)), .inr (.inl (1, 5)), .inr (.inl (0, 320)), .inr (.inl (0, 320)), .inr (.inl (0, 320)), .inr (.inl (0, 320)), .inr (.inl (0, 4000)), .inr (.inl (0, 4000)), .inr (.inl (0, 4000)), .inr (.inl (0, 4000)), .inr (.inl (0, 4000))]) hR114 dX10_init_132 fl_X10_57 rfl (fun r q => by cases q; rfl) rfl (by decide) (fun _ => rfl) (fun _ => rfl) rfl (fun w117 hR118 hb119 => ?_)
  have hb120 : ∀ k, k < b → w117 k = w k := fun k hk => (hb119 k hk).trans (hb116 k hk)
  refine pm_aload_n dX10_init_135 rfl ?_
  refine pm_iconst (v := 5) dX10_init_136 (by decide) ?_
  refine rg_newi (M := M_X10_init) (len := 15) (sh' := [.inl (9, [3, 4, 5, 6, 0, 0, 7, 8, 9, 10, 11, 12, 13, 14, 15, 16, 1, 1, 1, 1, 1, 1, 1, 1, 1, 1, 1, 1, 1, 0, 0, 1, 1, 0, 0, 0, 1, 0, 0, 0, 1, 0, 0, 1, 1, 1, 1, 0, 0, 0, 0, 1, 1, 0, 0]), .inr (.inl (0, 64)), .inr (.inl (0, 64)), .inr (.inl (0, 64)), .inr (.inl (0, 64)), .inr (.inl (1, 5)), .inr (.inl (0, 320)), .inr (.inl (0, 320)), .inr (.inl (0, 320)), .inr (.inl (0, 320)), .inr (.inl (0, 4000)), .inr (.inl (0, 4000)), .inr (.inl (0, 4000)), .inr (.inl (0, 4000)), .inr (.inl (0, 4000)), .inr (.inl (0, 5))]) hR118 dX10_init_137 ac_int (by decide) (N := 5) (by decide) (Nat.le_of_ble_eq_true rfl) (Nat.le_of_ble_eq_true rfl) (Nat.le_of_ble_eq_true rfl) rfl rfl (by omega) rfl rfl (fun w121 hR122 hb123 => ?_)
  have hb124 : ∀ k, k < b → w121 k = w k := fun k hk => (hb123 k hk).trans (hb120 k hk)
  refine rg_pr (M := M_X10_init) (j := 0) (o := 15) (sh' := [.inl (9, [3, 4, 5, 6, 0, 0, 7, 8, 9, 10, 11, 12, 13, 14, 15, 16, 17, 1, 1, 1, 1, 1, 1, 1, 1, 1, 1, 1, 1, 0, 0, 1, 1, 0, 0, 0, 1, 0, 0, 0, 1, 0, 0, 1, 1, 1, 1, 0, 0, 0, 0, 1, 1, 0, 0]), .inr (.inl (0, 64)), .inr (.inl (0, 64)), .inr (.inl (0, 64)), .inr (.inl (0, 64)), .inr (.inl (1, 5)), .inr (.inl (0, 320)), .inr (.inl (0, 320)), .inr (.inl (0, 320)), .inr (.inl (0, 320)), .inr (.inl (0, 4000)), .inr (.inl (0, 4000)), .inr (.inl (0, 4000)), .inr (.inl (0, 4000)), .inr (.inl (0, 4000)), .inr (.inl (0, 5))]) hR122 dX10_init_139 fl_X10_60 rfl (fun r q => by cases q; rfl) rfl (by decide) (fun _ => rfl) (fun _ => rfl) rfl (fun w125 hR126 hb127 => ?_)
  have hb128 : ∀ k, k < b → w125 k = w k := fun k hk => (hb127 k hk).trans (hb124 k hk)
  refine pm_aload_n dX10_init_142 rfl ?_
  refine pm_sipush (v := 500) dX10_init_143 (by decide) ?_
  refine rg_newi (M := M_X10_init) (len := 16) (sh' := [.inl (9, [3, 4, 5, 6, 0, 0, 7, 8, 9, 10, 11, 12, 13, 14, 15, 16, 17, 1, 1, 1, 1, 1, 1, 1, 1, 1, 1, 1, 1, 0, 0, 1, 1, 0, 0, 0, 1, 0, 0, 0, 1, 0, 0, 1, 1, 1, 1, 0, 0, 0, 0, 1, 1, 0, 0]), .inr (.inl (0, 64)), .inr (.inl (0, 64)), .inr (.inl (0, 64)), .inr (.inl (0, 64)), .inr (.inl (1, 5)), .inr (.inl (0, 320)), .inr (.inl (0, 320)), .inr (.inl (0, 320)), .inr (.inl (0, 320)), .inr (.inl (0, 4000)), .inr (.inl (0, 4000)), .inr (.inl (0, 4000)), .inr (.inl (0, 4000)), .inr (.inl (0, 4000)), .inr (.inl (0, 5)), .inr (.inl (0, 500))]) hR126 dX10_init_146 ac_int (by decide) (N := 500) (by decide) (Nat.le_of_ble_eq_true rfl) (Nat.le_of_ble_eq_true rfl) (Nat.le_of_ble_eq_true rfl) rfl rfl (by omega) rfl rfl (fun w129 hR130 hb131 => ?_)
  have hb132 : ∀ k, k < b → w129 k = w k := fun k hk => (hb131 k hk).trans (hb128 k hk)
  refine rg_pr (M := M_X10_init) (j := 0) (o := 16) (sh' := [.inl (9, [3, 4, 5, 6, 0, 0, 7, 8, 9, 10, 11, 12, 13, 14, 15, 16, 17, 18, 1, 1, 1, 1, 1, 1, 1, 1, 1, 1, 1, 0, 0, 1, 1, 0, 0, 0, 1, 0, 0, 0, 1, 0, 0, 1, 1, 1, 1, 0, 0, 0, 0, 1, 1, 0, 0]), .inr (.inl (0, 64)), .inr (.inl (0, 64)), .inr (.inl (0, 64)), .inr (.inl (0, 64)), .inr (.inl (1, 5)), .inr (.inl (0, 320)), .inr (.inl (0, 320)), .inr (.inl (0, 320)), .inr (.inl (0, 320)), .inr (.inl (0, 4000)), .inr (.inl (0, 4000)), .inr (.inl (0, 4000)), .inr (.inl (0, 4000)), .inr (.inl (0, 4000)), .inr (.inl (0, 5)), .inr (.inl (0, 500))]) hR130 dX10_init_148 fl_X10_63 rfl (fun r q => by cases q; rfl) rfl (by decide) (fun _ => rfl) (fun _ => rfl) rfl (fun w133 hR134 hb135 => ?_)
  have hb136 : ∀ k, k < b → w133 k = w k := fun k hk => (hb135 k hk).trans (hb132 k hk)
  refine pm_aload_n dX10_init_151 rfl ?_
  refine pm_sipush (v := 500) dX10_init_152 (by decide) ?_
  refine rg_newi (M := M_X10_init) (len := 17) (sh' := [.inl (9, [3, 4, 5, 6, 0, 0, 7, 8, 9, 10, 11, 12, 13, 14, 15, 16, 17, 18, 1, 1, 1, 1, 1, 1, 1, 1, 1, 1, 1, 0, 0, 1, 1, 0, 0, 0, 1, 0, 0, 0, 1, 0, 0, 1, 1, 1, 1, 0, 0, 0, 0, 1, 1, 0, 0]), .inr (.inl (0, 64)), .inr (.inl (0, 64)), .inr (.inl (0, 64)), .inr (.inl (0, 64)), .inr (.inl (1, 5)), .inr (.inl (0, 320)), .inr (.inl (0, 320)), .inr (.inl (0, 320)), .inr (.inl (0, 320)), .inr (.inl (0, 4000)), .inr (.inl (0, 4000)), .inr (.inl (0, 4000)), .inr (.inl (0, 4000)), .inr (.inl (0, 4000)), .inr (.inl (0, 5)), .inr (.inl (0, 500)), .inr (.inl (0, 500))]) hR134 dX10_init_155 ac_int (by decide) (N := 500) (by decide) (Nat.le_of_ble_eq_true rfl) (Nat.le_of_ble_eq_true rfl) (Nat.le_of_ble_eq_true rfl) rfl rfl (by omega) rfl rfl (fun w137 hR138 hb139 => ?_)
  have hb140 : ∀ k, k < b → w137 k = w k := fun k hk => (hb139 k hk).trans (hb136 k hk)
  refine rg_pr (M := M_X10_init) (j := 0) (o := 17) (sh' := [.inl (9, [3, 4, 5, 6, 0, 0, 7, 8, 9, 10, 11, 12, 13, 14, 15, 16, 17, 18, 19, 1, 1, 1, 1, 1, 1, 1, 1, 1, 1, 0, 0, 1, 1, 0, 0, 0, 1, 0, 0, 0, 1, 0, 0, 1, 1, 1, 1, 0, 0, 0, 0, 1, 1, 0, 0]), .inr (.inl (0, 64)), .inr (.inl (0, 64)), .inr (.inl (0, 64)), .inr (.inl (0, 64)), .inr (.inl (1, 5)), .inr (.inl (0, 320)), .inr (.inl (0, 320)), .inr (.inl (0, 320)), .inr (.inl (0, 320)), .inr (.inl (0, 4000)), .inr (.inl (0, 4000)), .inr (.inl (0, 4000)), .inr (.inl (0, 4000)), .inr (.inl (0, 4000)), .inr (.inl (0, 5)), .inr (.inl (0, 500)), .inr (.inl (0, 500))]) hR138 dX10_init_157 fl_X10_66 rfl (fun r q => by cases q; rfl) rfl (by decide) (fun _ => rfl) (fun _ => rfl) rfl (fun w141 hR142 hb143 => ?_)
  have hb144 : ∀ k, k < b → w141 k = w k := fun k hk => (hb143 k hk).trans (hb140 k hk)
  refine pm_aload_n dX10_init_160 rfl ?_
  refine pm_sipush (v := 500) dX10_init_161 (by decide) ?_
  refine rg_newi (M := M_X10_init) (len := 18) (sh' := [.inl (9, [3, 4, 5, 6, 0, 0, 7, 8, 9, 10, 11, 12, 13, 14, 15, 16, 17, 18, 19, 1, 1, 1, 1, 1, 1, 1, 1, 1, 1, 0, 0, 1, 1, 0, 0, 0, 1, 0, 0, 0, 1, 0, 0, 1, 1, 1, 1, 0, 0, 0, 0, 1, 1, 0, 0]), .inr (.inl (0, 64)), .inr (.inl (0, 64)), .inr (.inl (0, 64)), .inr (.inl (0, 64)), .inr (.inl (1, 5)), .inr (.inl (0, 320)), .inr (.inl (0, 320)), .inr (.inl (0, 320)), .inr (.inl (0, 320)), .inr (.inl (0, 4000)), .inr (.inl (0, 4000)), .inr (.inl (0, 4000)), .inr (.inl (0, 4000)), .inr (.inl (0, 4000)), .inr (.inl (0, 5)), .inr (.inl (0, 500)), .inr (.inl (0, 500)), .inr (.inl (0, 500))]) hR142 dX10_init_164 ac_int (by decide) (N := 500) (by decide) (Nat.le_of_ble_eq_true rfl) (Nat.le_of_ble_eq_true rfl) (Nat.le_of_ble_eq_true rfl) rfl rfl (by omega) rfl rfl (fun w145 hR146 hb147 => ?_)
  have hb148 : ∀ k, k < b → w145 k = w k := fun k hk => (hb147 k hk).trans (hb144 k hk)
  refine rg_pr (M := M_X10_init) (j := 0) (o := 18) (sh' := [.inl (9, [3, 4, 5, 6, 0, 0, 7, 8, 9, 10, 11, 12, 13, 14, 15, 16, 17, 18, 19, 20, 1, 1, 1, 1, 1, 1, 1, 1, 1, 0, 0, 1, 1, 0, 0, 0, 1, 0, 0, 0, 1, 0, 0, 1, 1, 1, 1, 0, 0, 0, 0, 1, 1, 0, 0]), .inr (.inl (0, 64)), .inr (.inl (0, 64)), .inr (.inl (0, 64)), .inr (.inl (0, 64)), .inr (.inl (1, 5)), .inr (.inl (0, 320)), .inr (.inl (0, 320)), .inr (.inl (0, 320)), .inr (.inl (0, 320)), .inr (.inl (0, 4000)), .inr (.inl (0, 4000)), .inr (.inl (0, 4000)), .inr (.inl (0, 4000)), .inr (.inl (0, 4000)), .inr (.inl (0, 5)), .inr (.inl (0, 500)), .inr (.inl (0, 500)), .inr (.inl (0, 500))]) hR146 dX10_init_166 fl_X10_69 rfl (fun r q => by cases q; rfl) rfl (by decide) (fun _ => rfl) (fun _ => rfl) rfl (fun w149 hR150 hb151 => ?_)
  have hb152 : ∀ k, k < b → w149 k = w k := fun k hk => (hb151 k hk).trans (hb148 k hk)
  refine pm_aload_n dX10_init_169 rfl ?_
  refine pm_iconst (v := 5) dX10_init_170 (by decide) ?_
  refine rg_newi (M := M_X10_init) (len := 19) (sh' := [.inl (9, [3, 4, 5, 6, 0, 0, 7, 8, 9, 10, 11, 12, 13, 14, 15, 16, 17, 18, 19, 20, 1, 1, 1, 1, 1, 1, 1, 1, 1, 0, 0, 1, 1, 0, 0, 0, 1, 0, 0, 0, 1, 0, 0, 1, 1, 1, 1, 0, 0, 0, 0, 1, 1, 0, 0]), .inr (.inl (0, 64)), .inr (.inl (0, 64)), .inr (.inl (0, 64)), .inr (.inl (0, 64)), .inr (.inl (1, 5)), .inr (.inl (0, 320)), .inr (.inl (0, 320)), .inr (.inl (0, 320)), .inr (.inl (0, 320)), .inr (.inl (0, 4000)), .inr (.inl (0, 4000)), .inr (.inl (0, 4000)), .inr (.inl (0, 4000)), .inr (.inl (0, 4000)), .inr (.inl (0, 5)), .inr (.inl (0, 500)), .inr (.inl (0, 500)), .inr (.inl (0, 500)), .inr (.inl (0, 5))]) hR150 dX10_init_171 ac_int (by decide) (N := 5) (by decide) (Nat.le_of_ble_eq_true rfl) (Nat.le_of_ble_eq_true rfl) (Nat.le_of_ble_eq_true rfl) rfl rfl (by omega) rfl rfl (fun w153 hR154 hb155 => ?_)
  have hb156 : ∀ k, k < b → w153 k = w k := fun k hk => (hb155 k hk).trans (hb152 k hk)
  refine rg_pr (M := M_X10_init) (j := 0) (o := 19) (sh' := [.inl (9, [3, 4, 5, 6, 0, 0, 7, 8, 9, 10, 11, 12, 13, 14, 15, 16, 17, 18, 19, 20, 21, 1, 1, 1, 1, 1, 1, 1, 1, 0, 0, 1, 1, 0, 0, 0, 1, 0, 0, 0, 1, 0, 0, 1, 1, 1, 1, 0, 0, 0, 0, 1, 1, 0, 0]), .inr (.inl (0, 64)), .inr (.inl (0, 64)), .inr (.inl (0, 64)), .inr (.inl (0, 64)), .inr (.inl (1, 5)), .inr (.inl (0, 320)), .inr (.inl (0, 320)), .inr (.inl (0, 320)), .inr (.inl (0, 320)), .inr (.inl (0, 4000)), .inr (.inl (0, 4000)), .inr (.inl (0, 4000)), .inr (.inl (0, 4000)), .inr (.inl (0, 4000)), .inr (.inl (0, 5)), .inr (.inl (0, 500)), .inr (.inl (0, 500)), .inr (.inl (0, 500)), .inr (.inl (0, 5))]) hR154 dX10_init_173 fl_X10_72 rfl (fun r q => by cases q; rfl) rfl (by decide) (fun _ => rfl) (fun _ => rfl) rfl (fun w157 hR158 hb159 => ?_)
  have hb160 : ∀ k, k < b → w157 k = w k := fun k hk => (hb159 k hk).trans (hb156 k hk)
  refine pm_aload_n dX10_init_176 rfl ?_
  refine pm_sipush (v := 15005) dX10_init_177 (by decide) ?_
  refine rg_newz (M := M_X10_init) (len := 20) (sh' := [.inl (9, [3, 4, 5, 6, 0, 0, 7, 8, 9, 10, 11, 12, 13, 14, 15, 16, 17, 18, 19, 20, 21, 1, 1, 1, 1, 1, 1, 1, 1, 0, 0, 1, 1, 0, 0, 0, 1, 0, 0, 0, 1, 0, 0, 1, 1, 1, 1, 0, 0, 0, 0, 1, 1, 0, 0]), .inr (.inl (0, 64)), .inr (.inl (0, 64)), .inr (.inl (0, 64)), .inr (.inl (0, 64)), .inr (.inl (1, 5)), .inr (.inl (0, 320)), .inr (.inl (0, 320)), .inr (.inl (0, 320)), .inr (.inl (0, 320)), .inr (.inl (0, 4000)), .inr (.inl (0, 4000)), .inr (.inl (0, 4000)), .inr (.inl (0, 4000)), .inr (.inl (0, 4000)), .inr (.inl (0, 5)), .inr (.inl (0, 500)), .inr (.inl (0, 500)), .inr (.inl (0, 500)), .inr (.inl (0, 5)), .inr (.inl (1, 15005))]) hR158 dX10_init_180 ac_boolean (by decide) (N := 15005) (by decide) (Nat.le_of_ble_eq_true rfl) (Nat.le_of_ble_eq_true rfl) (Nat.le_of_ble_eq_true rfl) rfl rfl (by omega) rfl rfl (fun w161 hR162 hb163 => ?_)
  have hb164 : ∀ k, k < b → w161 k = w k := fun k hk => (hb163 k hk).trans (hb160 k hk)
  refine rg_pr (M := M_X10_init) (j := 0) (o := 20) (sh' := [.inl (9, [3, 4, 5, 6, 0, 0, 7, 8, 9, 10, 11, 12, 13, 14, 15, 16, 17, 18, 19, 20, 21, 22, 1, 1, 1, 1, 1, 1, 1, 0, 0, 1, 1, 0, 0, 0, 1, 0, 0, 0, 1, 0, 0, 1, 1, 1, 1, 0, 0, 0, 0, 1, 1, 0, 0]), .inr (.inl (0, 64)), .inr (.inl (0, 64)), .inr (.inl (0, 64)), .inr (.inl (0, 64)), .inr (.inl (1, 5)), .inr (.inl (0, 320)), .inr (.inl (0, 320)), .inr (.inl (0, 320)), .inr (.inl (0, 320)), .inr (.inl (0, 4000)), .inr (.inl (0, 4000)), .inr (.inl (0, 4000)), .inr (.inl (0, 4000)), .inr (.inl (0, 4000)), .inr (.inl (0, 5)), .inr (.inl (0, 500)), .inr (.inl (0, 500)), .inr (.inl (0, 500)), .inr (.inl (0, 5)), .inr (.inl (1, 15005))]) hR162 dX10_init_182 fl_X10_75 rfl (fun r q => by cases q; rfl) rfl (by decide) (fun _ => rfl) (fun _ => rfl) rfl (fun w165 hR166 hb167 => ?_)
  have hb168 : ∀ k, k < b → w165 k = w k := fun k hk => (hb167 k hk).trans (hb164 k hk)
  refine pm_aload_n dX10_init_185 rfl ?_
  refine pm_iconst (v := 5) dX10_init_186 (by decide) ?_
  refine rg_newi (M := M_X10_init) (len := 21) (sh' := [.inl (9, [3, 4, 5, 6, 0, 0, 7, 8, 9, 10, 11, 12, 13, 14, 15, 16, 17, 18, 19, 20, 21, 22, 1, 1, 1, 1, 1, 1, 1, 0, 0, 1, 1, 0, 0, 0, 1, 0, 0, 0, 1, 0, 0, 1, 1, 1, 1, 0, 0, 0, 0, 1, 1, 0, 0]), .inr (.inl (0, 64)), .inr (.inl (0, 64)), .inr (.inl (0, 64)), .inr (.inl (0, 64)), .inr (.inl (1, 5)), .inr (.inl (0, 320)), .inr (.inl (0, 320)), .inr (.inl (0, 320)), .inr (.inl (0, 320)), .inr (.inl (0, 4000)), .inr (.inl (0, 4000)), .inr (.inl (0, 4000)), .inr (.inl (0, 4000)), .inr (.inl (0, 4000)), .inr (.inl (0, 5)), .inr (.inl (0, 500)), .inr (.inl (0, 500)), .inr (.inl (0, 500)), .inr (.inl (0, 5)), .inr (.inl (1, 15005)), .inr (.inl (0, 5))]) hR166 dX10_init_187 ac_int (by decide) (N := 5) (by decide) (Nat.le_of_ble_eq_true rfl) (Nat.le_of_ble_eq_true rfl) (Nat.le_of_ble_eq_true rfl) rfl rfl (by omega) rfl rfl (fun w169 hR170 hb171 => ?_)
  have hb172 : ∀ k, k < b → w169 k = w k := fun k hk => (hb171 k hk).trans (hb168 k hk)
  refine rg_pr (M := M_X10_init) (j := 0) (o := 21) (sh' := [.inl (9, [3, 4, 5, 6, 0, 0, 7, 8, 9, 10, 11, 12, 13, 14, 15, 16, 17, 18, 19, 20, 21, 22, 23, 1, 1, 1, 1, 1, 1, 0, 0, 1, 1, 0, 0, 0, 1, 0, 0, 0, 1, 0, 0, 1, 1, 1, 1, 0, 0, 0, 0, 1, 1, 0, 0]), .inr (.inl (0, 64)), .inr (.inl (0, 64)), .inr (.inl (0, 64)), .inr (.inl (0, 64)), .inr (.inl (1, 5)), .inr (.inl (0, 320)), .inr (.inl (0, 320)), .inr (.inl (0, 320)), .inr (.inl (0, 320)), .inr (.inl (0, 4000)), .inr (.inl (0, 4000)), .inr (.inl (0, 4000)), .inr (.inl (0, 4000)), .inr (.inl (0, 4000)), .inr (.inl (0, 5)), .inr (.inl (0, 500)), .inr (.inl (0, 500)), .inr (.inl (0, 500)), .inr (.inl (0, 5)), .inr (.inl (1, 15005)), .inr (.inl (0, 5))]) hR170 dX10_init_189 fl_X10_78 rfl (fun r q => by cases q; rfl) rfl (by decide) (fun _ => rfl) (fun _ => rfl) rfl (fun w173 hR174 hb175 => ?_)
  have hb176 : ∀ k, k < b → w173 k = w k := fun k hk => (hb175 k hk).trans (hb172 k hk)
  refine pm_aload_n dX10_init_192 rfl ?_
  refine pm_iconst (v := 5) dX10_init_193 (by decide) ?_
  refine rg_newi (M := M_X10_init) (len := 22) (sh' := [.inl (9, [3, 4, 5, 6, 0, 0, 7, 8, 9, 10, 11, 12, 13, 14, 15, 16, 17, 18, 19, 20, 21, 22, 23, 1, 1, 1, 1, 1, 1, 0, 0, 1, 1, 0, 0, 0, 1, 0, 0, 0, 1, 0, 0, 1, 1, 1, 1, 0, 0, 0, 0, 1, 1, 0, 0]), .inr (.inl (0, 64)), .inr (.inl (0, 64)), .inr (.inl (0, 64)), .inr (.inl (0, 64)), .inr (.inl (1, 5)), .inr (.inl (0, 320)), .inr (.inl (0, 320)), .inr (.inl (0, 320)), .inr (.inl (0, 320)), .inr (.inl (0, 4000)), .inr (.inl (0, 4000)), .inr (.inl (0, 4000)), .inr (.inl (0, 4000)), .inr (.inl (0, 4000)), .inr (.inl (0, 5)), .inr (.inl (0, 500)), .inr (.inl (0, 500)), .inr (.inl (0, 500)), .inr (.inl (0, 5)), .inr (.inl (1, 15005)), .inr (.inl (0, 5)), .inr (.inl (0, 5))]) hR174 dX10_init_194 ac_int (by decide) (N := 5) (by decide) (Nat.le_of_ble_eq_true rfl) (Nat.le_of_ble_eq_true rfl) (Nat.le_of_ble_eq_true rfl) rfl rfl (by omega) rfl rfl (fun w177 hR178 hb179 => ?_)
  have hb180 : ∀ k, k < b → w177 k = w k := fun k hk => (hb179 k hk).trans (hb176 k hk)
  refine rg_pr (M := M_X10_init) (j := 0) (o := 22) (sh' := [.inl (9, [3, 4, 5, 6, 0, 0, 7, 8, 9, 10, 11, 12, 13, 14, 15, 16, 17, 18, 19, 20, 21, 22, 23, 24, 1, 1, 1, 1, 1, 0, 0, 1, 1, 0, 0, 0, 1, 0, 0, 0, 1, 0, 0, 1, 1, 1, 1, 0, 0, 0, 0, 1, 1, 0, 0]), .inr (.inl (0, 64)), .inr (.inl (0, 64)), .inr (.inl (0, 64)), .inr (.inl (0, 64)), .inr (.inl (1, 5)), .inr (.inl (0, 320)), .inr (.inl (0, 320)), .inr (.inl (0, 320)), .inr (.inl (0, 320)), .inr (.inl (0, 4000)), .inr (.inl (0, 4000)), .inr (.inl (0, 4000)), .inr (.inl (0, 4000)), .inr (.inl (0, 4000)), .inr (.inl (0, 5)), .inr (.inl (0, 500)), .inr (.inl (0, 500)), .inr (.inl (0, 500)), .inr (.inl (0, 5)), .inr (.inl (1, 15005)), .inr (.inl (0, 5)), .inr (.inl (0, 5))]) hR178 dX10_init_196 fl_X10_81 rfl (fun r q => by cases q; rfl) rfl (by decide) (fun _ => rfl) (fun _ => rfl) rfl (fun w181 hR182 hb183 => ?_)
  have hb184 : ∀ k, k < b → w181 k = w k := fun k hk => (hb183 k hk).trans (hb180 k hk)
  refine pm_aload_n dX10_init_199 rfl ?_
  refine pm_iconst (v := 5) dX10_init_200 (by decide) ?_
  refine rg_newi (M := M_X10_init) (len := 23) (sh' := [.inl (9, [3, 4, 5, 6, 0, 0, 7, 8, 9, 10, 11, 12, 13, 14, 15, 16, 17, 18, 19, 20, 21, 22, 23, 24, 1, 1, 1, 1, 1, 0, 0, 1, 1, 0, 0, 0, 1, 0, 0, 0, 1, 0, 0, 1, 1, 1, 1, 0, 0, 0, 0, 1, 1, 0, 0]), .inr (.inl (0, 64)), .inr (.inl (0, 64)), .inr (.inl (0, 64)), .inr (.inl (0, 64)), .inr (.inl (1, 5)), .inr (.inl (0, 320)), .inr (.inl (0, 320)), .inr (.inl (0, 320)), .inr (.inl (0, 320)), .inr (.inl (0, 4000)), .inr (.inl (0, 4000)), .inr (.inl (0, 4000)), .inr (.inl (0, 4000)), .inr (.inl (0, 4000)), .inr (.inl (0, 5)), .inr (.inl (0, 500)), .inr (.inl (0, 500)), .inr (.inl (0, 500)), .inr (.inl (0, 5)), .inr (.inl (1, 15005)), .inr (.inl (0, 5)), .inr (.inl (0, 5)), .inr (.inl (0, 5))]) hR182 dX10_init_201 ac_int (by decide) (N := 5) (by decide) (Nat.le_of_ble_eq_true rfl) (Nat.le_of_ble_eq_true rfl) (Nat.le_of_ble_eq_true rfl) rfl rfl (by omega) rfl rfl (fun w185 hR186 hb187 => ?_)
  have hb188 : ∀ k, k < b → w185 k = w k := fun k hk => (hb187 k hk).trans (hb184 k hk)
  refine rg_pr (M := M_X10_init) (j := 0) (o := 23) (sh' := [.inl (9, [3, 4, 5, 6, 0, 0, 7, 8, 9, 10, 11, 12, 13, 14, 15, 16, 17, 18, 19, 20, 21, 22, 23, 24, 25, 1, 1, 1, 1, 0, 0, 1, 1, 0, 0, 0, 1, 0, 0, 0, 1, 0, 0, 1, 1, 1, 1, 0, 0, 0, 0, 1, 1, 0, 0]), .inr (.inl (0, 64)), .inr (.inl (0, 64)), .inr (.inl (0, 64)), .inr (.inl (0, 64)), .inr (.inl (1, 5)), .inr (.inl (0, 320)), .inr (.inl (0, 320)), .inr (.inl (0, 320)), .inr (.inl (0, 320)), .inr (.inl (0, 4000)), .inr (.inl (0, 4000)), .inr (.inl (0, 4000)), .inr (.inl (0, 4000)), .inr (.inl (0, 4000)), .inr (.inl (0, 5)), .inr (.inl (0, 500)), .inr (.inl (0, 500)), .inr (.inl (0, 500)), .inr (.inl (0, 5)), .inr (.inl (1, 15005)), .inr (.inl (0, 5)), .inr (.inl (0, 5)), .inr (.inl (0, 5))]) hR186 dX10_init_203 fl_X10_84 rfl (fun r q => by cases q; rfl) rfl (by decide) (fun _ => rfl) (fun _ => rfl) rfl (fun w189 hR190 hb191 => ?_)
  have hb192 : ∀ k, k < b → w189 k = w k := fun k hk => (hb191 k hk).trans (hb188 k hk)
  refine pm_aload_n dX10_init_206 rfl ?_
  refine pm_iconst (v := 5) dX10_init_207 (by decide) ?_
  refine rg_newi (M := M_X10_init) (len := 24) (sh' := [.inl (9, [3, 4, 5, 6, 0, 0, 7, 8, 9, 10, 11, 12, 13, 14, 15, 16, 17, 18, 19, 20, 21, 22, 23, 24, 25, 1, 1, 1, 1, 0, 0, 1, 1, 0, 0, 0, 1, 0, 0, 0, 1, 0, 0, 1, 1, 1, 1, 0, 0, 0, 0, 1, 1, 0, 0]), .inr (.inl (0, 64)), .inr (.inl (0, 64)), .inr (.inl (0, 64)), .inr (.inl (0, 64)), .inr (.inl (1, 5)), .inr (.inl (0, 320)), .inr (.inl (0, 320)), .inr (.inl (0, 320)), .inr (.inl (0, 320)), .inr (.inl (0, 4000)), .inr (.inl (0, 4000)), .inr (.inl (0, 4000)), .inr (.inl (0, 4000)), .inr (.inl (0, 4000)), .inr (.inl (0, 5)), .inr (.inl (0, 500)), .inr (.inl (0, 500)), .inr (.inl (0, 500)), .inr (.inl (0, 5)), .inr (.inl (1, 15005)), .inr (.inl (0, 5)), .inr (.inl (0, 5)), .inr (.inl (0, 5)), .inr (.inl (0, 5))]) hR190 dX10_init_208 ac_int (by decide) (N := 5) (by decide) (Nat.le_of_ble_eq_true rfl) (Nat.le_of_ble_eq_true rfl) (Nat.le_of_ble_eq_true rfl) rfl rfl (by omega) rfl rfl (fun w193 hR194 hb195 => ?_)
  have hb196 : ∀ k, k < b → w193 k = w k := fun k hk => (hb195 k hk).trans (hb192 k hk)
  refine rg_pr (M := M_X10_init) (j := 0) (o := 24) (sh' := [.inl (9, [3, 4, 5, 6, 0, 0, 7, 8, 9, 10, 11, 12, 13, 14, 15, 16, 17, 18, 19, 20, 21, 22, 23, 24, 25, 26, 1, 1, 1, 0, 0, 1, 1, 0, 0, 0, 1, 0, 0, 0, 1, 0, 0, 1, 1, 1, 1, 0, 0, 0, 0, 1, 1, 0, 0]), .inr (.inl (0, 64)), .inr (.inl (0, 64)), .inr (.inl (0, 64)), .inr (.inl (0, 64)), .inr (.inl (1, 5)), .inr (.inl (0, 320)), .inr (.inl (0, 320)), .inr (.inl (0, 320)), .inr (.inl (0, 320)), .inr (.inl (0, 4000)), .inr (.inl (0, 4000)), .inr (.inl (0, 4000)), .inr (.inl (0, 4000)), .inr (.inl (0, 4000)), .inr (.inl (0, 5)), .inr (.inl (0, 500)), .inr (.inl (0, 500)), .inr (.inl (0, 500)), .inr (.inl (0, 5)), .inr (.inl (1, 15005)), .inr (.inl (0, 5)), .inr (.inl (0, 5)), .inr (.inl (0, 5)), .inr (.inl (0, 5))]) hR194 dX10_init_210 fl_X10_87 rfl (fun r q => by cases q; rfl) rfl (by decide) (fun _ => rfl) (fun _ => rfl) rfl (fun w197 hR198 hb199 => ?_)
  have hb200 : ∀ k, k < b → w197 k = w k := fun k hk => (hb199 k hk).trans (hb196 k hk)
  refine pm_aload_n dX10_init_213 rfl ?_
  refine pm_iconst (v := 5) dX10_init_214 (by decide) ?_
  refine rg_newi (M := M_X10_init) (len := 25) (sh' := [.inl (9, [3, 4, 5, 6, 0, 0, 7, 8, 9, 10, 11, 12, 13, 14, 15, 16, 17, 18, 19, 20, 21, 22, 23, 24, 25, 26, 1, 1, 1, 0, 0, 1, 1, 0, 0, 0, 1, 0, 0, 0, 1, 0, 0, 1, 1, 1, 1, 0, 0, 0, 0, 1, 1, 0, 0]), .inr (.inl (0, 64)), .inr (.inl (0, 64)), .inr (.inl (0, 64)), .inr (.inl (0, 64)), .inr (.inl (1, 5)), .inr (.inl (0, 320)), .inr (.inl (0, 320)), .inr (.inl (0, 320)), .inr (.inl (0, 320)), .inr (.inl (0, 4000)), .inr (.inl (0, 4000)), .inr (.inl (0, 4000)), .inr (.inl (0, 4000)), .inr (.inl (0, 4000)), .inr (.inl (0, 5)), .inr (.inl (0, 500)), .inr (.inl (0, 500)), .inr (.inl (0, 500)), .inr (.inl (0, 5)), .inr (.inl (1, 15005)), .inr (.inl (0, 5)), .inr (.inl (0, 5)), .inr (.inl (0, 5)), .inr (.inl (0, 5)), .inr (.inl (0, 5))]) hR198 dX10_init_215 ac_int (by decide) (N := 5) (by decide) (Nat.le_of_ble_eq_true rfl) (Nat.le_of_ble_eq_true rfl) (Nat.le_of_ble_eq_true rfl) rfl rfl (by omega) rfl rfl (fun w201 hR202 hb203 => ?_)
  have hb204 : ∀ k, k < b → w201 k = w k := fun k hk => (hb203 k hk).trans (hb200 k hk)
  refine rg_pr (M := M_X10_init) (j := 0) (o := 25) (sh' := [.inl (9, [3, 4, 5, 6, 0, 0, 7, 8, 9, 10, 11, 12, 13, 14, 15, 16, 17, 18, 19, 20, 21, 22, 23, 24, 25, 26, 27, 1, 1, 0, 0, 1, 1, 0, 0, 0, 1, 0, 0, 0, 1, 0, 0, 1, 1, 1, 1, 0, 0, 0, 0, 1, 1, 0, 0]), .inr (.inl (0, 64)), .inr (.inl (0, 64)), .inr (.inl (0, 64)), .inr (.inl (0, 64)), .inr (.inl (1, 5)), .inr (.inl (0, 320)), .inr (.inl (0, 320)), .inr (.inl (0, 320)), .inr (.inl (0, 320)), .inr (.inl (0, 4000)), .inr (.inl (0, 4000)), .inr (.inl (0, 4000)), .inr (.inl (0, 4000)), .inr (.inl (0, 4000)), .inr (.inl (0, 5)), .inr (.inl (0, 500)), .inr (.inl (0, 500)), .inr (.inl (0, 500)), .inr (.inl (0, 5)), .inr (.inl (1, 15005)), .inr (.inl (0, 5)), .inr (.inl (0, 5)), .inr (.inl (0, 5)), .inr (.inl (0, 5)), .inr (.inl (0, 5))]) hR202 dX10_init_217 fl_X10_90 rfl (fun r q => by cases q; rfl) rfl (by decide) (fun _ => rfl) (fun _ => rfl) rfl (fun w205 hR206 hb207 => ?_)
  have hb208 : ∀ k, k < b → w205 k = w k := fun k hk => (hb207 k hk).trans (hb204 k hk)
  refine pm_aload_n dX10_init_220 rfl ?_
  refine pm_iconst (v := 5) dX10_init_221 (by decide) ?_
  refine rg_newi (M := M_X10_init) (len := 26) (sh' := [.inl (9, [3, 4, 5, 6, 0, 0, 7, 8, 9, 10, 11, 12, 13, 14, 15, 16, 17, 18, 19, 20, 21, 22, 23, 24, 25, 26, 27, 1, 1, 0, 0, 1, 1, 0, 0, 0, 1, 0, 0, 0, 1, 0, 0, 1, 1, 1, 1, 0, 0, 0, 0, 1, 1, 0, 0]), .inr (.inl (0, 64)), .inr (.inl (0, 64)), .inr (.inl (0, 64)), .inr (.inl (0, 64)), .inr (.inl (1, 5)), .inr (.inl (0, 320)), .inr (.inl (0, 320)), .inr (.inl (0, 320)), .inr (.inl (0, 320)), .inr (.inl (0, 4000)), .inr (.inl (0, 4000)), .inr (.inl (0, 4000)), .inr (.inl (0, 4000)), .inr (.inl (0, 4000)), .inr (.inl (0, 5)), .inr (.inl (0, 500)), .inr (.inl (0, 500)), .inr (.inl (0, 500)), .inr (.inl (0, 5)), .inr (.inl (1, 15005)), .inr (.inl (0, 5)), .inr (.inl (0, 5)), .inr (.inl (0, 5)), .inr (.inl (0, 5)), .inr (.inl (0, 5)), .inr (.inl (0, 5))]) hR206 dX10_init_222 ac_int (by decide) (N := 5) (by decide) (Nat.le_of_ble_eq_true rfl) (Nat.le_of_ble_eq_true rfl) (Nat.le_of_ble_eq_true rfl) rfl rfl (by omega) rfl rfl (fun w209 hR210 hb211 => ?_)
  have hb212 : ∀ k, k < b → w209 k = w k := fun k hk => (hb211 k hk).trans (hb208 k hk)
  refine rg_pr (M := M_X10_init) (j := 0) (o := 26) (sh' := [.inl (9, [3, 4, 5, 6, 0, 0, 7, 8, 9, 10, 11, 12, 13, 14, 15, 16, 17, 18, 19, 20, 21, 22, 23, 24, 25, 26, 27, 28, 1, 0, 0, 1, 1, 0, 0, 0, 1, 0, 0, 0, 1, 0, 0, 1, 1, 1, 1, 0, 0, 0, 0, 1, 1, 0, 0]), .inr (.inl (0, 64)), .inr (.inl (0, 64)), .inr (.inl (0, 64)), .inr (.inl (0, 64)), .inr (.inl (1, 5)), .inr (.inl (0, 320)), .inr (.inl (0, 320)), .inr (.inl (0, 320)), .inr (.inl (0, 320)), .inr (.inl (0, 4000)), .inr (.inl (0, 4000)), .inr (.inl (0, 4000)), .inr (.inl (0, 4000)), .inr (.inl (0, 4000)), .inr (.inl (0, 5)), .inr (.inl (0, 500)), .inr (.inl (0, 500)), .inr (.inl (0, 500)), .inr (.inl (0, 5)), .inr (.inl (1, 15005)), .inr (.inl (0, 5)), .inr (.inl (0, 5)), .inr (.inl (0, 5)), .inr (.inl (0, 5)), .inr (.inl (0, 5)), .inr (.inl (0, 5))]) hR210 dX10_init_224 fl_X10_93 rfl (fun r q => by cases q; rfl) rfl (by decide) (fun _ => rfl) (fun _ => rfl) rfl (fun w213 hR214 hb215 => ?_)
  have hb216 : ∀ k, k < b → w213 k = w k := fun k hk => (hb215 k hk).trans (hb212 k hk)
  refine pm_aload_n dX10_init_227 rfl ?_
  refine pm_iconst (v := 5) dX10_init_228 (by decide) ?_
  refine rg_newi (M := M_X10_init) (len := 27) (sh' := [.inl (9, [3, 4, 5, 6, 0, 0, 7, 8, 9, 10, 11, 12, 13, 14, 15, 16, 17, 18, 19, 20, 21, 22, 23, 24, 25, 26, 27, 28, 1, 0, 0, 1, 1, 0, 0, 0, 1, 0, 0, 0, 1, 0, 0, 1, 1, 1, 1, 0, 0, 0, 0, 1, 1, 0, 0]), .inr (.inl (0, 64)), .inr (.inl (0, 64)), .inr (.inl (0, 64)), .inr (.inl (0, 64)), .inr (.inl (1, 5)), .inr (.inl (0, 320)), .inr (.inl (0, 320)), .inr (.inl (0, 320)), .inr (.inl (0, 320)), .inr (.inl (0, 4000)), .inr (.inl (0, 4000)), .inr (.inl (0, 4000)), .inr (.inl (0, 4000)), .inr (.inl (0, 4000)), .inr (.inl (0, 5)), .inr (.inl (0, 500)), .inr (.inl (0, 500)), .inr (.inl (0, 500)), .inr (.inl (0, 5)), .inr (.inl (1, 15005)), .inr (.inl (0, 5)), .inr (.inl (0, 5)), .inr (.inl (0, 5)), .inr (.inl (0, 5)), .inr (.inl (0, 5)), .inr (.inl (0, 5)), .inr (.inl (0, 5))]) hR214 dX10_init_229 ac_int (by decide) (N := 5) (by decide) (Nat.le_of_ble_eq_true rfl) (Nat.le_of_ble_eq_true rfl) (Nat.le_of_ble_eq_true rfl) rfl rfl (by omega) rfl rfl (fun w217 hR218 hb219 => ?_)
  have hb220 : ∀ k, k < b → w217 k = w k := fun k hk => (hb219 k hk).trans (hb216 k hk)
  refine rg_pr (M := M_X10_init) (j := 0) (o := 27) (sh' := [.inl (9, [3, 4, 5, 6, 0, 0, 7, 8, 9, 10, 11, 12, 13, 14, 15, 16, 17, 18, 19, 20, 21, 22, 23, 24, 25, 26, 27, 28, 29, 0, 0, 1, 1, 0, 0, 0, 1, 0, 0, 0, 1, 0, 0, 1, 1, 1, 1, 0, 0, 0, 0, 1, 1, 0, 0]), .inr (.inl (0, 64)), .inr (.inl (0, 64)), .inr (.inl (0, 64)), .inr (.inl (0, 64)), .inr (.inl (1, 5)), .inr (.inl (0, 320)), .inr (.inl (0, 320)), .inr (.inl (0, 320)), .inr (.inl (0, 320)), .inr (.inl (0, 4000)), .inr (.inl (0, 4000)), .inr (.inl (0, 4000)), .inr (.inl (0, 4000)), .inr (.inl (0, 4000)), .inr (.inl (0, 5)), .inr (.inl (0, 500)), .inr (.inl (0, 500)), .inr (.inl (0, 500)), .inr (.inl (0, 5)), .inr (.inl (1, 15005)), .inr (.inl (0, 5)), .inr (.inl (0, 5)), .inr (.inl (0, 5)), .inr (.inl (0, 5)), .inr (.inl (0, 5)), .inr (.inl (0, 5)), .inr (.inl (0, 5))]) hR218 dX10_init_231 fl_X10_96 rfl (fun r q => by cases q; rfl) rfl (by decide) (fun _ => rfl) (fun _ => rfl) rfl (fun w221 hR222 hb223 => ?_)
  have hb224 : ∀ k, k < b → w221 k = w k := fun k hk => (hb223 k hk).trans (hb220 k hk)
  refine pm_aload_n dX10_init_234 rfl ?_
  refine pm_iconst (v := (-1)) dX10_init_235 (by decide) ?_
  refine rg_pi (j := 0) hR222 dX10_init_236 fl_X10_99 rfl rfl (fun w225 hR226 hk227 => ?_)
  have hb228 : ∀ k, k < b → w225 k = w k := fun q hq => (hk227 q (Or.inl hq)).trans (hb224 q hq)
  refine pm_aload_n dX10_init_239 rfl ?_
  refine pm_sipush (v := 134) dX10_init_240 (by decide) ?_
  refine rg_newi (M := M_X10_init) (len := 28) (sh' := [.inl (9, [3, 4, 5, 6, 0, 0, 7, 8, 9, 10, 11, 12, 13, 14, 15, 16, 17, 18, 19, 20, 21, 22, 23, 24, 25, 26, 27, 28, 29, 0, 0, 1, 1, 0, 0, 0, 1, 0, 0, 0, 1, 0, 0, 1, 1, 1, 1, 0, 0, 0, 0, 1, 1, 0, 0]), .inr (.inl (0, 64)), .inr (.inl (0, 64)), .inr (.inl (0, 64)), .inr (.inl (0, 64)), .inr (.inl (1, 5)), .inr (.inl (0, 320)), .inr (.inl (0, 320)), .inr (.inl (0, 320)), .inr (.inl (0, 320)), .inr (.inl (0, 4000)), .inr (.inl (0, 4000)), .inr (.inl (0, 4000)), .inr (.inl (0, 4000)), .inr (.inl (0, 4000)), .inr (.inl (0, 5)), .inr (.inl (0, 500)), .inr (.inl (0, 500)), .inr (.inl (0, 500)), .inr (.inl (0, 5)), .inr (.inl (1, 15005)), .inr (.inl (0, 5)), .inr (.inl (0, 5)), .inr (.inl (0, 5)), .inr (.inl (0, 5)), .inr (.inl (0, 5)), .inr (.inl (0, 5)), .inr (.inl (0, 5)), .inr (.inl (0, 134))]) hR226 dX10_init_243 ac_int (by decide) (N := 134) (by decide) (Nat.le_of_ble_eq_true rfl) (Nat.le_of_ble_eq_true rfl) (Nat.le_of_ble_eq_true rfl) rfl rfl (by omega) rfl rfl (fun w229 hR230 hb231 => ?_)
  have hb232 : ∀ k, k < b → w229 k = w k := fun k hk => (hb231 k hk).trans (hb228 k hk)
  refine rg_pr (M := M_X10_init) (j := 0) (o := 28) (sh' := [.inl (9, [3, 4, 5, 6, 0, 0, 7, 8, 9, 10, 11, 12, 13, 14, 15, 16, 17, 18, 19, 20, 21, 22, 23, 24, 25, 26, 27, 28, 29, 0, 0, 30, 1, 0, 0, 0, 1, 0, 0, 0, 1, 0, 0, 1, 1, 1, 1, 0, 0, 0, 0, 1, 1, 0, 0]), .inr (.inl (0, 64)), .inr (.inl (0, 64)), .inr (.inl (0, 64)), .inr (.inl (0, 64)), .inr (.inl (1, 5)), .inr (.inl (0, 320)), .inr (.inl (0, 320)), .inr (.inl (0, 320)), .inr (.inl (0, 320)), .inr (.inl (0, 4000)), .inr (.inl (0, 4000)), .inr (.inl (0, 4000)), .inr (.inl (0, 4000)), .inr (.inl (0, 4000)), .inr (.inl (0, 5)), .inr (.inl (0, 500)), .inr (.inl (0, 500)), .inr (.inl (0, 500)), .inr (.inl (0, 5)), .inr (.inl (1, 15005)), .inr (.inl (0, 5)), .inr (.inl (0, 5)), .inr (.inl (0, 5)), .inr (.inl (0, 5)), .inr (.inl (0, 5)), .inr (.inl (0, 5)), .inr (.inl (0, 5)), .inr (.inl (0, 134))]) hR230 dX10_init_245 fl_X10_102 rfl (fun r q => by cases q; rfl) rfl (by decide) (fun _ => rfl) (fun _ => rfl) rfl (fun w233 hR234 hb235 => ?_)
  have hb236 : ∀ k, k < b → w233 k = w k := fun k hk => (hb235 k hk).trans (hb232 k hk)
  refine pm_aload_n dX10_init_248 rfl ?_
  refine pm_sipush (v := 1000) dX10_init_249 (by decide) ?_
  refine rg_newi (M := M_X10_init) (len := 29) (sh' := [.inl (9, [3, 4, 5, 6, 0, 0, 7, 8, 9, 10, 11, 12, 13, 14, 15, 16, 17, 18, 19, 20, 21, 22, 23, 24, 25, 26, 27, 28, 29, 0, 0, 30, 1, 0, 0, 0, 1, 0, 0, 0, 1, 0, 0, 1, 1, 1, 1, 0, 0, 0, 0, 1, 1, 0, 0]), .inr (.inl (0, 64)), .inr (.inl (0, 64)), .inr (.inl (0, 64)), .inr (.inl (0, 64)), .inr (.inl (1, 5)), .inr (.inl (0, 320)), .inr (.inl (0, 320)), .inr (.inl (0, 320)), .inr (.inl (0, 320)), .inr (.inl (0, 4000)), .inr (.inl (0, 4000)), .inr (.inl (0, 4000)), .inr (.inl (0, 4000)), .inr (.inl (0, 4000)), .inr (.inl (0, 5)), .inr (.inl (0, 500)), .inr (.inl (0, 500)), .inr (.inl (0, 500)), .inr (.inl (0, 5)), .inr (.inl (1, 15005)), .inr (.inl (0, 5)), .inr (.inl (0, 5)), .inr (.inl (0, 5)), .inr (.inl (0, 5)), .inr (.inl (0, 5)), .inr (.inl (0, 5)), .inr (.inl (0, 5)), .inr (.inl (0, 134)), .inr (.inl (0, 1000))]) hR234 dX10_init_252 ac_int (by decide) (N := 1000) (by decide) (Nat.le_of_ble_eq_true rfl) (Nat.le_of_ble_eq_true rfl) (Nat.le_of_ble_eq_true rfl) rfl rfl (by omega) rfl rfl (fun w237 hR238 hb239 => ?_)
  have hb240 : ∀ k, k < b → w237 k = w k := fun k hk => (hb239 k hk).trans (hb236 k hk)
  refine rg_pr (M := M_X10_init) (j := 0) (o := 29) (sh' := [.inl (9, [3, 4, 5, 6, 0, 0, 7, 8, 9, 10, 11, 12, 13, 14, 15, 16, 17, 18, 19, 20, 21, 22, 23, 24, 25, 26, 27, 28, 29, 0, 0, 30, 31, 0, 0, 0, 1, 0, 0, 0, 1, 0, 0, 1, 1, 1, 1, 0, 0, 0, 0, 1, 1, 0, 0]), .inr (.inl (0, 64)), .inr (.inl (0, 64)), .inr (.inl (0, 64)), .inr (.inl (0, 64)), .inr (.inl (1, 5)), .inr (.inl (0, 320)), .inr (.inl (0, 320)), .inr (.inl (0, 320)), .inr (.inl (0, 320)), .inr (.inl (0, 4000)), .inr (.inl (0, 4000)), .inr (.inl (0, 4000)), .inr (.inl (0, 4000)), .inr (.inl (0, 4000)), .inr (.inl (0, 5)), .inr (.inl (0, 500)), .inr (.inl (0, 500)), .inr (.inl (0, 500)), .inr (.inl (0, 5)), .inr (.inl (1, 15005)), .inr (.inl (0, 5)), .inr (.inl (0, 5)), .inr (.inl (0, 5)), .inr (.inl (0, 5)), .inr (.inl (0, 5)), .inr (.inl (0, 5)), .inr (.inl (0, 5)), .inr (.inl (0, 134)), .inr (.inl (0, 1000))]) hR238 dX10_init_254 fl_X10_105 rfl (fun r q => by cases q; rfl) rfl (by decide) (fun _ => rfl) (fun _ => rfl) rfl (fun w241 hR242 hb243 => ?_)
  have hb244 : ∀ k, k < b → w241 k = w k := fun k hk => (hb243 k hk).trans (hb240 k hk)
  refine pm_aload_n dX10_init_257 rfl ?_
  refine pm_iconst (v := 1) dX10_init_258 (by decide) ?_
  refine rg_pi (j := 0) hR242 dX10_init_259 fl_X10_108 rfl rfl (fun w245 hR246 hk247 => ?_)
  have hb248 : ∀ k, k < b → w245 k = w k := fun q hq => (hk247 q (Or.inl hq)).trans (hb244 q hq)
  refine pm_aload_n dX10_init_262 rfl ?_
  refine pm_bipush (v := 40) dX10_init_263 (by decide) ?_
  refine rg_newz (M := M_X10_init) (len := 30) (sh' := [.inl (9, [3, 4, 5, 6, 0, 0, 7, 8, 9, 10, 11, 12, 13, 14, 15, 16, 17, 18, 19, 20, 21, 22, 23, 24, 25, 26, 27, 28, 29, 0, 0, 30, 31, 0, 0, 0, 1, 0, 0, 0, 1, 0, 0, 1, 1, 1, 1, 0, 0, 0, 0, 1, 1, 0, 0]), .inr (.inl (0, 64)), .inr (.inl (0, 64)), .inr (.inl (0, 64)), .inr (.inl (0, 64)), .inr (.inl (1, 5)), .inr (.inl (0, 320)), .inr (.inl (0, 320)), .inr (.inl (0, 320)), .inr (.inl (0, 320)), .inr (.inl (0, 4000)), .inr (.inl (0, 4000)), .inr (.inl (0, 4000)), .inr (.inl (0, 4000)), .inr (.inl (0, 4000)), .inr (.inl (0, 5)), .inr (.inl (0, 500)), .inr (.inl (0, 500)), .inr (.inl (0, 500)), .inr (.inl (0, 5)), .inr (.inl (1, 15005)), .inr (.inl (0, 5)), .inr (.inl (0, 5)), .inr (.inl (0, 5)), .inr (.inl (0, 5)), .inr (.inl (0, 5)), .inr (.inl (0, 5)), .inr (.inl (0, 5)), .inr (.inl (0, 134)), .inr (.inl (0, 1000)), .inr (.inl (1, 40))]) hR246 dX10_init_265 ac_boolean (by decide) (N := 40) (by decide) (Nat.le_of_ble_eq_true rfl) (Nat.le_of_ble_eq_true rfl) (Nat.le_of_ble_eq_true rfl) rfl rfl (by omega) rfl rfl (fun w249 hR250 hb251 => ?_)
  have hb252 : ∀ k, k < b → w249 k = w k := fun k hk => (hb251 k hk).trans (hb248 k hk)
  refine rg_pr (M := M_X10_init) (j := 0) (o := 30) (sh' := [.inl (9, [3, 4, 5, 6, 0, 0, 7, 8, 9, 10, 11, 12, 13, 14, 15, 16, 17, 18, 19, 20, 21, 22, 23, 24, 25, 26, 27, 28, 29, 0, 0, 30, 31, 0, 0, 0, 32, 0, 0, 0, 1, 0, 0, 1, 1, 1, 1, 0, 0, 0, 0, 1, 1, 0, 0]), .inr (.inl (0, 64)), .inr (.inl (0, 64)), .inr (.inl (0, 64)), .inr (.inl (0, 64)), .inr (.inl (1, 5)), .inr (.inl (0, 320)), .inr (.inl (0, 320)), .inr (.inl (0, 320)), .inr (.inl (0, 320)), .inr (.inl (0, 4000)), .inr (.inl (0, 4000)), .inr (.inl (0, 4000)), .inr (.inl (0, 4000)), .inr (.inl (0, 4000)), .inr (.inl (0, 5)), .inr (.inl (0, 500)), .inr (.inl (0, 500)), .inr (.inl (0, 500)), .inr (.inl (0, 5)), .inr (.inl (1, 15005)), .inr (.inl (0, 5)), .inr (.inl (0, 5)), .inr (.inl (0, 5)), .inr (.inl (0, 5)), .inr (.inl (0, 5)), .inr (.inl (0, 5)), .inr (.inl (0, 5)), .inr (.inl (0, 134)), .inr (.inl (0, 1000)), .inr (.inl (1, 40))]) hR250 dX10_init_267 fl_X10_111 rfl (fun r q => by cases q; rfl) rfl (by decide) (fun _ => rfl) (fun _ => rfl) rfl (fun w253 hR254 hb255 => ?_)
  have hb256 : ∀ k, k < b → w253 k = w k := fun k hk => (hb255 k hk).trans (hb252 k hk)
  refine pm_aload_n dX10_init_270 rfl ?_
  refine pm_sipush (v := 134) dX10_init_271 (by decide) ?_
  refine rg_newi (M := M_X10_init) (len := 31) (sh' := [.inl (9, [3, 4, 5, 6, 0, 0, 7, 8, 9, 10, 11, 12, 13, 14, 15, 16, 17, 18, 19, 20, 21, 22, 23, 24, 25, 26, 27, 28, 29, 0, 0, 30, 31, 0, 0, 0, 32, 0, 0, 0, 1, 0, 0, 1, 1, 1, 1, 0, 0, 0, 0, 1, 1, 0, 0]), .inr (.inl (0, 64)), .inr (.inl (0, 64)), .inr (.inl (0, 64)), .inr (.inl (0, 64)), .inr (.inl (1, 5)), .inr (.inl (0, 320)), .inr (.inl (0, 320)), .inr (.inl (0, 320)), .inr (.inl (0, 320)), .inr (.inl (0, 4000)), .inr (.inl (0, 4000)), .inr (.inl (0, 4000)), .inr (.inl (0, 4000)), .inr (.inl (0, 4000)), .inr (.inl (0, 5)), .inr (.inl (0, 500)), .inr (.inl (0, 500)), .inr (.inl (0, 500)), .inr (.inl (0, 5)), .inr (.inl (1, 15005)), .inr (.inl (0, 5)), .inr (.inl (0, 5)), .inr (.inl (0, 5)), .inr (.inl (0, 5)), .inr (.inl (0, 5)), .inr (.inl (0, 5)), .inr (.inl (0, 5)), .inr (.inl (0, 134)), .inr (.inl (0, 1000)), .inr (.inl (1, 40)), .inr (.inl (0, 134))]) hR254 dX10_init_274 ac_int (by decide) (N := 134) (by decide) (Nat.le_of_ble_eq_true rfl) (Nat.le_of_ble_eq_true rfl) (Nat.le_of_ble_eq_true rfl) rfl rfl (by omega) rfl rfl (fun w257 hR258 hb259 => ?_)
  have hb260 : ∀ k, k < b → w257 k = w k := fun k hk => (hb259 k hk).trans (hb256 k hk)
  refine rg_pr (M := M_X10_init) (j := 0) (o := 31) (sh' := [.inl (9, [3, 4, 5, 6, 0, 0, 7, 8, 9, 10, 11, 12, 13, 14, 15, 16, 17, 18, 19, 20, 21, 22, 23, 24, 25, 26, 27, 28, 29, 0, 0, 30, 31, 0, 0, 0, 32, 0, 0, 0, 33, 0, 0, 1, 1, 1, 1, 0, 0, 0, 0, 1, 1, 0, 0]), .inr (.inl (0, 64)), .inr (.inl (0, 64)), .inr (.inl (0, 64)), .inr (.inl (0, 64)), .inr (.inl (1, 5)), .inr (.inl (0, 320)), .inr (.inl (0, 320)), .inr (.inl (0, 320)), .inr (.inl (0, 320)), .inr (.inl (0, 4000)), .inr (.inl (0, 4000)), .inr (.inl (0, 4000)), .inr (.inl (0, 4000)), .inr (.inl (0, 4000)), .inr (.inl (0, 5)), .inr (.inl (0, 500)), .inr (.inl (0, 500)), .inr (.inl (0, 500)), .inr (.inl (0, 5)), .inr (.inl (1, 15005)), .inr (.inl (0, 5)), .inr (.inl (0, 5)), .inr (.inl (0, 5)), .inr (.inl (0, 5)), .inr (.inl (0, 5)), .inr (.inl (0, 5)), .inr (.inl (0, 5)), .inr (.inl (0, 134)), .inr (.inl (0, 1000)), .inr (.inl (1, 40)), .inr (.inl (0, 134))]) hR258 dX10_init_276 fl_X10_114 rfl (fun r q => by cases q; rfl) rfl (by decide) (fun _ => rfl) (fun _ => rfl) rfl (fun w261 hR262 hb263 => ?_)
  have hb264 : ∀ k, k < b → w261 k = w k := fun k hk => (hb263 k hk).trans (hb260 k hk)
  refine pm_aload_n dX10_init_279 rfl ?_
  refine pm_iconst (v := (-1)) dX10_init_280 (by decide) ?_
  refine rg_pi (j := 0) hR262 dX10_init_281 fl_X10_117 rfl rfl (fun w265 hR266 hk267 => ?_)
  have hb268 : ∀ k, k < b → w265 k = w k := fun q hq => (hk267 q (Or.inl hq)).trans (hb264 q hq)
  refine pm_aload_n dX10_init_284 rfl ?_
  refine pm_bipush (v := 40) dX10_init_285 (by decide) ?_
  refine rg_newi (M := M_X10_init) (len := 32) (sh' := [.inl (9, [3, 4, 5, 6, 0, 0, 7, 8, 9, 10, 11, 12, 13, 14, 15, 16, 17, 18, 19, 20, 21, 22, 23, 24, 25, 26, 27, 28, 29, 0, 0, 30, 31, 0, 0, 0, 32, 0, 0, 0, 33, 0, 0, 1, 1, 1, 1, 0, 0, 0, 0, 1, 1, 0, 0]), .inr (.inl (0, 64)), .inr (.inl (0, 64)), .inr (.inl (0, 64)), .inr (.inl (0, 64)), .inr (.inl (1, 5)), .inr (.inl (0, 320)), .inr (.inl (0, 320)), .inr (.inl (0, 320)), .inr (.inl (0, 320)), .inr (.inl (0, 4000)), .inr (.inl (0, 4000)), .inr (.inl (0, 4000)), .inr (.inl (0, 4000)), .inr (.inl (0, 4000)), .inr (.inl (0, 5)), .inr (.inl (0, 500)), .inr (.inl (0, 500)), .inr (.inl (0, 500)), .inr (.inl (0, 5)), .inr (.inl (1, 15005)), .inr (.inl (0, 5)), .inr (.inl (0, 5)), .inr (.inl (0, 5)), .inr (.inl (0, 5)), .inr (.inl (0, 5)), .inr (.inl (0, 5)), .inr (.inl (0, 5)), .inr (.inl (0, 134)), .inr (.inl (0, 1000)), .inr (.inl (1, 40)), .inr (.inl (0, 134)), .inr (.inl (0, 40))]) hR266 dX10_init_287 ac_int (by decide) (N := 40) (by decide) (Nat.le_of_ble_eq_true rfl) (Nat.le_of_ble_eq_true rfl) (Nat.le_of_ble_eq_true rfl) rfl rfl (by omega) rfl rfl (fun w269 hR270 hb271 => ?_)
  have hb272 : ∀ k, k < b → w269 k = w k := fun k hk => (hb271 k hk).trans (hb268 k hk)
  refine rg_pr (M := M_X10_init) (j := 0) (o := 32) (sh' := [.inl (9, [3, 4, 5, 6, 0, 0, 7, 8, 9, 10, 11, 12, 13, 14, 15, 16, 17, 18, 19, 20, 21, 22, 23, 24, 25, 26, 27, 28, 29, 0, 0, 30, 31, 0, 0, 0, 32, 0, 0, 0, 33, 0, 0, 34, 1, 1, 1, 0, 0, 0, 0, 1, 1, 0, 0]), .inr (.inl (0, 64)), .inr (.inl (0, 64)), .inr (.inl (0, 64)), .inr (.inl (0, 64)), .inr (.inl (1, 5)), .inr (.inl (0, 320)), .inr (.inl (0, 320)), .inr (.inl (0, 320)), .inr (.inl (0, 320)), .inr (.inl (0, 4000)), .inr (.inl (0, 4000)), .inr (.inl (0, 4000)), .inr (.inl (0, 4000)), .inr (.inl (0, 4000)), .inr (.inl (0, 5)), .inr (.inl (0, 500)), .inr (.inl (0, 500)), .inr (.inl (0, 500)), .inr (.inl (0, 5)), .inr (.inl (1, 15005)), .inr (.inl (0, 5)), .inr (.inl (0, 5)), .inr (.inl (0, 5)), .inr (.inl (0, 5)), .inr (.inl (0, 5)), .inr (.inl (0, 5)), .inr (.inl (0, 5)), .inr (.inl (0, 134)), .inr (.inl (0, 1000)), .inr (.inl (1, 40)), .inr (.inl (0, 134)), .inr (.inl (0, 40))]) hR270 dX10_init_289 fl_X10_120 rfl (fun r q => by cases q; rfl) rfl (by decide) (fun _ => rfl) (fun _ => rfl) rfl (fun w273 hR274 hb275 => ?_)
  have hb276 : ∀ k, k < b → w273 k = w k := fun k hk => (hb275 k hk).trans (hb272 k hk)
  refine pm_aload_n dX10_init_292 rfl ?_
  refine pm_sipush (v := 4760) dX10_init_293 (by decide) ?_
  refine rg_newi (M := M_X10_init) (len := 33) (sh' := [.inl (9, [3, 4, 5, 6, 0, 0, 7, 8, 9, 10, 11, 12, 13, 14, 15, 16, 17, 18, 19, 20, 21, 22, 23, 24, 25, 26, 27, 28, 29, 0, 0, 30, 31, 0, 0, 0, 32, 0, 0, 0, 33, 0, 0, 34, 1, 1, 1, 0, 0, 0, 0, 1, 1, 0, 0]), .inr (.inl (0, 64)), .inr (.inl (0, 64)), .inr (.inl (0, 64)), .inr (.inl (0, 64)), .inr (.inl (1, 5)), .inr (.inl (0, 320)), .inr (.inl (0, 320)), .inr (.inl (0, 320)), .inr (.inl (0, 320)), .inr (.inl (0, 4000)), .inr (.inl (0, 4000)), .inr (.inl (0, 4000)), .inr (.inl (0, 4000)), .inr (.inl (0, 4000)), .inr (.inl (0, 5)), .inr (.inl (0, 500)), .inr (.inl (0, 500)), .inr (.inl (0, 500)), .inr (.inl (0, 5)), .inr (.inl (1, 15005)), .inr (.inl (0, 5)), .inr (.inl (0, 5)), .inr (.inl (0, 5)), .inr (.inl (0, 5)), .inr (.inl (0, 5)), .inr (.inl (0, 5)), .inr (.inl (0, 5)), .inr (.inl (0, 134)), .inr (.inl (0, 1000)), .inr (.inl (1, 40)), .inr (.inl (0, 134)), .inr (.inl (0, 40)), .inr (.inl (0, 4760))]) hR274 dX10_init_296 ac_int (by decide) (N := 4760) (by decide) (Nat.le_of_ble_eq_true rfl) (Nat.le_of_ble_eq_true rfl) (Nat.le_of_ble_eq_true rfl) rfl rfl (by omega) rfl rfl (fun w277 hR278 hb279 => ?_)
  have hb280 : ∀ k, k < b → w277 k = w k := fun k hk => (hb279 k hk).trans (hb276 k hk)
  refine rg_pr (M := M_X10_init) (j := 0) (o := 33) (sh' := [.inl (9, [3, 4, 5, 6, 0, 0, 7, 8, 9, 10, 11, 12, 13, 14, 15, 16, 17, 18, 19, 20, 21, 22, 23, 24, 25, 26, 27, 28, 29, 0, 0, 30, 31, 0, 0, 0, 32, 0, 0, 0, 33, 0, 0, 34, 35, 1, 1, 0, 0, 0, 0, 1, 1, 0, 0]), .inr (.inl (0, 64)), .inr (.inl (0, 64)), .inr (.inl (0, 64)), .inr (.inl (0, 64)), .inr (.inl (1, 5)), .inr (.inl (0, 320)), .inr (.inl (0, 320)), .inr (.inl (0, 320)), .inr (.inl (0, 320)), .inr (.inl (0, 4000)), .inr (.inl (0, 4000)), .inr (.inl (0, 4000)), .inr (.inl (0, 4000)), .inr (.inl (0, 4000)), .inr (.inl (0, 5)), .inr (.inl (0, 500)), .inr (.inl (0, 500)), .inr (.inl (0, 500)), .inr (.inl (0, 5)), .inr (.inl (1, 15005)), .inr (.inl (0, 5)), .inr (.inl (0, 5)), .inr (.inl (0, 5)), .inr (.inl (0, 5)), .inr (.inl (0, 5)), .inr (.inl (0, 5)), .inr (.inl (0, 5)), .inr (.inl (0, 134)), .inr (.inl (0, 1000)), .inr (.inl (1, 40)), .inr (.inl (0, 134)), .inr (.inl (0, 40)), .inr (.inl (0, 4760))]) hR278 dX10_init_298 fl_X10_123 rfl (fun r q => by cases q; rfl) rfl (by decide) (fun _ => rfl) (fun _ => rfl) rfl (fun w281 hR282 hb283 => ?_)
  have hb284 : ∀ k, k < b → w281 k = w k := fun k hk => (hb283 k hk).trans (hb280 k hk)
  refine pm_aload_n dX10_init_301 rfl ?_
  refine pm_bipush (v := 119) dX10_init_302 (by decide) ?_
  refine rg_newi (M := M_X10_init) (len := 34) (sh' := [.inl (9, [3, 4, 5, 6, 0, 0, 7, 8, 9, 10, 11, 12, 13, 14, 15, 16, 17, 18, 19, 20, 21, 22, 23, 24, 25, 26, 27, 28, 29, 0, 0, 30, 31, 0, 0, 0, 32, 0, 0, 0, 33, 0, 0, 34, 35, 1, 1, 0, 0, 0, 0, 1, 1, 0, 0]), .inr (.inl (0, 64)), .inr (.inl (0, 64)), .inr (.inl (0, 64)), .inr (.inl (0, 64)), .inr (.inl (1, 5)), .inr (.inl (0, 320)), .inr (.inl (0, 320)), .inr (.inl (0, 320)), .inr (.inl (0, 320)), .inr (.inl (0, 4000)), .inr (.inl (0, 4000)), .inr (.inl (0, 4000)), .inr (.inl (0, 4000)), .inr (.inl (0, 4000)), .inr (.inl (0, 5)), .inr (.inl (0, 500)), .inr (.inl (0, 500)), .inr (.inl (0, 500)), .inr (.inl (0, 5)), .inr (.inl (1, 15005)), .inr (.inl (0, 5)), .inr (.inl (0, 5)), .inr (.inl (0, 5)), .inr (.inl (0, 5)), .inr (.inl (0, 5)), .inr (.inl (0, 5)), .inr (.inl (0, 5)), .inr (.inl (0, 134)), .inr (.inl (0, 1000)), .inr (.inl (1, 40)), .inr (.inl (0, 134)), .inr (.inl (0, 40)), .inr (.inl (0, 4760)), .inr (.inl (0, 119))]) hR282 dX10_init_304 ac_int (by decide) (N := 119) (by decide) (Nat.le_of_ble_eq_true rfl) (Nat.le_of_ble_eq_true rfl) (Nat.le_of_ble_eq_true rfl) rfl rfl (by omega) rfl rfl (fun w285 hR286 hb287 => ?_)
  have hb288 : ∀ k, k < b → w285 k = w k := fun k hk => (hb287 k hk).trans (hb284 k hk)
  refine rg_pr (M := M_X10_init) (j := 0) (o := 34) (sh' := [.inl (9, [3, 4, 5, 6, 0, 0, 7, 8, 9, 10, 11, 12, 13, 14, 15, 16, 17, 18, 19, 20, 21, 22, 23, 24, 25, 26, 27, 28, 29, 0, 0, 30, 31, 0, 0, 0, 32, 0, 0, 0, 33, 0, 0, 34, 35, 36, 1, 0, 0, 0, 0, 1, 1, 0, 0]), .inr (.inl (0, 64)), .inr (.inl (0, 64)), .inr (.inl (0, 64)), .inr (.inl (0, 64)), .inr (.inl (1, 5)), .inr (.inl (0, 320)), .inr (.inl (0, 320)), .inr (.inl (0, 320)), .inr (.inl (0, 320)), .inr (.inl (0, 4000)), .inr (.inl (0, 4000)), .inr (.inl (0, 4000)), .inr (.inl (0, 4000)), .inr (.inl (0, 4000)), .inr (.inl (0, 5)), .inr (.inl (0, 500)), .inr (.inl (0, 500)), .inr (.inl (0, 500)), .inr (.inl (0, 5)), .inr (.inl (1, 15005)), .inr (.inl (0, 5)), .inr (.inl (0, 5)), .inr (.inl (0, 5)), .inr (.inl (0, 5)), .inr (.inl (0, 5)), .inr (.inl (0, 5)), .inr (.inl (0, 5)), .inr (.inl (0, 134)), .inr (.inl (0, 1000)), .inr (.inl (1, 40)), .inr (.inl (0, 134)), .inr (.inl (0, 40)), .inr (.inl (0, 4760)), .inr (.inl (0, 119))]) hR286 dX10_init_306 fl_X10_126 rfl (fun r q => by cases q; rfl) rfl (by decide) (fun _ => rfl) (fun _ => rfl) rfl (fun w289 hR290 hb291 => ?_)
  have hb292 : ∀ k, k < b → w289 k = w k := fun k hk => (hb291 k hk).trans (hb288 k hk)
  refine pm_aload_n dX10_init_309 rfl ?_
  refine pm_sipush (v := 10201) dX10_init_310 (by decide) ?_
  refine rg_newi (M := M_X10_init) (len := 35) (sh' := [.inl (9, [3, 4, 5, 6, 0, 0, 7, 8, 9, 10, 11, 12, 13, 14, 15, 16, 17, 18, 19, 20, 21, 22, 23, 24, 25, 26, 27, 28, 29, 0, 0, 30, 31, 0, 0, 0, 32, 0, 0, 0, 33, 0, 0, 34, 35, 36, 1, 0, 0, 0, 0, 1, 1, 0, 0]), .inr (.inl (0, 64)), .inr (.inl (0, 64)), .inr (.inl (0, 64)), .inr (.inl (0, 64)), .inr (.inl (1, 5)), .inr (.inl (0, 320)), .inr (.inl (0, 320)), .inr (.inl (0, 320)), .inr (.inl (0, 320)), .inr (.inl (0, 4000)), .inr (.inl (0, 4000)), .inr (.inl (0, 4000)), .inr (.inl (0, 4000)), .inr (.inl (0, 4000)), .inr (.inl (0, 5)), .inr (.inl (0, 500)), .inr (.inl (0, 500)), .inr (.inl (0, 500)), .inr (.inl (0, 5)), .inr (.inl (1, 15005)), .inr (.inl (0, 5)), .inr (.inl (0, 5)), .inr (.inl (0, 5)), .inr (.inl (0, 5)), .inr (.inl (0, 5)), .inr (.inl (0, 5)), .inr (.inl (0, 5)), .inr (.inl (0, 134)), .inr (.inl (0, 1000)), .inr (.inl (1, 40)), .inr (.inl (0, 134)), .inr (.inl (0, 40)), .inr (.inl (0, 4760)), .inr (.inl (0, 119)), .inr (.inl (0, 10201))]) hR290 dX10_init_313 ac_int (by decide) (N := 10201) (by decide) (Nat.le_of_ble_eq_true rfl) (Nat.le_of_ble_eq_true rfl) (Nat.le_of_ble_eq_true rfl) rfl rfl (by omega) rfl rfl (fun w293 hR294 hb295 => ?_)
  have hb296 : ∀ k, k < b → w293 k = w k := fun k hk => (hb295 k hk).trans (hb292 k hk)
  refine rg_pr (M := M_X10_init) (j := 0) (o := 35) (sh' := [.inl (9, [3, 4, 5, 6, 0, 0, 7, 8, 9, 10, 11, 12, 13, 14, 15, 16, 17, 18, 19, 20, 21, 22, 23, 24, 25, 26, 27, 28, 29, 0, 0, 30, 31, 0, 0, 0, 32, 0, 0, 0, 33, 0, 0, 34, 35, 36, 37, 0, 0, 0, 0, 1, 1, 0, 0]), .inr (.inl (0, 64)), .inr (.inl (0, 64)), .inr (.inl (0, 64)), .inr (.inl (0, 64)), .inr (.inl (1, 5)), .inr (.inl (0, 320)), .inr (.inl (0, 320)), .inr (.inl (0, 320)), .inr (.inl (0, 320)), .inr (.inl (0, 4000)), .inr (.inl (0, 4000)), .inr (.inl (0, 4000)), .inr (.inl (0, 4000)), .inr (.inl (0, 4000)), .inr (.inl (0, 5)), .inr (.inl (0, 500)), .inr (.inl (0, 500)), .inr (.inl (0, 500)), .inr (.inl (0, 5)), .inr (.inl (1, 15005)), .inr (.inl (0, 5)), .inr (.inl (0, 5)), .inr (.inl (0, 5)), .inr (.inl (0, 5)), .inr (.inl (0, 5)), .inr (.inl (0, 5)), .inr (.inl (0, 5)), .inr (.inl (0, 134)), .inr (.inl (0, 1000)), .inr (.inl (1, 40)), .inr (.inl (0, 134)), .inr (.inl (0, 40)), .inr (.inl (0, 4760)), .inr (.inl (0, 119)), .inr (.inl (0, 10201))]) hR294 dX10_init_315 fl_X10_129 rfl (fun r q => by cases q; rfl) rfl (by decide) (fun _ => rfl) (fun _ => rfl) rfl (fun w297 hR298 hb299 => ?_)
  have hb300 : ∀ k, k < b → w297 k = w k := fun k hk => (hb299 k hk).trans (hb296 k hk)
  refine pm_aload_n dX10_init_318 rfl ?_
  refine pm_sipush (v := 134) dX10_init_319 (by decide) ?_
  refine rg_newi (M := M_X10_init) (len := 36) (sh' := [.inl (9, [3, 4, 5, 6, 0, 0, 7, 8, 9, 10, 11, 12, 13, 14, 15, 16, 17, 18, 19, 20, 21, 22, 23, 24, 25, 26, 27, 28, 29, 0, 0, 30, 31, 0, 0, 0, 32, 0, 0, 0, 33, 0, 0, 34, 35, 36, 37, 0, 0, 0, 0, 1, 1, 0, 0]), .inr (.inl (0, 64)), .inr (.inl (0, 64)), .inr (.inl (0, 64)), .inr (.inl (0, 64)), .inr (.inl (1, 5)), .inr (.inl (0, 320)), .inr (.inl (0, 320)), .inr (.inl (0, 320)), .inr (.inl (0, 320)), .inr (.inl (0, 4000)), .inr (.inl (0, 4000)), .inr (.inl (0, 4000)), .inr (.inl (0, 4000)), .inr (.inl (0, 4000)), .inr (.inl (0, 5)), .inr (.inl (0, 500)), .inr (.inl (0, 500)), .inr (.inl (0, 500)), .inr (.inl (0, 5)), .inr (.inl (1, 15005)), .inr (.inl (0, 5)), .inr (.inl (0, 5)), .inr (.inl (0, 5)), .inr (.inl (0, 5)), .inr (.inl (0, 5)), .inr (.inl (0, 5)), .inr (.inl (0, 5)), .inr (.inl (0, 134)), .inr (.inl (0, 1000)), .inr (.inl (1, 40)), .inr (.inl (0, 134)), .inr (.inl (0, 40)), .inr (.inl (0, 4760)), .inr (.inl (0, 119)), .inr (.inl (0, 10201)), .inr (.inl (0, 134))]) hR298 dX10_init_322 ac_int (by decide) (N := 134) (by decide) (Nat.le_of_ble_eq_true rfl) (Nat.le_of_ble_eq_true rfl) (Nat.le_of_ble_eq_true rfl) rfl rfl (by omega) rfl rfl (fun w301 hR302 hb303 => ?_)
  have hb304 : ∀ k, k < b → w301 k = w k := fun k hk => (hb303 k hk).trans (hb300 k hk)
  refine rg_pr (M := M_X10_init) (j := 0) (o := 36) (sh' := [.inl (9, [3, 4, 5, 6, 0, 0, 7, 8, 9, 10, 11, 12, 13, 14, 15, 16, 17, 18, 19, 20, 21, 22, 23, 24, 25, 26, 27, 28, 29, 0, 0, 30, 31, 0, 0, 0, 32, 0, 0, 0, 33, 0, 0, 34, 35, 36, 37, 0, 0, 0, 0, 38, 1, 0, 0]), .inr (.inl (0, 64)), .inr (.inl (0, 64)), .inr (.inl (0, 64)), .inr (.inl (0, 64)), .inr (.inl (1, 5)), .inr (.inl (0, 320)), .inr (.inl (0, 320)), .inr (.inl (0, 320)), .inr (.inl (0, 320)), .inr (.inl (0, 4000)), .inr (.inl (0, 4000)), .inr (.inl (0, 4000)), .inr (.inl (0, 4000)), .inr (.inl (0, 4000)), .inr (.inl (0, 5)), .inr (.inl (0, 500)), .inr (.inl (0, 500)), .inr (.inl (0, 500)), .inr (.inl (0, 5)), .inr (.inl (1, 15005)), .inr (.inl (0, 5)), .inr (.inl (0, 5)), .inr (.inl (0, 5)), .inr (.inl (0, 5)), .inr (.inl (0, 5)), .inr (.inl (0, 5)), .inr (.inl (0, 5)), .inr (.inl (0, 134)), .inr (.inl (0, 1000)), .inr (.inl (1, 40)), .inr (.inl (0, 134)), .inr (.inl (0, 40)), .inr (.inl (0, 4760)), .inr (.inl (0, 119)), .inr (.inl (0, 10201)), .inr (.inl (0, 134))]) hR302 dX10_init_324 fl_X10_132 rfl (fun r q => by cases q; rfl) rfl (by decide) (fun _ => rfl) (fun _ => rfl) rfl (fun w305 hR306 hb307 => ?_)
  have hb308 : ∀ k, k < b → w305 k = w k := fun k hk => (hb307 k hk).trans (hb304 k hk)
  refine pm_aload_n dX10_init_327 rfl ?_
  refine pm_sipush (v := 134) dX10_init_328 (by decide) ?_
  refine rg_newi (M := M_X10_init) (len := 37) (sh' := [.inl (9, [3, 4, 5, 6, 0, 0, 7, 8, 9, 10, 11, 12, 13, 14, 15, 16, 17, 18, 19, 20, 21, 22, 23, 24, 25, 26, 27, 28, 29, 0, 0, 30, 31, 0, 0, 0, 32, 0, 0, 0, 33, 0, 0, 34, 35, 36, 37, 0, 0, 0, 0, 38, 1, 0, 0]), .inr (.inl (0, 64)), .inr (.inl (0, 64)), .inr (.inl (0, 64)), .inr (.inl (0, 64)), .inr (.inl (1, 5)), .inr (.inl (0, 320)), .inr (.inl (0, 320)), .inr (.inl (0, 320)), .inr (.inl (0, 320)), .inr (.inl (0, 4000)), .inr (.inl (0, 4000)), .inr (.inl (0, 4000)), .inr (.inl (0, 4000)), .inr (.inl (0, 4000)), .inr (.inl (0, 5)), .inr (.inl (0, 500)), .inr (.inl (0, 500)), .inr (.inl (0, 500)), .inr (.inl (0, 5)), .inr (.inl (1, 15005)), .inr (.inl (0, 5)), .inr (.inl (0, 5)), .inr (.inl (0, 5)), .inr (.inl (0, 5)), .inr (.inl (0, 5)), .inr (.inl (0, 5)), .inr (.inl (0, 5)), .inr (.inl (0, 134)), .inr (.inl (0, 1000)), .inr (.inl (1, 40)), .inr (.inl (0, 134)), .inr (.inl (0, 40)), .inr (.inl (0, 4760)), .inr (.inl (0, 119)), .inr (.inl (0, 10201)), .inr (.inl (0, 134)), .inr (.inl (0, 134))]) hR306 dX10_init_331 ac_int (by decide) (N := 134) (by decide) (Nat.le_of_ble_eq_true rfl) (Nat.le_of_ble_eq_true rfl) (Nat.le_of_ble_eq_true rfl) rfl rfl (by omega) rfl rfl (fun w309 hR310 hb311 => ?_)
  have hb312 : ∀ k, k < b → w309 k = w k := fun k hk => (hb311 k hk).trans (hb308 k hk)
  refine rg_pr (M := M_X10_init) (j := 0) (o := 37) (sh' := [.inl (9, [3, 4, 5, 6, 0, 0, 7, 8, 9, 10, 11, 12, 13, 14, 15, 16, 17, 18, 19, 20, 21, 22, 23, 24, 25, 26, 27, 28, 29, 0, 0, 30, 31, 0, 0, 0, 32, 0, 0, 0, 33, 0, 0, 34, 35, 36, 37, 0, 0, 0, 0, 38, 39, 0, 0]), .inr (.inl (0, 64)), .inr (.inl (0, 64)), .inr (.inl (0, 64)), .inr (.inl (0, 64)), .inr (.inl (1, 5)), .inr (.inl (0, 320)), .inr (.inl (0, 320)), .inr (.inl (0, 320)), .inr (.inl (0, 320)), .inr (.inl (0, 4000)), .inr (.inl (0, 4000)), .inr (.inl (0, 4000)), .inr (.inl (0, 4000)), .inr (.inl (0, 4000)), .inr (.inl (0, 5)), .inr (.inl (0, 500)), .inr (.inl (0, 500)), .inr (.inl (0, 500)), .inr (.inl (0, 5)), .inr (.inl (1, 15005)), .inr (.inl (0, 5)), .inr (.inl (0, 5)), .inr (.inl (0, 5)), .inr (.inl (0, 5)), .inr (.inl (0, 5)), .inr (.inl (0, 5)), .inr (.inl (0, 5)), .inr (.inl (0, 134)), .inr (.inl (0, 1000)), .inr (.inl (1, 40)), .inr (.inl (0, 134)), .inr (.inl (0, 40)), .inr (.inl (0, 4760)), .inr (.inl (0, 119)), .inr (.inl (0, 10201)), .inr (.inl (0, 134)), .inr (.inl (0, 134))]) hR310 dX10_init_333 fl_X10_135 rfl (fun r q => by cases q; rfl) rfl (by decide) (fun _ => rfl) (fun _ => rfl) rfl (fun w313 hR314 hb315 => ?_)
  have hb316 : ∀ k, k < b → w313 k = w k := fun k hk => (hb315 k hk).trans (hb312 k hk)
  refine pm_iconst (v := 0) dX10_init_336 (by decide) ?_
  refine pm_istore_n dX10_init_337 (by decide) rfl rfl ?_
  have LP : ∀ (f k : Nat) (w317 : Nat → va_E), k + f = 64 → rg shM b (mu_none k) (b + 38) w317 → (∀ k, k < b → w317 k = w k) → pm_X gs ro M_X10_init 1 37 54787 37 54787 338 [some (.ref (b + 0)), some (.int (nI k))] [] (b + 38) w317 (fun rr n1 w1 => rr = none ∧ n1 = b + 38 ∧ rg shM b (mu_none 64) (b + 38) w1 ∧ ∀ k, k < b → w1 k = w k) := by
    intro f
    induction f with
    | zero =>
      intro k w317 hk hR318 hb319
      have hk : k = 64 := hk
      subst hk
      refine pm_iload_n dX10_init_338 rfl ?_
      refine pm_bipush (v := 64) dX10_init_339 (by decide) ?_
      refine pm_icmp_ge (tgt := 357) dX10_init_341 (by decide) (fun c_341 => ?_) (fun c_341 => absurd (by decide) c_341)
      refine pm_vret dX10_init_357 rfl (Nat.le_refl _) (Nat.le_refl _) ?_
      exact ⟨rfl, rfl, hR318, hb319⟩
    | succ f ih =>
      intro k w317 hk hR318 hb319
      have hlt : k < 64 := by omega
      refine pm_iload_n dX10_init_338 rfl ?_
      refine pm_bipush (v := 64) dX10_init_339 (by decide) ?_
      refine pm_icmp_ge (tgt := 357) dX10_init_341 (by decide) (fun c_341 => absurd c_341 (nI_ge (b := 64) hlt (by decide))) (fun c_341 => ?_)
      refine pm_aload_n dX10_init_344 rfl ?_
      refine rg_gr (j := 0) (o := 1) hR318 dX10_init_345 fl_X10_7 rfl rfl ?_
      refine pm_iload_n dX10_init_348 rfl ?_
      refine pm_iconst (v := (-1)) dX10_init_349 (by decide) ?_
      refine rg_as (j := 1) hR318 dX10_init_350 rfl (vp_in_nI hlt (by decide)) (fun w320 hR321 hk322 => ?_)
      have hb323 : ∀ k, k < b → w320 k = w k := fun q hq => (hk322 q (Or.inl hq)).trans (hb319 q hq)
      refine pm_iinc (v := (nI (k + 1))) dX10_init_351 rfl (nI_1 _) (by decide) rfl rfl ?_
      refine pm_goto (tgt := 338) dX10_init_354 (by decide) ?_
      exact ih (k + 1) _ (by omega) hR321 hb323
  have LP0 := LP 64 0 _ (Nat.zero_add _) hR314 hb316
  first | exact LP0 | (rw [nI_0] at LP0; exact LP0)
