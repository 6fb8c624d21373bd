theorem dL_law_172 : decode cL_law 172 = .ok (.aload_n 1, 1) := by decide +kernel
theorem dL_law_173 : decode cL_law 173 = .ok (.aload_n 0, 1) := by decide +kernel
theorem dL_law_174 : decode cL_law 174 = .ok (.iload_n 3, 1) := by decide +kernel
theorem dL_law_175 : decode cL_law 175 = .ok (.iconst 1, 1) := by decide +kernel
theorem dL_law_176 : decode cL_law 176 = .ok (.iadd, 1) := by decide +kernel
theorem dL_law_177 : decode cL_law 177 = .ok (.iaload, 1) := by decide +kernel
theorem dL_law_178 : decode cL_law 178 = .ok (.aload_n 0, 1) := by decide +kernel
theorem dL_law_179 : decode cL_law 179 = .ok (.iload_n 3, 1) := by decide +kernel
theorem dL_law_180 : decode cL_law 180 = .ok (.iconst 2, 1) := by decide +kernel
theorem dL_law_181 : decode cL_law 181 = .ok (.iadd, 1) := by decide +kernel
theorem dL_law_182 : decode cL_law 182 = .ok (.iaload, 1) := by decide +kernel
theorem dL_law_183 : decode cL_law 183 = .ok (.aload_n 0, 1) := by decide +kernel
theorem dL_law_184 : decode cL_law 184 = .ok (.iload_n 3, 1) := by decide +kernel
theorem dL_law_185 : decode cL_law 185 = .ok (.iconst 3, 1) := by decide +kernel
theorem dL_law_186 : decode cL_law 186 = .ok (.iadd, 1) := by decide +kernel
theorem dL_law_187 : decode cL_law 187 = .ok (.iaload, 1) := by decide +kernel
theorem dL_law_188 : decode cL_law 188 = .ok (.aload_n 0, 1) := by decide +kernel
theorem dL_law_189 : decode cL_law 189 = .ok (.iload_n 3, 1) := by decide +kernel
theorem dL_law_190 : decode cL_law 190 = .ok (.iconst 4, 1) := by decide +kernel
theorem dL_law_191 : decode cL_law 191 = .ok (.iadd, 1) := by decide +kernel
theorem dL_law_192 : decode cL_law 192 = .ok (.iaload, 1) := by decide +kernel
theorem dL_law_193 : decode cL_law 193 = .ok (.aload_n 0, 1) := by decide +kernel
theorem dL_law_194 : decode cL_law 194 = .ok (.iload_n 3, 1) := by decide +kernel
theorem dL_law_195 : decode cL_law 195 = .ok (.iconst 5, 1) := by decide +kernel
theorem dL_law_196 : decode cL_law 196 = .ok (.iadd, 1) := by decide +kernel
theorem dL_law_197 : decode cL_law 197 = .ok (.iaload, 1) := by decide +kernel
theorem dL_law_198 : decode cL_law 198 = .ok (.invokevirtual 13, 3) := by decide +kernel
theorem dL_law_201 : decode cL_law 201 = .ok (.pop, 1) := by decide +kernel
theorem dL_law_202 : decode cL_law 202 = .ok (.aload_n 2, 1) := by decide +kernel
theorem dL_law_203 : decode cL_law 203 = .ok (.aload_n 0, 1) := by decide +kernel
theorem dL_law_204 : decode cL_law 204 = .ok (.iload_n 3, 1) := by decide +kernel
theorem dL_law_205 : decode cL_law 205 = .ok (.iconst 1, 1) := by decide +kernel
theorem dL_law_206 : decode cL_law 206 = .ok (.iadd, 1) := by decide +kernel
theorem dL_law_207 : decode cL_law 207 = .ok (.iaload, 1) := by decide +kernel
theorem dL_law_208 : decode cL_law 208 = .ok (.aload_n 0, 1) := by decide +kernel
theorem dL_law_209 : decode cL_law 209 = .ok (.iload_n 3, 1) := by decide +kernel
theorem dL_law_210 : decode cL_law 210 = .ok (.iconst 2, 1) := by decide +kernel
theorem dL_law_211 : decode cL_law 211 = .ok (.iadd, 1) := by decide +kernel
theorem dL_law_212 : decode cL_law 212 = .ok (.iaload, 1) := by decide +kernel
theorem dL_law_213 : decode cL_law 213 = .ok (.aload_n 0, 1) := by decide +kernel
theorem dL_law_214 : decode cL_law 214 = .ok (.iload_n 3, 1) := by decide +kernel
theorem dL_law_215 : decode cL_law 215 = .ok (.iconst 3, 1) := by decide +kernel
theorem dL_law_216 : decode cL_law 216 = .ok (.iadd, 1) := by decide +kernel
theorem dL_law_217 : decode cL_law 217 = .ok (.iaload, 1) := by decide +kernel
theorem dL_law_218 : decode cL_law 218 = .ok (.aload_n 0, 1) := by decide +kernel
theorem dL_law_219 : decode cL_law 219 = .ok (.iload_n 3, 1) := by decide +kernel
theorem dL_law_220 : decode cL_law 220 = .ok (.iconst 4, 1) := by decide +kernel
theorem dL_law_221 : decode cL_law 221 = .ok (.iadd, 1) := by decide +kernel
theorem dL_law_222 : decode cL_law 222 = .ok (.iaload, 1) := by decide +kernel
theorem dL_law_223 : decode cL_law 223 = .ok (.aload_n 0, 1) := by decide +kernel
theorem dL_law_224 : decode cL_law 224 = .ok (.iload_n 3, 1) := by decide +kernel
theorem dL_law_225 : decode cL_law 225 = .ok (.iconst 5, 1) := by decide +kernel
theorem dL_law_226 : decode cL_law 226 = .ok (.iadd, 1) := by decide +kernel
theorem dL_law_227 : decode cL_law 227 = .ok (.iaload, 1) := by decide +kernel
theorem dL_law_228 : decode cL_law 228 = .ok (.invokevirtual 17, 3) := by decide +kernel
theorem dL_law_231 : decode cL_law 231 = .ok (.pop, 1) := by decide +kernel
theorem dL_law_232 : decode cL_law 232 = .ok (.goto 1019, 3) := by decide +kernel
theorem dL_law_235 : decode cL_law 235 = .ok (.aload_n 1, 1) := by decide +kernel
theorem dL_law_236 : decode cL_law 236 = .ok (.aload_n 0, 1) := by decide +kernel
theorem dL_law_237 : decode cL_law 237 = .ok (.iload_n 3, 1) := by decide +kernel
theorem dL_law_238 : decode cL_law 238 = .ok (.iconst 1, 1) := by decide +kernel
theorem dL_law_239 : decode cL_law 239 = .ok (.iadd, 1) := by decide +kernel
theorem dL_law_240 : decode cL_law 240 = .ok (.iaload, 1) := by decide +kernel
theorem dL_law_241 : decode cL_law 241 = .ok (.aload_n 0, 1) := by decide +kernel
theorem dL_law_242 : decode cL_law 242 = .ok (.iload_n 3, 1) := by decide +kernel
theorem dL_law_243 : decode cL_law 243 = .ok (.iconst 2, 1) := by decide +kernel
theorem dL_law_244 : decode cL_law 244 = .ok (.iadd, 1) := by decide +kernel
theorem dL_law_245 : decode cL_law 245 = .ok (.iaload, 1) := by decide +kernel
theorem dL_law_246 : decode cL_law 246 = .ok (.invokevirtual 18, 3) := by decide +kernel
theorem dL_law_249 : decode cL_law 249 = .ok (.pop, 1) := by decide +kernel
theorem dL_law_250 : decode cL_law 250 = .ok (.aload_n 2, 1) := by decide +kernel
theorem dL_law_251 : decode cL_law 251 = .ok (.aload_n 0, 1) := by decide +kernel
theorem dL_law_252 : decode cL_law 252 = .ok (.iload_n 3, 1) := by decide +kernel
theorem dL_law_253 : decode cL_law 253 = .ok (.iconst 1, 1) := by decide +kernel
theorem dL_law_254 : decode cL_law 254 = .ok (.iadd, 1) := by decide +kernel
theorem dL_law_255 : decode cL_law 255 = .ok (.iaload, 1) := by decide +kernel
theorem dL_law_256 : decode cL_law 256 = .ok (.aload_n 0, 1) := by decide +kernel
theorem dL_law_257 : decode cL_law 257 = .ok (.iload_n 3, 1) := by decide +kernel
theorem dL_law_258 : decode cL_law 258 = .ok (.iconst 2, 1) := by decide +kernel
theorem dL_law_259 : decode cL_law 259 = .ok (.iadd, 1) := by decide +kernel
theorem dL_law_260 : decode cL_law 260 = .ok (.iaload, 1) := by decide +kernel
theorem dL_law_261 : decode cL_law 261 = .ok (.invokevirtual 22, 3) := by decide +kernel
theorem dL_law_264 : decode cL_law 264 = .ok (.pop, 1) := by decide +kernel
theorem dL_law_265 : decode cL_law 265 = .ok (.goto 986, 3) := by decide +kernel
theorem dL_law_268 : decode cL_law 268 = .ok (.aload_n 1, 1) := by decide +kernel
theorem dL_law_269 : decode cL_law 269 = .ok (.invokevirtual 23, 3) := by decide +kernel
theorem dL_law_272 : decode cL_law 272 = .ok (.pop, 1) := by decide +kernel
theorem dL_law_273 : decode cL_law 273 = .ok (.aload_n 2, 1) := by decide +kernel
theorem dL_law_274 : decode cL_law 274 = .ok (.invokevirtual 27, 3) := by decide +kernel
theorem dL_law_277 : decode cL_law 277 = .ok (.pop, 1) := by decide +kernel
theorem dL_law_278 : decode cL_law 278 = .ok (.goto 973, 3) := by decide +kernel
theorem dL_law_281 : decode cL_law 281 = .ok (.aload_n 1, 1) := by decide +kernel
theorem dL_law_282 : decode cL_law 282 = .ok (.aload_n 0, 1) := by decide +kernel
theorem dL_law_283 : decode cL_law 283 = .ok (.iload_n 3, 1) := by decide +kernel
theorem dL_law_284 : decode cL_law 284 = .ok (.iconst 1, 1) := by decide +kernel
theorem dL_law_285 : decode cL_law 285 = .ok (.iadd, 1) := by decide +kernel
theorem dL_law_286 : decode cL_law 286 = .ok (.iaload, 1) := by decide +kernel
theorem dL_law_287 : decode cL_law 287 = .ok (.invokevirtual 28, 3) := by decide +kernel
theorem dL_law_290 : decode cL_law 290 = .ok (.pop, 1) := by decide +kernel
theorem dL_law_291 : decode cL_law 291 = .ok (.aload_n 2, 1) := by decide +kernel
theorem dL_law_292 : decode cL_law 292 = .ok (.aload_n 0, 1) := by decide +kernel
theorem dL_law_293 : decode cL_law 293 = .ok (.iload_n 3, 1) := by decide +kernel
theorem dL_law_294 : decode cL_law 294 = .ok (.iconst 1, 1) := by decide +kernel
theorem dL_law_295 : decode cL_law 295 = .ok (.iadd, 1) := by decide +kernel
theorem dL_law_296 : decode cL_law 296 = .ok (.iaload, 1) := by decide +kernel
theorem dL_law_297 : decode cL_law 297 = .ok (.invokevirtual 32, 3) := by decide +kernel
theorem dL_law_300 : decode cL_law 300 = .ok (.pop, 1) := by decide +kernel
theorem dL_law_301 : decode cL_law 301 = .ok (.goto 950, 3) := by decide +kernel
theorem dL_law_304 : decode cL_law 304 = .ok (.aload_n 1, 1) := by decide +kernel
theorem dL_law_305 : decode cL_law 305 = .ok (.aload_n 0, 1) := by decide +kernel
theorem dL_law_306 : decode cL_law 306 = .ok (.iload_n 3, 1) := by decide +kernel
theorem dL_law_307 : decode cL_law 307 = .ok (.iconst 1, 1) := by decide +kernel
theorem dL_law_308 : decode cL_law 308 = .ok (.iadd, 1) := by decide +kernel
theorem dL_law_309 : decode cL_law 309 = .ok (.iaload, 1) := by decide +kernel
theorem dL_law_310 : decode cL_law 310 = .ok (.invokevirtual 33, 3) := by decide +kernel
theorem dL_law_313 : decode cL_law 313 = .ok (.pop, 1) := by decide +kernel
theorem dL_law_314 : decode cL_law 314 = .ok (.aload_n 2, 1) := by decide +kernel
theorem dL_law_315 : decode cL_law 315 = .ok (.aload_n 0, 1) := by decide +kernel
theorem dL_law_316 : decode cL_law 316 = .ok (.iload_n 3, 1) := by decide +kernel
theorem dL_law_317 : decode cL_law 317 = .ok (.iconst 1, 1) := by decide +kernel
theorem dL_law_318 : decode cL_law 318 = .ok (.iadd, 1) := by decide +kernel
theorem dL_law_319 : decode cL_law 319 = .ok (.iaload, 1) := by decide +kernel
theorem dL_law_320 : decode cL_law 320 = .ok (.invokevirtual 36, 3) := by decide +kernel
theorem dL_law_323 : decode cL_law 323 = .ok (.pop, 1) := by decide +kernel
theorem dL_law_324 : decode cL_law 324 = .ok (.goto 927, 3) := by decide +kernel
theorem dL_law_327 : decode cL_law 327 = .ok (.aload_n 1, 1) := by decide +kernel
theorem dL_law_328 : decode cL_law 328 = .ok (.aload_n 0, 1) := by decide +kernel
theorem dL_law_329 : decode cL_law 329 = .ok (.iload_n 3, 1) := by decide +kernel
theorem dL_law_330 : decode cL_law 330 = .ok (.iconst 1, 1) := by decide +kernel
theorem dL_law_331 : decode cL_law 331 = .ok (.iadd, 1) := by decide +kernel
theorem dL_law_332 : decode cL_law 332 = .ok (.iaload, 1) := by decide +kernel
theorem dL_law_333 : decode cL_law 333 = .ok (.aload_n 0, 1) := by decide +kernel
theorem dL_law_334 : decode cL_law 334 = .ok (.iload_n 3, 1) := by decide +kernel
theorem dL_law_335 : decode cL_law 335 = .ok (.iconst 2, 1) := by decide +kernel
theorem dL_law_336 : decode cL_law 336 = .ok (.iadd, 1) := by decide +kernel
theorem dL_law_337 : decode cL_law 337 = .ok (.iaload, 1) := by decide +kernel
theorem dL_law_338 : decode cL_law 338 = .ok (.aload_n 0, 1) := by decide +kernel
theorem dL_law_339 : decode cL_law 339 = .ok (.iload_n 3, 1) := by decide +kernel
theorem dL_law_340 : decode cL_law 340 = .ok (.iconst 3, 1) := by decide +kernel
theorem dL_law_341 : decode cL_law 341 = .ok (.iadd, 1) := by decide +kernel
theorem dL_law_342 : decode cL_law 342 = .ok (.iaload, 1) := by decide +kernel
theorem dL_law_343 : decode cL_law 343 = .ok (.invokevirtual 37, 3) := by decide +kernel
theorem dL_law_346 : decode cL_law 346 = .ok (.pop, 1) := by decide +kernel
theorem dL_law_347 : decode cL_law 347 = .ok (.aload_n 2, 1) := by decide +kernel
theorem dL_law_348 : decode cL_law 348 = .ok (.aload_n 0, 1) := by decide +kernel
theorem dL_law_349 : decode cL_law 349 = .ok (.iload_n 3, 1) := by decide +kernel
theorem dL_law_350 : decode cL_law 350 = .ok (.iconst 1, 1) := by decide +kernel
theorem dL_law_351 : decode cL_law 351 = .ok (.iadd, 1) := by decide +kernel
theorem dL_law_352 : decode cL_law 352 = .ok (.iaload, 1) := by decide +kernel
theorem dL_law_353 : decode cL_law 353 = .ok (.aload_n 0, 1) := by decide +kernel
theorem dL_law_354 : decode cL_law 354 = .ok (.iload_n 3, 1) := by decide +kernel
theorem dL_law_355 : decode cL_law 355 = .ok (.iconst 2, 1) := by decide +kernel
theorem dL_law_356 : decode cL_law 356 = .ok (.iadd, 1) := by decide +kernel
theorem dL_law_357 : decode cL_law 357 = .ok (.iaload, 1) := by decide +kernel
theorem dL_law_358 : decode cL_law 358 = .ok (.aload_n 0, 1) := by decide +kernel
theorem dL_law_359 : decode cL_law 359 = .ok (.iload_n 3, 1) := by decide +kernel
theorem dL_law_360 : decode cL_law 360 = .ok (.iconst 3, 1) := by decide +kernel
theorem dL_law_361 : decode cL_law 361 = .ok (.iadd, 1) := by decide +kernel
theorem dL_law_362 : decode cL_law 362 = .ok (.iaload, 1) := by decide +kernel
theorem dL_law_363 : decode cL_law 363 = .ok (.invokevirtual 41, 3) := by decide +kernel
theorem dL_law_366 : decode cL_law 366 = .ok (.pop, 1) := by decide +kernel
theorem dL_law_367 : decode cL_law 367 = .ok (.goto 884, 3) := by decide +kernel
theorem dL_law_370 : decode cL_law 370 = .ok (.aload_n 1, 1) := by decide +kernel
theorem dL_law_371 : decode cL_law 371 = .ok (.aload_n 0, 1) := by decide +kernel
theorem dL_law_372 : decode cL_law 372 = .ok (.iload_n 3, 1) := by decide +kernel
theorem dL_law_373 : decode cL_law 373 = .ok (.iconst 1, 1) := by decide +kernel
theorem dL_law_374 : decode cL_law 374 = .ok (.iadd, 1) := by decide +kernel
theorem dL_law_375 : decode cL_law 375 = .ok (.iaload, 1) := by decide +kernel
theorem dL_law_376 : decode cL_law 376 = .ok (.invokevirtual 42, 3) := by decide +kernel
theorem dL_law_379 : decode cL_law 379 = .ok (.pop, 1) := by decide +kernel
theorem dL_law_380 : decode cL_law 380 = .ok (.aload_n 2, 1) := by decide +kernel
theorem dL_law_381 : decode cL_law 381 = .ok (.aload_n 0, 1) := by decide +kernel
theorem dL_law_382 : decode cL_law 382 = .ok (.iload_n 3, 1) := by decide +kernel
theorem dL_law_383 : decode cL_law 383 = .ok (.iconst 1, 1) := by decide +kernel
theorem dL_law_384 : decode cL_law 384 = .ok (.iadd, 1) := by decide +kernel
theorem dL_law_385 : decode cL_law 385 = .ok (.iaload, 1) := by decide +kernel
theorem dL_law_386 : decode cL_law 386 = .ok (.invokevirtual 45, 3) := by decide +kernel
theorem dL_law_389 : decode cL_law 389 = .ok (.pop, 1) := by decide +kernel
theorem dL_law_390 : decode cL_law 390 = .ok (.goto 861, 3) := by decide +kernel
theorem dL_law_393 : decode cL_law 393 = .ok (.aload_n 1, 1) := by decide +kernel
theorem dL_law_394 : decode cL_law 394 = .ok (.aload_n 0, 1) := by decide +kernel
theorem dL_law_395 : decode cL_law 395 = .ok (.iload_n 3, 1) := by decide +kernel
theorem dL_law_396 : decode cL_law 396 = .ok (.iconst 1, 1) := by decide +kernel
theorem dL_law_397 : decode cL_law 397 = .ok (.iadd, 1) := by decide +kernel
theorem dL_law_398 : decode cL_law 398 = .ok (.iaload, 1) := by decide +kernel
theorem dL_law_399 : decode cL_law 399 = .ok (.aload_n 0, 1) := by decide +kernel
theorem dL_law_400 : decode cL_law 400 = .ok (.iload_n 3, 1) := by decide +kernel
theorem dL_law_401 : decode cL_law 401 = .ok (.iconst 2, 1) := by decide +kernel
theorem dL_law_402 : decode cL_law 402 = .ok (.iadd, 1) := by decide +kernel
theorem dL_law_403 : decode cL_law 403 = .ok (.iaload, 1) := by decide +kernel
theorem dL_law_404 : decode cL_law 404 = .ok (.ifCond .eq 7, 3) := by decide +kernel
theorem dL_law_407 : decode cL_law 407 = .ok (.iconst 1, 1) := by decide +kernel
theorem dL_law_408 : decode cL_law 408 = .ok (.goto 4, 3) := by decide +kernel
theorem dL_law_411 : decode cL_law 411 = .ok (.iconst 0, 1) := by decide +kernel
theorem dL_law_412 : decode cL_law 412 = .ok (.invokevirtual 46, 3) := by decide +kernel
theorem dL_law_415 : decode cL_law 415 = .ok (.pop, 1) := by decide +kernel
theorem dL_law_416 : decode cL_law 416 = .ok (.aload_n 2, 1) := by decide +kernel
theorem dL_law_417 : decode cL_law 417 = .ok (.aload_n 0, 1) := by decide +kernel
theorem dL_law_418 : decode cL_law 418 = .ok (.iload_n 3, 1) := by decide +kernel
theorem dL_law_419 : decode cL_law 419 = .ok (.iconst 1, 1) := by decide +kernel
theorem dL_law_420 : decode cL_law 420 = .ok (.iadd, 1) := by decide +kernel
theorem dL_law_421 : decode cL_law 421 = .ok (.iaload, 1) := by decide +kernel
theorem dL_law_422 : decode cL_law 422 = .ok (.aload_n 0, 1) := by decide +kernel
theorem dL_law_423 : decode cL_law 423 = .ok (.iload_n 3, 1) := by decide +kernel
theorem dL_law_424 : decode cL_law 424 = .ok (.iconst 2, 1) := by decide +kernel
theorem dL_law_425 : decode cL_law 425 = .ok (.iadd, 1) := by decide +kernel
theorem dL_law_426 : decode cL_law 426 = .ok (.iaload, 1) := by decide +kernel
theorem dL_law_427 : decode cL_law 427 = .ok (.ifCond .eq 7, 3) := by decide +kernel
theorem dL_law_430 : decode cL_law 430 = .ok (.iconst 1, 1) := by decide +kernel
theorem dL_law_431 : decode cL_law 431 = .ok (.goto 4, 3) := by decide +kernel
theorem dL_law_434 : decode cL_law 434 = .ok (.iconst 0, 1) := by decide +kernel
theorem dL_law_435 : decode cL_law 435 = .ok (.invokevirtual 50, 3) := by decide +kernel
theorem dL_law_438 : decode cL_law 438 = .ok (.pop, 1) := by decide +kernel
theorem dL_law_439 : decode cL_law 439 = .ok (.goto 812, 3) := by decide +kernel
theorem dL_law_442 : decode cL_law 442 = .ok (.aload_n 1, 1) := by decide +kernel
theorem dL_law_443 : decode cL_law 443 = .ok (.aload_n 0, 1) := by decide +kernel
theorem dL_law_444 : decode cL_law 444 = .ok (.iload_n 3, 1) := by decide +kernel
theorem dL_law_445 : decode cL_law 445 = .ok (.iconst 1, 1) := by decide +kernel
theorem dL_law_446 : decode cL_law 446 = .ok (.iadd, 1) := by decide +kernel
theorem dL_law_447 : decode cL_law 447 = .ok (.iaload, 1) := by decide +kernel
theorem dL_law_448 : decode cL_law 448 = .ok (.invokevirtual 51, 3) := by decide +kernel
theorem dL_law_451 : decode cL_law 451 = .ok (.pop, 1) := by decide +kernel
theorem dL_law_452 : decode cL_law 452 = .ok (.aload_n 2, 1) := by decide +kernel
theorem dL_law_453 : decode cL_law 453 = .ok (.aload_n 0, 1) := by decide +kernel
theorem dL_law_454 : decode cL_law 454 = .ok (.iload_n 3, 1) := by decide +kernel
theorem dL_law_455 : decode cL_law 455 = .ok (.iconst 1, 1) := by decide +kernel
theorem dL_law_456 : decode cL_law 456 = .ok (.iadd, 1) := by decide +kernel
theorem dL_law_457 : decode cL_law 457 = .ok (.iaload, 1) := by decide +kernel
theorem dL_law_458 : decode cL_law 458 = .ok (.invokevirtual 54, 3) := by decide +kernel
theorem dL_law_461 : decode cL_law 461 = .ok (.pop, 1) := by decide +kernel
theorem dL_law_462 : decode cL_law 462 = .ok (.goto 789, 3) := by decide +kernel
theorem dL_law_465 : decode cL_law 465 = .ok (.aload_n 1, 1) := by decide +kernel
theorem dL_law_466 : decode cL_law 466 = .ok (.invokevirtual 55, 3) := by decide +kernel
theorem dL_law_469 : decode cL_law 469 = .ok (.pop, 1) := by decide +kernel
theorem dL_law_470 : decode cL_law 470 = .ok (.aload_n 2, 1) := by decide +kernel
theorem dL_law_471 : decode cL_law 471 = .ok (.invokevirtual 58, 3) := by decide +kernel
theorem dL_law_474 : decode cL_law 474 = .ok (.pop, 1) := by decide +kernel
theorem dL_law_475 : decode cL_law 475 = .ok (.goto 776, 3) := by decide +kernel
theorem dL_law_478 : decode cL_law 478 = .ok (.aload_n 1, 1) := by decide +kernel
theorem dL_law_479 : decode cL_law 479 = .ok (.aload_n 0, 1) := by decide +kernel
theorem dL_law_480 : decode cL_law 480 = .ok (.iload_n 3, 1) := by decide +kernel
theorem dL_law_481 : decode cL_law 481 = .ok (.iconst 1, 1) := by decide +kernel
theorem dL_law_482 : decode cL_law 482 = .ok (.iadd, 1) := by decide +kernel
theorem dL_law_483 : decode cL_law 483 = .ok (.iaload, 1) := by decide +kernel
theorem dL_law_484 : decode cL_law 484 = .ok (.invokevirtual 59, 3) := by decide +kernel
theorem dL_law_487 : decode cL_law 487 = .ok (.pop, 1) := by decide +kernel
theorem dL_law_488 : decode cL_law 488 = .ok (.aload_n 2, 1) := by decide +kernel
theorem dL_law_489 : decode cL_law 489 = .ok (.aload_n 0, 1) := by decide +kernel
theorem dL_law_490 : decode cL_law 490 = .ok (.iload_n 3, 1) := by decide +kernel
theorem dL_law_491 : decode cL_law 491 = .ok (.iconst 1, 1) := by decide +kernel
theorem dL_law_492 : decode cL_law 492 = .ok (.iadd, 1) := by decide +kernel
theorem dL_law_493 : decode cL_law 493 = .ok (.iaload, 1) := by decide +kernel
theorem dL_law_494 : decode cL_law 494 = .ok (.invokevirtual 63, 3) := by decide +kernel
theorem dL_law_497 : decode cL_law 497 = .ok (.pop, 1) := by decide +kernel
theorem dL_law_498 : decode cL_law 498 = .ok (.goto 753, 3) := by decide +kernel
theorem dL_law_501 : decode cL_law 501 = .ok (.aload_n 1, 1) := by decide +kernel
theorem dL_law_502 : decode cL_law 502 = .ok (.aload_n 0, 1) := by decide +kernel
theorem dL_law_503 : decode cL_law 503 = .ok (.iload_n 3, 1) := by decide +kernel
theorem dL_law_504 : decode cL_law 504 = .ok (.iconst 1, 1) := by decide +kernel
theorem dL_law_505 : decode cL_law 505 = .ok (.iadd, 1) := by decide +kernel
theorem dL_law_506 : decode cL_law 506 = .ok (.iaload, 1) := by decide +kernel
theorem dL_law_507 : decode cL_law 507 = .ok (.aload_n 0, 1) := by decide +kernel
theorem dL_law_508 : decode cL_law 508 = .ok (.iload_n 3, 1) := by decide +kernel
theorem dL_law_509 : decode cL_law 509 = .ok (.iconst 2, 1) := by decide +kernel
theorem dL_law_510 : decode cL_law 510 = .ok (.iadd, 1) := by decide +kernel
theorem dL_law_511 : decode cL_law 511 = .ok (.iaload, 1) := by decide +kernel
theorem dL_law_512 : decode cL_law 512 = .ok (.aload_n 0, 1) := by decide +kernel
theorem dL_law_513 : decode cL_law 513 = .ok (.iload_n 3, 1) := by decide +kernel
theorem dL_law_514 : decode cL_law 514 = .ok (.iconst 3, 1) := by decide +kernel
theorem dL_law_515 : decode cL_law 515 = .ok (.iadd, 1) := by decide +kernel
theorem dL_law_516 : decode cL_law 516 = .ok (.iaload, 1) := by decide +kernel
theorem dL_law_517 : decode cL_law 517 = .ok (.invokevirtual 64, 3) := by decide +kernel
theorem dL_law_520 : decode cL_law 520 = .ok (.pop, 1) := by decide +kernel
theorem dL_law_521 : decode cL_law 521 = .ok (.aload_n 2, 1) := by decide +kernel
theorem dL_law_522 : decode cL_law 522 = .ok (.aload_n 0, 1) := by decide +kernel
theorem dL_law_523 : decode cL_law 523 = .ok (.iload_n 3, 1) := by decide +kernel
theorem dL_law_524 : decode cL_law 524 = .ok (.iconst 1, 1) := by decide +kernel
theorem dL_law_525 : decode cL_law 525 = .ok (.iadd, 1) := by decide +kernel
theorem dL_law_526 : decode cL_law 526 = .ok (.iaload, 1) := by decide +kernel
theorem dL_law_527 : decode cL_law 527 = .ok (.aload_n 0, 1) := by decide +kernel
theorem dL_law_528 : decode cL_law 528 = .ok (.iload_n 3, 1) := by decide +kernel
theorem dL_law_529 : decode cL_law 529 = .ok (.iconst 2, 1) := by decide +kernel
theorem dL_law_530 : decode cL_law 530 = .ok (.iadd, 1) := by decide +kernel
theorem dL_law_531 : decode cL_law 531 = .ok (.iaload, 1) := by decide +kernel
theorem dL_law_532 : decode cL_law 532 = .ok (.aload_n 0, 1) := by decide +kernel
theorem dL_law_533 : decode cL_law 533 = .ok (.iload_n 3, 1) := by decide +kernel
theorem dL_law_534 : decode cL_law 534 = .ok (.iconst 3, 1) := by decide +kernel
theorem dL_law_535 : decode cL_law 535 = .ok (.iadd, 1) := by decide +kernel
theorem dL_law_536 : decode cL_law 536 = .ok (.iaload, 1) := by decide +kernel
theorem dL_law_537 : decode cL_law 537 = .ok (.invokevirtual 67, 3) := by decide +kernel
theorem dL_law_540 : decode cL_law 540 = .ok (.pop, 1) := by decide +kernel
theorem dL_law_541 : decode cL_law 541 = .ok (.goto 710, 3) := by decide +kernel
theorem dL_law_544 : decode cL_law 544 = .ok (.aload_n 1, 1) := by decide +kernel
theorem dL_law_545 : decode cL_law 545 = .ok (.aload_n 0, 1) := by decide +kernel
theorem dL_law_546 : decode cL_law 546 = .ok (.iload_n 3, 1) := by decide +kernel
theorem dL_law_547 : decode cL_law 547 = .ok (.iconst 1, 1) := by decide +kernel
theorem dL_law_548 : decode cL_law 548 = .ok (.iadd, 1) := by decide +kernel
theorem dL_law_549 : decode cL_law 549 = .ok (.iaload, 1) := by decide +kernel
theorem dL_law_550 : decode cL_law 550 = .ok (.aload_n 0, 1) := by decide +kernel
theorem dL_law_551 : decode cL_law 551 = .ok (.iload_n 3, 1) := by decide +kernel
theorem dL_law_552 : decode cL_law 552 = .ok (.iconst 2, 1) := by decide +kernel
theorem dL_law_553 : decode cL_law 553 = .ok (.iadd, 1) := by decide +kernel
theorem dL_law_554 : decode cL_law 554 = .ok (.iaload, 1) := by decide +kernel
theorem dL_law_555 : decode cL_law 555 = .ok (.invokevirtual 68, 3) := by decide +kernel
theorem dL_law_558 : decode cL_law 558 = .ok (.pop, 1) := by decide +kernel
theorem dL_law_559 : decode cL_law 559 = .ok (.aload_n 2, 1) := by decide +kernel
theorem dL_law_560 : decode cL_law 560 = .ok (.aload_n 0, 1) := by decide +kernel
theorem dL_law_561 : decode cL_law 561 = .ok (.iload_n 3, 1) := by decide +kernel
theorem dL_law_562 : decode cL_law 562 = .ok (.iconst 1, 1) := by decide +kernel
theorem dL_law_563 : decode cL_law 563 = .ok (.iadd, 1) := by decide +kernel
theorem dL_law_564 : decode cL_law 564 = .ok (.iaload, 1) := by decide +kernel
theorem dL_law_565 : decode cL_law 565 = .ok (.aload_n 0, 1) := by decide +kernel
theorem dL_law_566 : decode cL_law 566 = .ok (.iload_n 3, 1) := by decide +kernel
theorem dL_law_567 : decode cL_law 567 = .ok (.iconst 2, 1) := by decide +kernel
theorem dL_law_568 : decode cL_law 568 = .ok (.iadd, 1) := by decide +kernel
theorem dL_law_569 : decode cL_law 569 = .ok (.iaload, 1) := by decide +kernel
theorem dL_law_570 : decode cL_law 570 = .ok (.invokevirtual 72, 3) := by decide +kernel
theorem dL_law_573 : decode cL_law 573 = .ok (.pop, 1) := by decide +kernel
theorem dL_law_574 : decode cL_law 574 = .ok (.goto 677, 3) := by decide +kernel
theorem dL_law_577 : decode cL_law 577 = .ok (.aload_n 1, 1) := by decide +kernel
theorem dL_law_578 : decode cL_law 578 = .ok (.aload_n 0, 1) := by decide +kernel
theorem dL_law_579 : decode cL_law 579 = .ok (.iload_n 3, 1) := by decide +kernel
theorem dL_law_580 : decode cL_law 580 = .ok (.iconst 1, 1) := by decide +kernel
theorem dL_law_581 : decode cL_law 581 = .ok (.iadd, 1) := by decide +kernel
theorem dL_law_582 : decode cL_law 582 = .ok (.iaload, 1) := by decide +kernel
theorem dL_law_583 : decode cL_law 583 = .ok (.aload_n 0, 1) := by decide +kernel
theorem dL_law_584 : decode cL_law 584 = .ok (.iload_n 3, 1) := by decide +kernel
theorem dL_law_585 : decode cL_law 585 = .ok (.iconst 2, 1) := by decide +kernel
theorem dL_law_586 : decode cL_law 586 = .ok (.iadd, 1) := by decide +kernel
theorem dL_law_587 : decode cL_law 587 = .ok (.iaload, 1) := by decide +kernel
theorem dL_law_588 : decode cL_law 588 = .ok (.invokevirtual 73, 3) := by decide +kernel
theorem dL_law_591 : decode cL_law 591 = .ok (.pop, 1) := by decide +kernel
theorem dL_law_592 : decode cL_law 592 = .ok (.aload_n 2, 1) := by decide +kernel
theorem dL_law_593 : decode cL_law 593 = .ok (.aload_n 0, 1) := by decide +kernel
theorem dL_law_594 : decode cL_law 594 = .ok (.iload_n 3, 1) := by decide +kernel
theorem dL_law_595 : decode cL_law 595 = .ok (.iconst 1, 1) := by decide +kernel
theorem dL_law_596 : decode cL_law 596 = .ok (.iadd, 1) := by decide +kernel
theorem dL_law_597 : decode cL_law 597 = .ok (.iaload, 1) := by decide +kernel
theorem dL_law_598 : decode cL_law 598 = .ok (.aload_n 0, 1) := by decide +kernel
theorem dL_law_599 : decode cL_law 599 = .ok (.iload_n 3, 1) := by decide +kernel
theorem dL_law_600 : decode cL_law 600 = .ok (.iconst 2, 1) := by decide +kernel
theorem dL_law_601 : decode cL_law 601 = .ok (.iadd, 1) := by decide +kernel
theorem dL_law_602 : decode cL_law 602 = .ok (.iaload, 1) := by decide +kernel
theorem dL_law_603 : decode cL_law 603 = .ok (.invokevirtual 76, 3) := by decide +kernel
theorem dL_law_606 : decode cL_law 606 = .ok (.pop, 1) := by decide +kernel
theorem dL_law_607 : decode cL_law 607 = .ok (.goto 644, 3) := by decide +kernel
theorem dL_law_610 : decode cL_law 610 = .ok (.aload_n 1, 1) := by decide +kernel
theorem dL_law_611 : decode cL_law 611 = .ok (.aload_n 0, 1) := by decide +kernel
theorem dL_law_612 : decode cL_law 612 = .ok (.iload_n 3, 1) := by decide +kernel
theorem dL_law_613 : decode cL_law 613 = .ok (.iconst 1, 1) := by decide +kernel
theorem dL_law_614 : decode cL_law 614 = .ok (.iadd, 1) := by decide +kernel
theorem dL_law_615 : decode cL_law 615 = .ok (.iaload, 1) := by decide +kernel
theorem dL_law_616 : decode cL_law 616 = .ok (.aload_n 0, 1) := by decide +kernel
theorem dL_law_617 : decode cL_law 617 = .ok (.iload_n 3, 1) := by decide +kernel
theorem dL_law_618 : decode cL_law 618 = .ok (.iconst 2, 1) := by decide +kernel
theorem dL_law_619 : decode cL_law 619 = .ok (.iadd, 1) := by decide +kernel
theorem dL_law_620 : decode cL_law 620 = .ok (.iaload, 1) := by decide +kernel
theorem dL_law_621 : decode cL_law 621 = .ok (.aload_n 0, 1) := by decide +kernel
theorem dL_law_622 : decode cL_law 622 = .ok (.iload_n 3, 1) := by decide +kernel
theorem dL_law_623 : decode cL_law 623 = .ok (.iconst 3, 1) := by decide +kernel
theorem dL_law_624 : decode cL_law 624 = .ok (.iadd, 1) := by decide +kernel
theorem dL_law_625 : decode cL_law 625 = .ok (.iaload, 1) := by decide +kernel
theorem dL_law_626 : decode cL_law 626 = .ok (.aload_n 0, 1) := by decide +kernel
theorem dL_law_627 : decode cL_law 627 = .ok (.iload_n 3, 1) := by decide +kernel
theorem dL_law_628 : decode cL_law 628 = .ok (.iconst 4, 1) := by decide +kernel
theorem dL_law_629 : decode cL_law 629 = .ok (.iadd, 1) := by decide +kernel
theorem dL_law_630 : decode cL_law 630 = .ok (.iaload, 1) := by decide +kernel
theorem dL_law_631 : decode cL_law 631 = .ok (.invokevirtual 77, 3) := by decide +kernel
theorem dL_law_634 : decode cL_law 634 = .ok (.pop, 1) := by decide +kernel
theorem dL_law_635 : decode cL_law 635 = .ok (.aload_n 2, 1) := by decide +kernel
theorem dL_law_636 : decode cL_law 636 = .ok (.aload_n 0, 1) := by decide +kernel
theorem dL_law_637 : decode cL_law 637 = .ok (.iload_n 3, 1) := by decide +kernel
theorem dL_law_638 : decode cL_law 638 = .ok (.iconst 1, 1) := by decide +kernel
theorem dL_law_639 : decode cL_law 639 = .ok (.iadd, 1) := by decide +kernel
theorem dL_law_640 : decode cL_law 640 = .ok (.iaload, 1) := by decide +kernel
theorem dL_law_641 : decode cL_law 641 = .ok (.aload_n 0, 1) := by decide +kernel
theorem dL_law_642 : decode cL_law 642 = .ok (.iload_n 3, 1) := by decide +kernel
theorem dL_law_643 : decode cL_law 643 = .ok (.iconst 2, 1) := by decide +kernel
theorem dL_law_644 : decode cL_law 644 = .ok (.iadd, 1) := by decide +kernel
theorem dL_law_645 : decode cL_law 645 = .ok (.iaload, 1) := by decide +kernel
theorem dL_law_646 : decode cL_law 646 = .ok (.aload_n 0, 1) := by decide +kernel
theorem dL_law_647 : decode cL_law 647 = .ok (.iload_n 3, 1) := by decide +kernel
theorem dL_law_648 : decode cL_law 648 = .ok (.iconst 3, 1) := by decide +kernel
theorem dL_law_649 : decode cL_law 649 = .ok (.iadd, 1) := by decide +kernel
theorem dL_law_650 : decode cL_law 650 = .ok (.iaload, 1) := by decide +kernel
theorem dL_law_651 : decode cL_law 651 = .ok (.aload_n 0, 1) := by decide +kernel
theorem dL_law_652 : decode cL_law 652 = .ok (.iload_n 3, 1) := by decide +kernel
theorem dL_law_653 : decode cL_law 653 = .ok (.iconst 4, 1) := by decide +kernel
theorem dL_law_654 : decode cL_law 654 = .ok (.iadd, 1) := by decide +kernel
theorem dL_law_655 : decode cL_law 655 = .ok (.iaload, 1) := by decide +kernel
theorem dL_law_656 : decode cL_law 656 = .ok (.invokevirtual 81, 3) := by decide +kernel
theorem dL_law_659 : decode cL_law 659 = .ok (.pop, 1) := by decide +kernel
theorem dL_law_660 : decode cL_law 660 = .ok (.goto 591, 3) := by decide +kernel
theorem dL_law_663 : decode cL_law 663 = .ok (.aload_n 1, 1) := by decide +kernel
theorem dL_law_664 : decode cL_law 664 = .ok (.aload_n 0, 1) := by decide +kernel
theorem dL_law_665 : decode cL_law 665 = .ok (.iload_n 3, 1) := by decide +kernel
theorem dL_law_666 : decode cL_law 666 = .ok (.iconst 1, 1) := by decide +kernel
theorem dL_law_667 : decode cL_law 667 = .ok (.iadd, 1) := by decide +kernel
theorem dL_law_668 : decode cL_law 668 = .ok (.iaload, 1) := by decide +kernel
theorem dL_law_669 : decode cL_law 669 = .ok (.aload_n 0, 1) := by decide +kernel
theorem dL_law_670 : decode cL_law 670 = .ok (.iload_n 3, 1) := by decide +kernel
theorem dL_law_671 : decode cL_law 671 = .ok (.iconst 2, 1) := by decide +kernel
theorem dL_law_672 : decode cL_law 672 = .ok (.iadd, 1) := by decide +kernel
theorem dL_law_673 : decode cL_law 673 = .ok (.iaload, 1) := by decide +kernel
theorem dL_law_674 : decode cL_law 674 = .ok (.invokevirtual 82, 3) := by decide +kernel
theorem dL_law_677 : decode cL_law 677 = .ok (.pop, 1) := by decide +kernel
theorem dL_law_678 : decode cL_law 678 = .ok (.aload_n 2, 1) := by decide +kernel
theorem dL_law_679 : decode cL_law 679 = .ok (.aload_n 0, 1) := by decide +kernel
theorem dL_law_680 : decode cL_law 680 = .ok (.iload_n 3, 1) := by decide +kernel
theorem dL_law_681 : decode cL_law 681 = .ok (.iconst 1, 1) := by decide +kernel
theorem dL_law_682 : decode cL_law 682 = .ok (.iadd, 1) := by decide +kernel
theorem dL_law_683 : decode cL_law 683 = .ok (.iaload, 1) := by decide +kernel
theorem dL_law_684 : decode cL_law 684 = .ok (.aload_n 0, 1) := by decide +kernel
theorem dL_law_685 : decode cL_law 685 = .ok (.iload_n 3, 1) := by decide +kernel
theorem dL_law_686 : decode cL_law 686 = .ok (.iconst 2, 1) := by decide +kernel
theorem dL_law_687 : decode cL_law 687 = .ok (.iadd, 1) := by decide +kernel
theorem dL_law_688 : decode cL_law 688 = .ok (.iaload, 1) := by decide +kernel
theorem dL_law_689 : decode cL_law 689 = .ok (.invokevirtual 85, 3) := by decide +kernel
theorem dL_law_692 : decode cL_law 692 = .ok (.pop, 1) := by decide +kernel
theorem dL_law_693 : decode cL_law 693 = .ok (.goto 558, 3) := by decide +kernel
theorem dL_law_696 : decode cL_law 696 = .ok (.aload_n 1, 1) := by decide +kernel
theorem dL_law_697 : decode cL_law 697 = .ok (.aload_n 0, 1) := by decide +kernel
theorem dL_law_698 : decode cL_law 698 = .ok (.iload_n 3, 1) := by decide +kernel
theorem dL_law_699 : decode cL_law 699 = .ok (.iconst 1, 1) := by decide +kernel
theorem dL_law_700 : decode cL_law 700 = .ok (.iadd, 1) := by decide +kernel
theorem dL_law_701 : decode cL_law 701 = .ok (.iaload, 1) := by decide +kernel
theorem dL_law_702 : decode cL_law 702 = .ok (.invokevirtual 86, 3) := by decide +kernel
theorem dL_law_705 : decode cL_law 705 = .ok (.pop, 1) := by decide +kernel
theorem dL_law_706 : decode cL_law 706 = .ok (.aload_n 2, 1) := by decide +kernel
theorem dL_law_707 : decode cL_law 707 = .ok (.aload_n 0, 1) := by decide +kernel
theorem dL_law_708 : decode cL_law 708 = .ok (.iload_n 3, 1) := by decide +kernel
theorem dL_law_709 : decode cL_law 709 = .ok (.iconst 1, 1) := by decide +kernel
theorem dL_law_710 : decode cL_law 710 = .ok (.iadd, 1) := by decide +kernel
theorem dL_law_711 : decode cL_law 711 = .ok (.iaload, 1) := by decide +kernel
theorem dL_law_712 : decode cL_law 712 = .ok (.invokevirtual 89, 3) := by decide +kernel
theorem dL_law_715 : decode cL_law 715 = .ok (.pop, 1) := by decide +kernel
theorem dL_law_716 : decode cL_law 716 = .ok (.goto 535, 3) := by decide +kernel
theorem dL_law_719 : decode cL_law 719 = .ok (.aload_n 1, 1) := by decide +kernel
theorem dL_law_720 : decode cL_law 720 = .ok (.aload_n 0, 1) := by decide +kernel
theorem dL_law_721 : decode cL_law 721 = .ok (.iload_n 3, 1) := by decide +kernel
theorem dL_law_722 : decode cL_law 722 = .ok (.iconst 1, 1) := by decide +kernel
theorem dL_law_723 : decode cL_law 723 = .ok (.iadd, 1) := by decide +kernel
theorem dL_law_724 : decode cL_law 724 = .ok (.iaload, 1) := by decide +kernel
theorem dL_law_725 : decode cL_law 725 = .ok (.aload_n 0, 1) := by decide +kernel
theorem dL_law_726 : decode cL_law 726 = .ok (.iload_n 3, 1) := by decide +kernel
theorem dL_law_727 : decode cL_law 727 = .ok (.iconst 2, 1) := by decide +kernel
theorem dL_law_728 : decode cL_law 728 = .ok (.iadd, 1) := by decide +kernel
theorem dL_law_729 : decode cL_law 729 = .ok (.iaload, 1) := by decide +kernel
theorem dL_law_730 : decode cL_law 730 = .ok (.aload_n 0, 1) := by decide +kernel
theorem dL_law_731 : decode cL_law 731 = .ok (.iload_n 3, 1) := by decide +kernel
theorem dL_law_732 : decode cL_law 732 = .ok (.iconst 3, 1) := by decide +kernel
theorem dL_law_733 : decode cL_law 733 = .ok (.iadd, 1) := by decide +kernel
theorem dL_law_734 : decode cL_law 734 = .ok (.iaload, 1) := by decide +kernel
theorem dL_law_735 : decode cL_law 735 = .ok (.invokevirtual 90, 3) := by decide +kernel
theorem dL_law_738 : decode cL_law 738 = .ok (.pop, 1) := by decide +kernel
theorem dL_law_739 : decode cL_law 739 = .ok (.aload_n 2, 1) := by decide +kernel
theorem dL_law_740 : decode cL_law 740 = .ok (.aload_n 0, 1) := by decide +kernel
theorem dL_law_741 : decode cL_law 741 = .ok (.iload_n 3, 1) := by decide +kernel
theorem dL_law_742 : decode cL_law 742 = .ok (.iconst 1, 1) := by decide +kernel
theorem dL_law_743 : decode cL_law 743 = .ok (.iadd, 1) := by decide +kernel
theorem dL_law_744 : decode cL_law 744 = .ok (.iaload, 1) := by decide +kernel
theorem dL_law_745 : decode cL_law 745 = .ok (.aload_n 0, 1) := by decide +kernel
theorem dL_law_746 : decode cL_law 746 = .ok (.iload_n 3, 1) := by decide +kernel
theorem dL_law_747 : decode cL_law 747 = .ok (.iconst 2, 1) := by decide +kernel
theorem dL_law_748 : decode cL_law 748 = .ok (.iadd, 1) := by decide +kernel
theorem dL_law_749 : decode cL_law 749 = .ok (.iaload, 1) := by decide +kernel
theorem dL_law_750 : decode cL_law 750 = .ok (.aload_n 0, 1) := by decide +kernel
theorem dL_law_751 : decode cL_law 751 = .ok (.iload_n 3, 1) := by decide +kernel
theorem dL_law_752 : decode cL_law 752 = .ok (.iconst 3, 1) := by decide +kernel
theorem dL_law_753 : decode cL_law 753 = .ok (.iadd, 1) := by decide +kernel
theorem dL_law_754 : decode cL_law 754 = .ok (.iaload, 1) := by decide +kernel
theorem dL_law_755 : decode cL_law 755 = .ok (.invokevirtual 93, 3) := by decide +kernel
theorem dL_law_758 : decode cL_law 758 = .ok (.pop, 1) := by decide +kernel
theorem dL_law_759 : decode cL_law 759 = .ok (.goto 492, 3) := by decide +kernel
theorem dL_law_762 : decode cL_law 762 = .ok (.aload_n 1, 1) := by decide +kernel
theorem dL_law_763 : decode cL_law 763 = .ok (.aload_n 0, 1) := by decide +kernel
theorem dL_law_764 : decode cL_law 764 = .ok (.iload_n 3, 1) := by decide +kernel
theorem dL_law_765 : decode cL_law 765 = .ok (.iconst 1, 1) := by decide +kernel
theorem dL_law_766 : decode cL_law 766 = .ok (.iadd, 1) := by decide +kernel
theorem dL_law_767 : decode cL_law 767 = .ok (.iaload, 1) := by decide +kernel
theorem dL_law_768 : decode cL_law 768 = .ok (.aload_n 0, 1) := by decide +kernel
theorem dL_law_769 : decode cL_law 769 = .ok (.iload_n 3, 1) := by decide +kernel
theorem dL_law_770 : decode cL_law 770 = .ok (.iconst 2, 1) := by decide +kernel
theorem dL_law_771 : decode cL_law 771 = .ok (.iadd, 1) := by decide +kernel
theorem dL_law_772 : decode cL_law 772 = .ok (.iaload, 1) := by decide +kernel
theorem dL_law_773 : decode cL_law 773 = .ok (.aload_n 0, 1) := by decide +kernel
theorem dL_law_774 : decode cL_law 774 = .ok (.iload_n 3, 1) := by decide +kernel
theorem dL_law_775 : decode cL_law 775 = .ok (.iconst 3, 1) := by decide +kernel
theorem dL_law_776 : decode cL_law 776 = .ok (.iadd, 1) := by decide +kernel
theorem dL_law_777 : decode cL_law 777 = .ok (.iaload, 1) := by decide +kernel
theorem dL_law_778 : decode cL_law 778 = .ok (.invokevirtual 94, 3) := by decide +kernel
theorem dL_law_781 : decode cL_law 781 = .ok (.pop, 1) := by decide +kernel
theorem dL_law_782 : decode cL_law 782 = .ok (.aload_n 2, 1) := by decide +kernel
theorem dL_law_783 : decode cL_law 783 = .ok (.aload_n 0, 1) := by decide +kernel
theorem dL_law_784 : decode cL_law 784 = .ok (.iload_n 3, 1) := by decide +kernel
theorem dL_law_785 : decode cL_law 785 = .ok (.iconst 1, 1) := by decide +kernel
theorem dL_law_786 : decode cL_law 786 = .ok (.iadd, 1) := by decide +kernel
theorem dL_law_787 : decode cL_law 787 = .ok (.iaload, 1) := by decide +kernel
theorem dL_law_788 : decode cL_law 788 = .ok (.aload_n 0, 1) := by decide +kernel
theorem dL_law_789 : decode cL_law 789 = .ok (.iload_n 3, 1) := by decide +kernel
theorem dL_law_790 : decode cL_law 790 = .ok (.iconst 2, 1) := by decide +kernel
theorem dL_law_791 : decode cL_law 791 = .ok (.iadd, 1) := by decide +kernel
theorem dL_law_792 : decode cL_law 792 = .ok (.iaload, 1) := by decide +kernel
theorem dL_law_793 : decode cL_law 793 = .ok (.aload_n 0, 1) := by decide +kernel
theorem dL_law_794 : decode cL_law 794 = .ok (.iload_n 3, 1) := by decide +kernel
theorem dL_law_795 : decode cL_law 795 = .ok (.iconst 3, 1) := by decide +kernel
theorem dL_law_796 : decode cL_law 796 = .ok (.iadd, 1) := by decide +kernel
theorem dL_law_797 : decode cL_law 797 = .ok (.iaload, 1) := by decide +kernel
theorem dL_law_798 : decode cL_law 798 = .ok (.invokevirtual 97, 3) := by decide +kernel
theorem dL_law_801 : decode cL_law 801 = .ok (.pop, 1) := by decide +kernel
theorem dL_law_802 : decode cL_law 802 = .ok (.goto 449, 3) := by decide +kernel
theorem dL_law_805 : decode cL_law 805 = .ok (.aload_n 1, 1) := by decide +kernel
theorem dL_law_806 : decode cL_law 806 = .ok (.aload_n 0, 1) := by decide +kernel
theorem dL_law_807 : decode cL_law 807 = .ok (.iload_n 3, 1) := by decide +kernel
theorem dL_law_808 : decode cL_law 808 = .ok (.iconst 1, 1) := by decide +kernel
theorem dL_law_809 : decode cL_law 809 = .ok (.iadd, 1) := by decide +kernel
theorem dL_law_810 : decode cL_law 810 = .ok (.iaload, 1) := by decide +kernel
theorem dL_law_811 : decode cL_law 811 = .ok (.aload_n 0, 1) := by decide +kernel
theorem dL_law_812 : decode cL_law 812 = .ok (.iload_n 3, 1) := by decide +kernel
theorem dL_law_813 : decode cL_law 813 = .ok (.iconst 2, 1) := by decide +kernel
theorem dL_law_814 : decode cL_law 814 = .ok (.iadd, 1) := by decide +kernel
theorem dL_law_815 : decode cL_law 815 = .ok (.iaload, 1) := by decide +kernel
theorem dL_law_816 : decode cL_law 816 = .ok (.aload_n 0, 1) := by decide +kernel
theorem dL_law_817 : decode cL_law 817 = .ok (.iload_n 3, 1) := by decide +kernel
theorem dL_law_818 : decode cL_law 818 = .ok (.iconst 3, 1) := by decide +kernel
theorem dL_law_819 : decode cL_law 819 = .ok (.iadd, 1) := by decide +kernel
theorem dL_law_820 : decode cL_law 820 = .ok (.iaload, 1) := by decide +kernel
theorem dL_law_821 : decode cL_law 821 = .ok (.invokevirtual 98, 3) := by decide +kernel
theorem dL_law_824 : decode cL_law 824 = .ok (.pop, 1) := by decide +kernel
theorem dL_law_825 : decode cL_law 825 = .ok (.aload_n 2, 1) := by decide +kernel
theorem dL_law_826 : decode cL_law 826 = .ok (.aload_n 0, 1) := by decide +kernel
theorem dL_law_827 : decode cL_law 827 = .ok (.iload_n 3, 1) := by decide +kernel
theorem dL_law_828 : decode cL_law 828 = .ok (.iconst 1, 1) := by decide +kernel
theorem dL_law_829 : decode cL_law 829 = .ok (.iadd, 1) := by decide +kernel
theorem dL_law_830 : decode cL_law 830 = .ok (.iaload, 1) := by decide +kernel
theorem dL_law_831 : decode cL_law 831 = .ok (.aload_n 0, 1) := by decide +kernel
theorem dL_law_832 : decode cL_law 832 = .ok (.iload_n 3, 1) := by decide +kernel
theorem dL_law_833 : decode cL_law 833 = .ok (.iconst 2, 1) := by decide +kernel
theorem dL_law_834 : decode cL_law 834 = .ok (.iadd, 1) := by decide +kernel
theorem dL_law_835 : decode cL_law 835 = .ok (.iaload, 1) := by decide +kernel
theorem dL_law_836 : decode cL_law 836 = .ok (.aload_n 0, 1) := by decide +kernel
theorem dL_law_837 : decode cL_law 837 = .ok (.iload_n 3, 1) := by decide +kernel
theorem dL_law_838 : decode cL_law 838 = .ok (.iconst 3, 1) := by decide +kernel
theorem dL_law_839 : decode cL_law 839 = .ok (.iadd, 1) := by decide +kernel
theorem dL_law_840 : decode cL_law 840 = .ok (.iaload, 1) := by decide +kernel
theorem dL_law_841 : decode cL_law 841 = .ok (.invokevirtual 101, 3) := by decide +kernel
theorem dL_law_844 : decode cL_law 844 = .ok (.pop, 1) := by decide +kernel
theorem dL_law_845 : decode cL_law 845 = .ok (.goto 406, 3) := by decide +kernel
theorem dL_law_848 : decode cL_law 848 = .ok (.aload_n 1, 1) := by decide +kernel
theorem dL_law_849 : decode cL_law 849 = .ok (.aload_n 0, 1) := by decide +kernel
theorem dL_law_850 : decode cL_law 850 = .ok (.iload_n 3, 1) := by decide +kernel
theorem dL_law_851 : decode cL_law 851 = .ok (.iconst 1, 1) := by decide +kernel
theorem dL_law_852 : decode cL_law 852 = .ok (.iadd, 1) := by decide +kernel
theorem dL_law_853 : decode cL_law 853 = .ok (.iaload, 1) := by decide +kernel
theorem dL_law_854 : decode cL_law 854 = .ok (.aload_n 0, 1) := by decide +kernel
theorem dL_law_855 : decode cL_law 855 = .ok (.iload_n 3, 1) := by decide +kernel
theorem dL_law_856 : decode cL_law 856 = .ok (.iconst 2, 1) := by decide +kernel
theorem dL_law_857 : decode cL_law 857 = .ok (.iadd, 1) := by decide +kernel
theorem dL_law_858 : decode cL_law 858 = .ok (.iaload, 1) := by decide +kernel
theorem dL_law_859 : decode cL_law 859 = .ok (.invokevirtual 102, 3) := by decide +kernel
theorem dL_law_862 : decode cL_law 862 = .ok (.pop, 1) := by decide +kernel
theorem dL_law_863 : decode cL_law 863 = .ok (.aload_n 2, 1) := by decide +kernel
theorem dL_law_864 : decode cL_law 864 = .ok (.aload_n 0, 1) := by decide +kernel
theorem dL_law_865 : decode cL_law 865 = .ok (.iload_n 3, 1) := by decide +kernel
theorem dL_law_866 : decode cL_law 866 = .ok (.iconst 1, 1) := by decide +kernel
theorem dL_law_867 : decode cL_law 867 = .ok (.iadd, 1) := by decide +kernel
theorem dL_law_868 : decode cL_law 868 = .ok (.iaload, 1) := by decide +kernel
theorem dL_law_869 : decode cL_law 869 = .ok (.aload_n 0, 1) := by decide +kernel
theorem dL_law_870 : decode cL_law 870 = .ok (.iload_n 3, 1) := by decide +kernel
theorem dL_law_871 : decode cL_law 871 = .ok (.iconst 2, 1) := by decide +kernel
theorem dL_law_872 : decode cL_law 872 = .ok (.iadd, 1) := by decide +kernel
theorem dL_law_873 : decode cL_law 873 = .ok (.iaload, 1) := by decide +kernel
theorem dL_law_874 : decode cL_law 874 = .ok (.invokevirtual 105, 3) := by decide +kernel
theorem dL_law_877 : decode cL_law 877 = .ok (.pop, 1) := by decide +kernel
theorem dL_law_878 : decode cL_law 878 = .ok (.goto 373, 3) := by decide +kernel
theorem dL_law_881 : decode cL_law 881 = .ok (.aload_n 1, 1) := by decide +kernel
theorem dL_law_882 : decode cL_law 882 = .ok (.aload_n 0, 1) := by decide +kernel
theorem dL_law_883 : decode cL_law 883 = .ok (.iload_n 3, 1) := by decide +kernel
theorem dL_law_884 : decode cL_law 884 = .ok (.iconst 1, 1) := by decide +kernel
theorem dL_law_885 : decode cL_law 885 = .ok (.iadd, 1) := by decide +kernel
theorem dL_law_886 : decode cL_law 886 = .ok (.iaload, 1) := by decide +kernel
theorem dL_law_887 : decode cL_law 887 = .ok (.aload_n 0, 1) := by decide +kernel
theorem dL_law_888 : decode cL_law 888 = .ok (.iload_n 3, 1) := by decide +kernel
theorem dL_law_889 : decode cL_law 889 = .ok (.iconst 2, 1) := by decide +kernel
theorem dL_law_890 : decode cL_law 890 = .ok (.iadd, 1) := by decide +kernel
theorem dL_law_891 : decode cL_law 891 = .ok (.iaload, 1) := by decide +kernel
theorem dL_law_892 : decode cL_law 892 = .ok (.invokevirtual 106, 3) := by decide +kernel
theorem dL_law_895 : decode cL_law 895 = .ok (.pop, 1) := by decide +kernel
theorem dL_law_896 : decode cL_law 896 = .ok (.aload_n 2, 1) := by decide +kernel
theorem dL_law_897 : decode cL_law 897 = .ok (.aload_n 0, 1) := by decide +kernel
theorem dL_law_898 : decode cL_law 898 = .ok (.iload_n 3, 1) := by decide +kernel
theorem dL_law_899 : decode cL_law 899 = .ok (.iconst 1, 1) := by decide +kernel
theorem dL_law_900 : decode cL_law 900 = .ok (.iadd, 1) := by decide +kernel
theorem dL_law_901 : decode cL_law 901 = .ok (.iaload, 1) := by decide +kernel
theorem dL_law_902 : decode cL_law 902 = .ok (.aload_n 0, 1) := by decide +kernel
theorem dL_law_903 : decode cL_law 903 = .ok (.iload_n 3, 1) := by decide +kernel
theorem dL_law_904 : decode cL_law 904 = .ok (.iconst 2, 1) := by decide +kernel
theorem dL_law_905 : decode cL_law 905 = .ok (.iadd, 1) := by decide +kernel
theorem dL_law_906 : decode cL_law 906 = .ok (.iaload, 1) := by decide +kernel
theorem dL_law_907 : decode cL_law 907 = .ok (.invokevirtual 109, 3) := by decide +kernel
theorem dL_law_910 : decode cL_law 910 = .ok (.pop, 1) := by decide +kernel
theorem dL_law_911 : decode cL_law 911 = .ok (.goto 340, 3) := by decide +kernel
theorem dL_law_914 : decode cL_law 914 = .ok (.aload_n 1, 1) := by decide +kernel
theorem dL_law_915 : decode cL_law 915 = .ok (.aload_n 0, 1) := by decide +kernel
theorem dL_law_916 : decode cL_law 916 = .ok (.iload_n 3, 1) := by decide +kernel
theorem dL_law_917 : decode cL_law 917 = .ok (.iconst 1, 1) := by decide +kernel
theorem dL_law_918 : decode cL_law 918 = .ok (.iadd, 1) := by decide +kernel
theorem dL_law_919 : decode cL_law 919 = .ok (.iaload, 1) := by decide +kernel
theorem dL_law_920 : decode cL_law 920 = .ok (.aload_n 0, 1) := by decide +kernel
theorem dL_law_921 : decode cL_law 921 = .ok (.iload_n 3, 1) := by decide +kernel
theorem dL_law_922 : decode cL_law 922 = .ok (.iconst 2, 1) := by decide +kernel
theorem dL_law_923 : decode cL_law 923 = .ok (.iadd, 1) := by decide +kernel
theorem dL_law_924 : decode cL_law 924 = .ok (.iaload, 1) := by decide +kernel
theorem dL_law_925 : decode cL_law 925 = .ok (.invokevirtual 110, 3) := by decide +kernel
theorem dL_law_928 : decode cL_law 928 = .ok (.pop, 1) := by decide +kernel
theorem dL_law_929 : decode cL_law 929 = .ok (.aload_n 2, 1) := by decide +kernel
theorem dL_law_930 : decode cL_law 930 = .ok (.aload_n 0, 1) := by decide +kernel
theorem dL_law_931 : decode cL_law 931 = .ok (.iload_n 3, 1) := by decide +kernel
theorem dL_law_932 : decode cL_law 932 = .ok (.iconst 1, 1) := by decide +kernel
theorem dL_law_933 : decode cL_law 933 = .ok (.iadd, 1) := by decide +kernel
theorem dL_law_934 : decode cL_law 934 = .ok (.iaload, 1) := by decide +kernel
theorem dL_law_935 : decode cL_law 935 = .ok (.aload_n 0, 1) := by decide +kernel
theorem dL_law_936 : decode cL_law 936 = .ok (.iload_n 3, 1) := by decide +kernel
theorem dL_law_937 : decode cL_law 937 = .ok (.iconst 2, 1) := by decide +kernel
theorem dL_law_938 : decode cL_law 938 = .ok (.iadd, 1) := by decide +kernel
theorem dL_law_939 : decode cL_law 939 = .ok (.iaload, 1) := by decide +kernel
theorem dL_law_940 : decode cL_law 940 = .ok (.invokevirtual 113, 3) := by decide +kernel
theorem dL_law_943 : decode cL_law 943 = .ok (.pop, 1) := by decide +kernel
theorem dL_law_944 : decode cL_law 944 = .ok (.goto 307, 3) := by decide +kernel
theorem dL_law_947 : decode cL_law 947 = .ok (.aload_n 1, 1) := by decide +kernel
theorem dL_law_948 : decode cL_law 948 = .ok (.aload_n 0, 1) := by decide +kernel
theorem dL_law_949 : decode cL_law 949 = .ok (.iload_n 3, 1) := by decide +kernel
theorem dL_law_950 : decode cL_law 950 = .ok (.iconst 1, 1) := by decide +kernel
theorem dL_law_951 : decode cL_law 951 = .ok (.iadd, 1) := by decide +kernel
theorem dL_law_952 : decode cL_law 952 = .ok (.iaload, 1) := by decide +kernel
theorem dL_law_953 : decode cL_law 953 = .ok (.aload_n 0, 1) := by decide +kernel
theorem dL_law_954 : decode cL_law 954 = .ok (.iload_n 3, 1) := by decide +kernel
theorem dL_law_955 : decode cL_law 955 = .ok (.iconst 2, 1) := by decide +kernel
theorem dL_law_956 : decode cL_law 956 = .ok (.iadd, 1) := by decide +kernel
theorem dL_law_957 : decode cL_law 957 = .ok (.iaload, 1) := by decide +kernel
theorem dL_law_958 : decode cL_law 958 = .ok (.invokevirtual 114, 3) := by decide +kernel
theorem dL_law_961 : decode cL_law 961 = .ok (.pop, 1) := by decide +kernel
theorem dL_law_962 : decode cL_law 962 = .ok (.aload_n 2, 1) := by decide +kernel
theorem dL_law_963 : decode cL_law 963 = .ok (.aload_n 0, 1) := by decide +kernel
theorem dL_law_964 : decode cL_law 964 = .ok (.iload_n 3, 1) := by decide +kernel
theorem dL_law_965 : decode cL_law 965 = .ok (.iconst 1, 1) := by decide +kernel
theorem dL_law_966 : decode cL_law 966 = .ok (.iadd, 1) := by decide +kernel
theorem dL_law_967 : decode cL_law 967 = .ok (.iaload, 1) := by decide +kernel
theorem dL_law_968 : decode cL_law 968 = .ok (.aload_n 0, 1) := by decide +kernel
theorem dL_law_969 : decode cL_law 969 = .ok (.iload_n 3, 1) := by decide +kernel
theorem dL_law_970 : decode cL_law 970 = .ok (.iconst 2, 1) := by decide +kernel
theorem dL_law_971 : decode cL_law 971 = .ok (.iadd, 1) := by decide +kernel
theorem dL_law_972 : decode cL_law 972 = .ok (.iaload, 1) := by decide +kernel
theorem dL_law_973 : decode cL_law 973 = .ok (.invokevirtual 117, 3) := by decide +kernel
theorem dL_law_976 : decode cL_law 976 = .ok (.pop, 1) := by decide +kernel
theorem dL_law_977 : decode cL_law 977 = .ok (.goto 274, 3) := by decide +kernel
theorem dL_law_980 : decode cL_law 980 = .ok (.aload_n 1, 1) := by decide +kernel
theorem dL_law_981 : decode cL_law 981 = .ok (.aload_n 0, 1) := by decide +kernel
theorem dL_law_982 : decode cL_law 982 = .ok (.iload_n 3, 1) := by decide +kernel
theorem dL_law_983 : decode cL_law 983 = .ok (.iconst 1, 1) := by decide +kernel
theorem dL_law_984 : decode cL_law 984 = .ok (.iadd, 1) := by decide +kernel
theorem dL_law_985 : decode cL_law 985 = .ok (.iaload, 1) := by decide +kernel
theorem dL_law_986 : decode cL_law 986 = .ok (.aload_n 0, 1) := by decide +kernel
theorem dL_law_987 : decode cL_law 987 = .ok (.iload_n 3, 1) := by decide +kernel
theorem dL_law_988 : decode cL_law 988 = .ok (.iconst 2, 1) := by decide +kernel
theorem dL_law_989 : decode cL_law 989 = .ok (.iadd, 1) := by decide +kernel
theorem dL_law_990 : decode cL_law 990 = .ok (.iaload, 1) := by decide +kernel
theorem dL_law_991 : decode cL_law 991 = .ok (.aload_n 0, 1) := by decide +kernel
theorem dL_law_992 : decode cL_law 992 = .ok (.iload_n 3, 1) := by decide +kernel
theorem dL_law_993 : decode cL_law 993 = .ok (.iconst 3, 1) := by decide +kernel
theorem dL_law_994 : decode cL_law 994 = .ok (.iadd, 1) := by decide +kernel
theorem dL_law_995 : decode cL_law 995 = .ok (.iaload, 1) := by decide +kernel
theorem dL_law_996 : decode cL_law 996 = .ok (.invokevirtual 118, 3) := by decide +kernel
theorem dL_law_999 : decode cL_law 999 = .ok (.pop, 1) := by decide +kernel
theorem dL_law_1000 : decode cL_law 1000 = .ok (.aload_n 2, 1) := by decide +kernel
theorem dL_law_1001 : decode cL_law 1001 = .ok (.aload_n 0, 1) := by decide +kernel
theorem dL_law_1002 : decode cL_law 1002 = .ok (.iload_n 3, 1) := by decide +kernel
theorem dL_law_1003 : decode cL_law 1003 = .ok (.iconst 1, 1) := by decide +kernel
theorem dL_law_1004 : decode cL_law 1004 = .ok (.iadd, 1) := by decide +kernel
theorem dL_law_1005 : decode cL_law 1005 = .ok (.iaload, 1) := by decide +kernel
theorem dL_law_1006 : decode cL_law 1006 = .ok (.aload_n 0, 1) := by decide +kernel
theorem dL_law_1007 : decode cL_law 1007 = .ok (.iload_n 3, 1) := by decide +kernel
theorem dL_law_1008 : decode cL_law 1008 = .ok (.iconst 2, 1) := by decide +kernel
theorem dL_law_1009 : decode cL_law 1009 = .ok (.iadd, 1) := by decide +kernel
theorem dL_law_1010 : decode cL_law 1010 = .ok (.iaload, 1) := by decide +kernel
theorem dL_law_1011 : decode cL_law 1011 = .ok (.aload_n 0, 1) := by decide +kernel
theorem dL_law_1012 : decode cL_law 1012 = .ok (.iload_n 3, 1) := by decide +kernel
theorem dL_law_1013 : decode cL_law 1013 = .ok (.iconst 3, 1) := by decide +kernel
theorem dL_law_1014 : decode cL_law 1014 = .ok (.iadd, 1) := by decide +kernel
theorem dL_law_1015 : decode cL_law 1015 = .ok (.iaload, 1) := by decide +kernel
theorem dL_law_1016 : decode cL_law 1016 = .ok (.invokevirtual 121, 3) := by decide +kernel
theorem dL_law_1019 : decode cL_law 1019 = .ok (.pop, 1) := by decide +kernel
theorem dL_law_1020 : decode cL_law 1020 = .ok (.goto 231, 3) := by decide +kernel
theorem dL_law_1023 : decode cL_law 1023 = .ok (.aload_n 1, 1) := by decide +kernel
theorem dL_law_1024 : decode cL_law 1024 = .ok (.aload_n 0, 1) := by decide +kernel
theorem dL_law_1025 : decode cL_law 1025 = .ok (.iload_n 3, 1) := by decide +kernel
theorem dL_law_1026 : decode cL_law 1026 = .ok (.iconst 1, 1) := by decide +kernel
theorem dL_law_1027 : decode cL_law 1027 = .ok (.iadd, 1) := by decide +kernel
theorem dL_law_1028 : decode cL_law 1028 = .ok (.iaload, 1) := by decide +kernel
theorem dL_law_1029 : decode cL_law 1029 = .ok (.aload_n 0, 1) := by decide +kernel
theorem dL_law_1030 : decode cL_law 1030 = .ok (.iload_n 3, 1) := by decide +kernel
theorem dL_law_1031 : decode cL_law 1031 = .ok (.iconst 2, 1) := by decide +kernel
theorem dL_law_1032 : decode cL_law 1032 = .ok (.iadd, 1) := by decide +kernel
theorem dL_law_1033 : decode cL_law 1033 = .ok (.iaload, 1) := by decide +kernel
theorem dL_law_1034 : decode cL_law 1034 = .ok (.aload_n 0, 1) := by decide +kernel
theorem dL_law_1035 : decode cL_law 1035 = .ok (.iload_n 3, 1) := by decide +kernel
theorem dL_law_1036 : decode cL_law 1036 = .ok (.iconst 3, 1) := by decide +kernel
theorem dL_law_1037 : decode cL_law 1037 = .ok (.iadd, 1) := by decide +kernel
theorem dL_law_1038 : decode cL_law 1038 = .ok (.iaload, 1) := by decide +kernel
theorem dL_law_1039 : decode cL_law 1039 = .ok (.invokevirtual 122, 3) := by decide +kernel
theorem dL_law_1042 : decode cL_law 1042 = .ok (.pop, 1) := by decide +kernel
theorem dL_law_1043 : decode cL_law 1043 = .ok (.aload_n 2, 1) := by decide +kernel
theorem dL_law_1044 : decode cL_law 1044 = .ok (.aload_n 0, 1) := by decide +kernel
theorem dL_law_1045 : decode cL_law 1045 = .ok (.iload_n 3, 1) := by decide +kernel
theorem dL_law_1046 : decode cL_law 1046 = .ok (.iconst 1, 1) := by decide +kernel
theorem dL_law_1047 : decode cL_law 1047 = .ok (.iadd, 1) := by decide +kernel
theorem dL_law_1048 : decode cL_law 1048 = .ok (.iaload, 1) := by decide +kernel
theorem dL_law_1049 : decode cL_law 1049 = .ok (.aload_n 0, 1) := by decide +kernel
theorem dL_law_1050 : decode cL_law 1050 = .ok (.iload_n 3, 1) := by decide +kernel
theorem dL_law_1051 : decode cL_law 1051 = .ok (.iconst 2, 1) := by decide +kernel
theorem dL_law_1052 : decode cL_law 1052 = .ok (.iadd, 1) := by decide +kernel
theorem dL_law_1053 : decode cL_law 1053 = .ok (.iaload, 1) := by decide +kernel
theorem dL_law_1054 : decode cL_law 1054 = .ok (.aload_n 0, 1) := by decide +kernel
theorem dL_law_1055 : decode cL_law 1055 = .ok (.iload_n 3, 1) := by decide +kernel
theorem dL_law_1056 : decode cL_law 1056 = .ok (.iconst 3, 1) := by decide +kernel
theorem dL_law_1057 : decode cL_law 1057 = .ok (.iadd, 1) := by decide +kernel
theorem dL_law_1058 : decode cL_law 1058 = .ok (.iaload, 1) := by decide +kernel
theorem dL_law_1059 : decode cL_law 1059 = .ok (.invokevirtual 125, 3) := by decide +kernel
theorem dL_law_1062 : decode cL_law 1062 = .ok (.pop, 1) := by decide +kernel
theorem dL_law_1063 : decode cL_law 1063 = .ok (.goto 188, 3) := by decide +kernel
theorem dL_law_1066 : decode cL_law 1066 = .ok (.aload_n 1, 1) := by decide +kernel
theorem dL_law_1067 : decode cL_law 1067 = .ok (.aload_n 0, 1) := by decide +kernel
theorem dL_law_1068 : decode cL_law 1068 = .ok (.iload_n 3, 1) := by decide +kernel
theorem dL_law_1069 : decode cL_law 1069 = .ok (.iconst 1, 1) := by decide +kernel
theorem dL_law_1070 : decode cL_law 1070 = .ok (.iadd, 1) := by decide +kernel
theorem dL_law_1071 : decode cL_law 1071 = .ok (.iaload, 1) := by decide +kernel
theorem dL_law_1072 : decode cL_law 1072 = .ok (.aload_n 0, 1) := by decide +kernel
theorem dL_law_1073 : decode cL_law 1073 = .ok (.iload_n 3, 1) := by decide +kernel
theorem dL_law_1074 : decode cL_law 1074 = .ok (.iconst 2, 1) := by decide +kernel
theorem dL_law_1075 : decode cL_law 1075 = .ok (.iadd, 1) := by decide +kernel
theorem dL_law_1076 : decode cL_law 1076 = .ok (.iaload, 1) := by decide +kernel
theorem dL_law_1077 : decode cL_law 1077 = .ok (.aload_n 0, 1) := by decide +kernel
theorem dL_law_1078 : decode cL_law 1078 = .ok (.iload_n 3, 1) := by decide +kernel
theorem dL_law_1079 : decode cL_law 1079 = .ok (.iconst 3, 1) := by decide +kernel
theorem dL_law_1080 : decode cL_law 1080 = .ok (.iadd, 1) := by decide +kernel
theorem dL_law_1081 : decode cL_law 1081 = .ok (.iaload, 1) := by decide +kernel
theorem dL_law_1082 : decode cL_law 1082 = .ok (.invokevirtual 126, 3) := by decide +kernel
theorem dL_law_1085 : decode cL_law 1085 = .ok (.pop, 1) := by decide +kernel
theorem dL_law_1086 : decode cL_law 1086 = .ok (.aload_n 2, 1) := by decide +kernel
theorem dL_law_1087 : decode cL_law 1087 = .ok (.aload_n 0, 1) := by decide +kernel
theorem dL_law_1088 : decode cL_law 1088 = .ok (.iload_n 3, 1) := by decide +kernel
theorem dL_law_1089 : decode cL_law 1089 = .ok (.iconst 1, 1) := by decide +kernel
theorem dL_law_1090 : decode cL_law 1090 = .ok (.iadd, 1) := by decide +kernel
theorem dL_law_1091 : decode cL_law 1091 = .ok (.iaload, 1) := by decide +kernel
theorem dL_law_1092 : decode cL_law 1092 = .ok (.aload_n 0, 1) := by decide +kernel
theorem dL_law_1093 : decode cL_law 1093 = .ok (.iload_n 3, 1) := by decide +kernel
theorem dL_law_1094 : decode cL_law 1094 = .ok (.iconst 2, 1) := by decide +kernel
theorem dL_law_1095 : decode cL_law 1095 = .ok (.iadd, 1) := by decide +kernel
theorem dL_law_1096 : decode cL_law 1096 = .ok (.iaload, 1) := by decide +kernel
theorem dL_law_1097 : decode cL_law 1097 = .ok (.aload_n 0, 1) := by decide +kernel
theorem dL_law_1098 : decode cL_law 1098 = .ok (.iload_n 3, 1) := by decide +kernel
theorem dL_law_1099 : decode cL_law 1099 = .ok (.iconst 3, 1) := by decide +kernel
theorem dL_law_1100 : decode cL_law 1100 = .ok (.iadd, 1) := by decide +kernel
theorem dL_law_1101 : decode cL_law 1101 = .ok (.iaload, 1) := by decide +kernel
theorem dL_law_1102 : decode cL_law 1102 = .ok (.invokevirtual 129, 3) := by decide +kernel
theorem dL_law_1105 : decode cL_law 1105 = .ok (.pop, 1) := by decide +kernel
theorem dL_law_1106 : decode cL_law 1106 = .ok (.goto 145, 3) := by decide +kernel
theorem dL_law_1109 : decode cL_law 1109 = .ok (.aload_n 1, 1) := by decide +kernel
theorem dL_law_1110 : decode cL_law 1110 = .ok (.aload_n 0, 1) := by decide +kernel
theorem dL_law_1111 : decode cL_law 1111 = .ok (.iload_n 3, 1) := by decide +kernel
theorem dL_law_1112 : decode cL_law 1112 = .ok (.iconst 1, 1) := by decide +kernel
theorem dL_law_1113 : decode cL_law 1113 = .ok (.iadd, 1) := by decide +kernel
theorem dL_law_1114 : decode cL_law 1114 = .ok (.iaload, 1) := by decide +kernel
theorem dL_law_1115 : decode cL_law 1115 = .ok (.aload_n 0, 1) := by decide +kernel
theorem dL_law_1116 : decode cL_law 1116 = .ok (.iload_n 3, 1) := by decide +kernel
theorem dL_law_1117 : decode cL_law 1117 = .ok (.iconst 2, 1) := by decide +kernel
theorem dL_law_1118 : decode cL_law 1118 = .ok (.iadd, 1) := by decide +kernel
theorem dL_law_1119 : decode cL_law 1119 = .ok (.iaload, 1) := by decide +kernel
theorem dL_law_1120 : decode cL_law 1120 = .ok (.invokevirtual 130, 3) := by decide +kernel
theorem dL_law_1123 : decode cL_law 1123 = .ok (.pop, 1) := by decide +kernel
theorem dL_law_1124 : decode cL_law 1124 = .ok (.aload_n 2, 1) := by decide +kernel
theorem dL_law_1125 : decode cL_law 1125 = .ok (.aload_n 0, 1) := by decide +kernel
theorem dL_law_1126 : decode cL_law 1126 = .ok (.iload_n 3, 1) := by decide +kernel
theorem dL_law_1127 : decode cL_law 1127 = .ok (.iconst 1, 1) := by decide +kernel
theorem dL_law_1128 : decode cL_law 1128 = .ok (.iadd, 1) := by decide +kernel
theorem dL_law_1129 : decode cL_law 1129 = .ok (.iaload, 1) := by decide +kernel
theorem dL_law_1130 : decode cL_law 1130 = .ok (.aload_n 0, 1) := by decide +kernel
theorem dL_law_1131 : decode cL_law 1131 = .ok (.iload_n 3, 1) := by decide +kernel
theorem dL_law_1132 : decode cL_law 1132 = .ok (.iconst 2, 1) := by decide +kernel
theorem dL_law_1133 : decode cL_law 1133 = .ok (.iadd, 1) := by decide +kernel
theorem dL_law_1134 : decode cL_law 1134 = .ok (.iaload, 1) := by decide +kernel
theorem dL_law_1135 : decode cL_law 1135 = .ok (.invokevirtual 133, 3) := by decide +kernel
theorem dL_law_1138 : decode cL_law 1138 = .ok (.pop, 1) := by decide +kernel
theorem dL_law_1139 : decode cL_law 1139 = .ok (.goto 112, 3) := by decide +kernel
theorem dL_law_1142 : decode cL_law 1142 = .ok (.aload_n 1, 1) := by decide +kernel
theorem dL_law_1143 : decode cL_law 1143 = .ok (.aload_n 0, 1) := by decide +kernel
theorem dL_law_1144 : decode cL_law 1144 = .ok (.iload_n 3, 1) := by decide +kernel
theorem dL_law_1145 : decode cL_law 1145 = .ok (.iconst 1, 1) := by decide +kernel
theorem dL_law_1146 : decode cL_law 1146 = .ok (.iadd, 1) := by decide +kernel
theorem dL_law_1147 : decode cL_law 1147 = .ok (.iaload, 1) := by decide +kernel
theorem dL_law_1148 : decode cL_law 1148 = .ok (.aload_n 0, 1) := by decide +kernel
theorem dL_law_1149 : decode cL_law 1149 = .ok (.iload_n 3, 1) := by decide +kernel
theorem dL_law_1150 : decode cL_law 1150 = .ok (.iconst 2, 1) := by decide +kernel
theorem dL_law_1151 : decode cL_law 1151 = .ok (.iadd, 1) := by decide +kernel
theorem dL_law_1152 : decode cL_law 1152 = .ok (.iaload, 1) := by decide +kernel
theorem dL_law_1153 : decode cL_law 1153 = .ok (.aload_n 0, 1) := by decide +kernel
theorem dL_law_1154 : decode cL_law 1154 = .ok (.iload_n 3, 1) := by decide +kernel
theorem dL_law_1155 : decode cL_law 1155 = .ok (.iconst 3, 1) := by decide +kernel
theorem dL_law_1156 : decode cL_law 1156 = .ok (.iadd, 1) := by decide +kernel
theorem dL_law_1157 : decode cL_law 1157 = .ok (.iaload, 1) := by decide +kernel
theorem dL_law_1158 : decode cL_law 1158 = .ok (.aload_n 0, 1) := by decide +kernel
theorem dL_law_1159 : decode cL_law 1159 = .ok (.iload_n 3, 1) := by decide +kernel
theorem dL_law_1160 : decode cL_law 1160 = .ok (.iconst 4, 1) := by decide +kernel
theorem dL_law_1161 : decode cL_law 1161 = .ok (.iadd, 1) := by decide +kernel
theorem dL_law_1162 : decode cL_law 1162 = .ok (.iaload, 1) := by decide +kernel
theorem dL_law_1163 : decode cL_law 1163 = .ok (.invokevirtual 134, 3) := by decide +kernel
theorem dL_law_1166 : decode cL_law 1166 = .ok (.pop, 1) := by decide +kernel
theorem dL_law_1167 : decode cL_law 1167 = .ok (.aload_n 2, 1) := by decide +kernel
theorem dL_law_1168 : decode cL_law 1168 = .ok (.aload_n 0, 1) := by decide +kernel
theorem dL_law_1169 : decode cL_law 1169 = .ok (.iload_n 3, 1) := by decide +kernel
theorem dL_law_1170 : decode cL_law 1170 = .ok (.iconst 1, 1) := by decide +kernel
theorem dL_law_1171 : decode cL_law 1171 = .ok (.iadd, 1) := by decide +kernel
theorem dL_law_1172 : decode cL_law 1172 = .ok (.iaload, 1) := by decide +kernel
theorem dL_law_1173 : decode cL_law 1173 = .ok (.aload_n 0, 1) := by decide +kernel
theorem dL_law_1174 : decode cL_law 1174 = .ok (.iload_n 3, 1) := by decide +kernel
theorem dL_law_1175 : decode cL_law 1175 = .ok (.iconst 2, 1) := by decide +kernel
theorem dL_law_1176 : decode cL_law 1176 = .ok (.iadd, 1) := by decide +kernel
theorem dL_law_1177 : decode cL_law 1177 = .ok (.iaload, 1) := by decide +kernel
theorem dL_law_1178 : decode cL_law 1178 = .ok (.aload_n 0, 1) := by decide +kernel
theorem dL_law_1179 : decode cL_law 1179 = .ok (.iload_n 3, 1) := by decide +kernel
theorem dL_law_1180 : decode cL_law 1180 = .ok (.iconst 3, 1) := by decide +kernel
theorem dL_law_1181 : decode cL_law 1181 = .ok (.iadd, 1) := by decide +kernel
theorem dL_law_1182 : decode cL_law 1182 = .ok (.iaload, 1) := by decide +kernel
theorem dL_law_1183 : decode cL_law 1183 = .ok (.aload_n 0, 1) := by decide +kernel
theorem dL_law_1184 : decode cL_law 1184 = .ok (.iload_n 3, 1) := by decide +kernel
theorem dL_law_1185 : decode cL_law 1185 = .ok (.iconst 4, 1) := by decide +kernel
theorem dL_law_1186 : decode cL_law 1186 = .ok (.iadd, 1) := by decide +kernel
theorem dL_law_1187 : decode cL_law 1187 = .ok (.iaload, 1) := by decide +kernel
theorem dL_law_1188 : decode cL_law 1188 = .ok (.invokevirtual 137, 3) := by decide +kernel
theorem dL_law_1191 : decode cL_law 1191 = .ok (.pop, 1) := by decide +kernel
theorem dL_law_1192 : decode cL_law 1192 = .ok (.goto 59, 3) := by decide +kernel
theorem dL_law_1195 : decode cL_law 1195 = .ok (.aload_n 1, 1) := by decide +kernel
theorem dL_law_1196 : decode cL_law 1196 = .ok (.aload_n 0, 1) := by decide +kernel
theorem dL_law_1197 : decode cL_law 1197 = .ok (.iload_n 3, 1) := by decide +kernel
theorem dL_law_1198 : decode cL_law 1198 = .ok (.iconst 1, 1) := by decide +kernel
theorem dL_law_1199 : decode cL_law 1199 = .ok (.iadd, 1) := by decide +kernel
theorem dL_law_1200 : decode cL_law 1200 = .ok (.iaload, 1) := by decide +kernel
theorem dL_law_1201 : decode cL_law 1201 = .ok (.aload_n 0, 1) := by decide +kernel
theorem dL_law_1202 : decode cL_law 1202 = .ok (.iload_n 3, 1) := by decide +kernel
theorem dL_law_1203 : decode cL_law 1203 = .ok (.iconst 2, 1) := by decide +kernel
theorem dL_law_1204 : decode cL_law 1204 = .ok (.iadd, 1) := by decide +kernel
theorem dL_law_1205 : decode cL_law 1205 = .ok (.iaload, 1) := by decide +kernel
theorem dL_law_1206 : decode cL_law 1206 = .ok (.invokevirtual 138, 3) := by decide +kernel
theorem dL_law_1209 : decode cL_law 1209 = .ok (.pop, 1) := by decide +kernel
theorem dL_law_1210 : decode cL_law 1210 = .ok (.aload_n 2, 1) := by decide +kernel
theorem dL_law_1211 : decode cL_law 1211 = .ok (.aload_n 0, 1) := by decide +kernel
theorem dL_law_1212 : decode cL_law 1212 = .ok (.iload_n 3, 1) := by decide +kernel
theorem dL_law_1213 : decode cL_law 1213 = .ok (.iconst 1, 1) := by decide +kernel
theorem dL_law_1214 : decode cL_law 1214 = .ok (.iadd, 1) := by decide +kernel
theorem dL_law_1215 : decode cL_law 1215 = .ok (.iaload, 1) := by decide +kernel
theorem dL_law_1216 : decode cL_law 1216 = .ok (.aload_n 0, 1) := by decide +kernel
theorem dL_law_1217 : decode cL_law 1217 = .ok (.iload_n 3, 1) := by decide +kernel
theorem dL_law_1218 : decode cL_law 1218 = .ok (.iconst 2, 1) := by decide +kernel
theorem dL_law_1219 : decode cL_law 1219 = .ok (.iadd, 1) := by decide +kernel
theorem dL_law_1220 : decode cL_law 1220 = .ok (.iaload, 1) := by decide +kernel
theorem dL_law_1221 : decode cL_law 1221 = .ok (.invokevirtual 141, 3) := by decide +kernel
theorem dL_law_1224 : decode cL_law 1224 = .ok (.pop, 1) := by decide +kernel
theorem dL_law_1225 : decode cL_law 1225 = .ok (.goto 26, 3) := by decide +kernel
theorem dL_law_1228 : decode cL_law 1228 = .ok (.aload_n 1, 1) := by decide +kernel
theorem dL_law_1229 : decode cL_law 1229 = .ok (.aload_n 0, 1) := by decide +kernel
theorem dL_law_1230 : decode cL_law 1230 = .ok (.iload_n 3, 1) := by decide +kernel
theorem dL_law_1231 : decode cL_law 1231 = .ok (.iconst 1, 1) := by decide +kernel
theorem dL_law_1232 : decode cL_law 1232 = .ok (.iadd, 1) := by decide +kernel
theorem dL_law_1233 : decode cL_law 1233 = .ok (.iaload, 1) := by decide +kernel
theorem dL_law_1234 : decode cL_law 1234 = .ok (.invokevirtual 142, 3) := by decide +kernel
theorem dL_law_1237 : decode cL_law 1237 = .ok (.aload_n 2, 1) := by decide +kernel
theorem dL_law_1238 : decode cL_law 1238 = .ok (.aload_n 0, 1) := by decide +kernel
theorem dL_law_1239 : decode cL_law 1239 = .ok (.iload_n 3, 1) := by decide +kernel
theorem dL_law_1240 : decode cL_law 1240 = .ok (.iconst 1, 1) := by decide +kernel
theorem dL_law_1241 : decode cL_law 1241 = .ok (.iadd, 1) := by decide +kernel
theorem dL_law_1242 : decode cL_law 1242 = .ok (.iaload, 1) := by decide +kernel
theorem dL_law_1243 : decode cL_law 1243 = .ok (.invokevirtual 145, 3) := by decide +kernel
theorem dL_law_1246 : decode cL_law 1246 = .ok (.if_icmp .eq 5, 3) := by decide +kernel
set_option maxHeartbeats 4000000 in
set_option maxRecDepth 100000 in
theorem law_code {F L k : Nat} {xs : Nat → Int32} {uc um : rg_U} {w : Nat → va_E} {cmp : Nat → Bool} {I J : rg_U → rg_U → Prop} (hs : LawSteps F cmp I J) (hL : L < 2 ^ 30) (hk : 6 * k + 6 ≤ L) (hRC : rg shC 0 uc 325 w) (hRM : rg shM 287 um 325 w) (hI : I uc um) (hend : ∀ uc um w, J uc um → rg shC 0 uc 325 w → rg shM 287 um 325 w → pm_X gs_L (ro_L L xs) M_L_law 13 600000 7302250 325 343962 1251 [some (.ref 2000000), some (.ref (0 + 0)), some (.ref (287 + 0)), some (.int (nI (6 * k)))] [] 325 w (fun r _ _ => r = some (.int 1))) : pm_X gs_L (ro_L L xs) M_L_law 13 600000 7302250 325 343962 172 [some (.ref 2000000), some (.ref (0 + 0)), some (.ref (287 + 0)), some (.int (nI (6 * k)))] [] 325 w (fun r _ _ => r = some (.int 1)) := by
  refine pm_aload_n dL_law_172 rfl ?_
  refine pm_aload_n dL_law_173 rfl ?_
  refine pm_iload_n dL_law_174 rfl ?_
  refine pm_iconst (v := 1) dL_law_175 (by decide) ?_
  refine pm_iadd dL_law_176 ?_
  refine pm_i (y := nI (6 * k + 1)) (nI_add (6 * k) 1) ?_
  refine pm_tld (f := xs) dL_law_177 rfl (vp_in_nI (by omega) (by omega)) ?_
  refine pm_i (y := xs (6 * k + 1)) (congrArg xs (nI_clamp (by omega))) ?_
  refine pm_aload_n dL_law_178 rfl ?_
  refine pm_iload_n dL_law_179 rfl ?_
  refine pm_iconst (v := 2) dL_law_180 (by decide) ?_
  refine pm_iadd dL_law_181 ?_
  refine pm_i (y := nI (6 * k + 2)) (nI_add (6 * k) 2) ?_
  refine pm_tld (f := xs) dL_law_182 rfl (vp_in_nI (by omega) (by omega)) ?_
  refine pm_i (y := xs (6 * k + 2)) (congrArg xs (nI_clamp (by omega))) ?_
  refine pm_aload_n dL_law_183 rfl ?_
  refine pm_iload_n dL_law_184 rfl ?_
  refine pm_iconst (v := 3) dL_law_185 (by decide) ?_
  refine pm_iadd dL_law_186 ?_
  refine pm_i (y := nI (6 * k + 3)) (nI_add (6 * k) 3) ?_
  refine pm_tld (f := xs) dL_law_187 rfl (vp_in_nI (by omega) (by omega)) ?_
  refine pm_i (y := xs (6 * k + 3)) (congrArg xs (nI_clamp (by omega))) ?_
  refine pm_aload_n dL_law_188 rfl ?_
  refine pm_iload_n dL_law_189 rfl ?_
  refine pm_iconst (v := 4) dL_law_190 (by decide) ?_
  refine pm_iadd dL_law_191 ?_
  refine pm_i (y := nI (6 * k + 4)) (nI_add (6 * k) 4) ?_
  refine pm_tld (f := xs) dL_law_192 rfl (vp_in_nI (by omega) (by omega)) ?_
  refine pm_i (y := xs (6 * k + 4)) (congrArg xs (nI_clamp (by omega))) ?_
  refine pm_aload_n dL_law_193 rfl ?_
  refine pm_iload_n dL_law_194 rfl ?_
  refine pm_iconst (v := 5) dL_law_195 (by decide) ?_
  refine pm_iadd dL_law_196 ?_
  refine pm_i (y := nI (6 * k + 5)) (nI_add (6 * k) 5) ?_
  refine pm_tld (f := xs) dL_law_197 rfl (vp_in_nI (by omega) (by omega)) ?_
  refine pm_i (y := xs (6 * k + 5)) (congrArg xs (nI_clamp (by omega))) ?_
  obtain ⟨zc, zm, ec, em, hcmp, hJ⟩ := ls_code hs (xs (6 * k + 1)) (xs (6 * k + 2)) (xs (6 * k + 3)) (xs (6 * k + 4)) (xs (6 * k + 5)) _ _ hI
  refine rg_cV (M := M_L_law) (Mc := M_X9_code) (dc := 3) (As := [.int (xs (6 * k + 1)), .int (xs (6 * k + 2)), .int (xs (6 * k + 3)), .int (xs (6 * k + 4)), .int (xs (6 * k + 5))]) (st := []) (j := 0) hRC dL_law_198 ml_L_13 ⟨_, _, rfl⟩ rfl (by decide) (Nat.le_of_ble_eq_true rfl) (Nat.le_of_ble_eq_true rfl) (Nat.le_of_ble_eq_true rfl) rfl (k_X9_code st_L hRC ec) (fun r1 n1 w1 hq => ?_)
  obtain ⟨rfl, rfl, hR2, hk3⟩ := hq
  have hR4 : rg shM 287 um 325 w1 := rg_keep hRM (Nat.le_refl _) (fun j hj => hk3 (287 + j) (Or.inr (by show 0 + 287 ≤ _; omega)))
  simp only [Option.toList_some, List.cons_append, List.nil_append]
  refine pm_pop dL_law_201 rfl ?_
  refine pm_aload_n dL_law_202 rfl ?_
  refine pm_aload_n dL_law_203 rfl ?_
  refine pm_iload_n dL_law_204 rfl ?_
  refine pm_iconst (v := 1) dL_law_205 (by decide) ?_
  refine pm_iadd dL_law_206 ?_
  refine pm_i (y := nI (6 * k + 1)) (nI_add (6 * k) 1) ?_
  refine pm_tld (f := xs) dL_law_207 rfl (vp_in_nI (by omega) (by omega)) ?_
  refine pm_i (y := xs (6 * k + 1)) (congrArg xs (nI_clamp (by omega))) ?_
  refine pm_aload_n dL_law_208 rfl ?_
  refine pm_iload_n dL_law_209 rfl ?_
  refine pm_iconst (v := 2) dL_law_210 (by decide) ?_
  refine pm_iadd dL_law_211 ?_
  refine pm_i (y := nI (6 * k + 2)) (nI_add (6 * k) 2) ?_
  refine pm_tld (f := xs) dL_law_212 rfl (vp_in_nI (by omega) (by omega)) ?_
  refine pm_i (y := xs (6 * k + 2)) (congrArg xs (nI_clamp (by omega))) ?_
  refine pm_aload_n dL_law_213 rfl ?_
  refine pm_iload_n dL_law_214 rfl ?_
  refine pm_iconst (v := 3) dL_law_215 (by decide) ?_
  refine pm_iadd dL_law_216 ?_
  refine pm_i (y := nI (6 * k + 3)) (nI_add (6 * k) 3) ?_
  refine pm_tld (f := xs) dL_law_217 rfl (vp_in_nI (by omega) (by omega)) ?_
  refine pm_i (y := xs (6 * k + 3)) (congrArg xs (nI_clamp (by omega))) ?_
  refine pm_aload_n dL_law_218 rfl ?_
  refine pm_iload_n dL_law_219 rfl ?_
  refine pm_iconst (v := 4) dL_law_220 (by decide) ?_
  refine pm_iadd dL_law_221 ?_
  refine pm_i (y := nI (6 * k + 4)) (nI_add (6 * k) 4) ?_
  refine pm_tld (f := xs) dL_law_222 rfl (vp_in_nI (by omega) (by omega)) ?_
  refine pm_i (y := xs (6 * k + 4)) (congrArg xs (nI_clamp (by omega))) ?_
  refine pm_aload_n dL_law_223 rfl ?_
  refine pm_iload_n dL_law_224 rfl ?_
  refine pm_iconst (v := 5) dL_law_225 (by decide) ?_
  refine pm_iadd dL_law_226 ?_
  refine pm_i (y := nI (6 * k + 5)) (nI_add (6 * k) 5) ?_
  refine pm_tld (f := xs) dL_law_227 rfl (vp_in_nI (by omega) (by omega)) ?_
  refine pm_i (y := xs (6 * k + 5)) (congrArg xs (nI_clamp (by omega))) ?_
  refine rg_cV (M := M_L_law) (Mc := M_X10_code) (dc := 3) (As := [.int (xs (6 * k + 1)), .int (xs (6 * k + 2)), .int (xs (6 * k + 3)), .int (xs (6 * k + 4)), .int (xs (6 * k + 5))]) (st := []) (j := 0) hR4 dL_law_228 ml_L_17 ⟨_, _, rfl⟩ rfl (by decide) (Nat.le_of_ble_eq_true rfl) (Nat.le_of_ble_eq_true rfl) (Nat.le_of_ble_eq_true rfl) rfl (k_X10_code hR4 em) (fun r1 n1 w5 hq => ?_)
  obtain ⟨rfl, rfl, hR6, hk7⟩ := hq
  have hR8 : rg shC 0 zc.2 325 w5 := rg_keep hR2 (Nat.le_refl _) (fun j hj => hk7 (0 + j) (Or.inl (by have : j < 287 := hj; omega)))
  simp only [Option.toList_some, List.cons_append, List.nil_append]
  refine pm_pop dL_law_231 rfl ?_
  refine pm_goto (tgt := 1251) dL_law_232 (by decide) ?_
  exact hend _ _ _ hJ hR8 hR6
set_option maxHeartbeats 4000000 in
set_option maxRecDepth 100000 in
theorem law_spacing {F L k : Nat} {xs : Nat → Int32} {uc um : rg_U} {w : Nat → va_E} {cmp : Nat → Bool} {I J : rg_U → rg_U → Prop} (hs : LawSteps F cmp I J) (hL : L < 2 ^ 30) (hk : 6 * k + 6 ≤ L) (hRC : rg shC 0 uc 325 w) (hRM : rg shM 287 um 325 w) (hI : I uc um) (hend : ∀ uc um w, J uc um → rg shC 0 uc 325 w → rg shM 287 um 325 w → pm_X gs_L (ro_L L xs) M_L_law 13 600000 7302250 325 343962 1251 [some (.ref 2000000), some (.ref (0 + 0)), some (.ref (287 + 0)), some (.int (nI (6 * k)))] [] 325 w (fun r _ _ => r = some (.int 1))) : pm_X gs_L (ro_L L xs) M_L_law 13 600000 7302250 325 343962 235 [some (.ref 2000000), some (.ref (0 + 0)), some (.ref (287 + 0)), some (.int (nI (6 * k)))] [] 325 w (fun r _ _ => r = some (.int 1)) := by
  refine pm_aload_n dL_law_235 rfl ?_
  refine pm_aload_n dL_law_236 rfl ?_
  refine pm_iload_n dL_law_237 rfl ?_
  refine pm_iconst (v := 1) dL_law_238 (by decide) ?_
  refine pm_iadd dL_law_239 ?_
  refine pm_i (y := nI (6 * k + 1)) (nI_add (6 * k) 1) ?_
  refine pm_tld (f := xs) dL_law_240 rfl (vp_in_nI (by omega) (by omega)) ?_
  refine pm_i (y := xs (6 * k + 1)) (congrArg xs (nI_clamp (by omega))) ?_
  refine pm_aload_n dL_law_241 rfl ?_
  refine pm_iload_n dL_law_242 rfl ?_
  refine pm_iconst (v := 2) dL_law_243 (by decide) ?_
  refine pm_iadd dL_law_244 ?_
  refine pm_i (y := nI (6 * k + 2)) (nI_add (6 * k) 2) ?_
  refine pm_tld (f := xs) dL_law_245 rfl (vp_in_nI (by omega) (by omega)) ?_
  refine pm_i (y := xs (6 * k + 2)) (congrArg xs (nI_clamp (by omega))) ?_
  obtain ⟨zc, zm, ec, em, hcmp, hJ⟩ := ls_spacing hs (xs (6 * k + 1)) (xs (6 * k + 2)) (xs (6 * k + 3)) (xs (6 * k + 4)) (xs (6 * k + 5)) _ _ hI
  refine rg_cV (M := M_L_law) (Mc := M_X9_spacing) (dc := 1) (As := [.int (xs (6 * k + 1)), .int (xs (6 * k + 2))]) (st := []) (j := 0) hRC dL_law_246 ml_L_18 ⟨_, _, rfl⟩ rfl (by decide) (Nat.le_of_ble_eq_true rfl) (Nat.le_of_ble_eq_true rfl) (Nat.le_of_ble_eq_true rfl) rfl (k_X9_spacing hRC ec) (fun r1 n1 w1 hq => ?_)
  obtain ⟨rfl, rfl, hR2, hk3⟩ := hq
  have hR4 : rg shM 287 um 325 w1 := rg_keep hRM (Nat.le_refl _) (fun j hj => hk3 (287 + j) (Or.inr (by show 0 + 287 ≤ _; omega)))
  simp only [Option.toList_some, List.cons_append, List.nil_append]
  refine pm_pop dL_law_249 rfl ?_
  refine pm_aload_n dL_law_250 rfl ?_
  refine pm_aload_n dL_law_251 rfl ?_
  refine pm_iload_n dL_law_252 rfl ?_
  refine pm_iconst (v := 1) dL_law_253 (by decide) ?_
  refine pm_iadd dL_law_254 ?_
  refine pm_i (y := nI (6 * k + 1)) (nI_add (6 * k) 1) ?_
  refine pm_tld (f := xs) dL_law_255 rfl (vp_in_nI (by omega) (by omega)) ?_
  refine pm_i (y := xs (6 * k + 1)) (congrArg xs (nI_clamp (by omega))) ?_
  refine pm_aload_n dL_law_256 rfl ?_
  refine pm_iload_n dL_law_257 rfl ?_
  refine pm_iconst (v := 2) dL_law_258 (by decide) ?_
  refine pm_iadd dL_law_259 ?_
  refine pm_i (y := nI (6 * k + 2)) (nI_add (6 * k) 2) ?_
  refine pm_tld (f := xs) dL_law_260 rfl (vp_in_nI (by omega) (by omega)) ?_
  refine pm_i (y := xs (6 * k + 2)) (congrArg xs (nI_clamp (by omega))) ?_
  refine rg_cV (M := M_L_law) (Mc := M_X10_spacing) (dc := 2) (As := [.int (xs (6 * k + 1)), .int (xs (6 * k + 2))]) (st := []) (j := 0) hR4 dL_law_261 ml_L_22 ⟨_, _, rfl⟩ rfl (by decide) (Nat.le_of_ble_eq_true rfl) (Nat.le_of_ble_eq_true rfl) (Nat.le_of_ble_eq_true rfl) rfl (k_X10_spacing hR4 em) (fun r1 n1 w5 hq => ?_)
  obtain ⟨rfl, rfl, hR6, hk7⟩ := hq
  have hR8 : rg shC 0 zc.2 325 w5 := rg_keep hR2 (Nat.le_refl _) (fun j hj => hk7 (0 + j) (Or.inl (by have : j < 287 := hj; omega)))
  simp only [Option.toList_some, List.cons_append, List.nil_append]
  refine pm_pop dL_law_264 rfl ?_
  refine pm_goto (tgt := 1251) dL_law_265 (by decide) ?_
  exact hend _ _ _ hJ hR8 hR6
set_option maxHeartbeats 4000000 in
set_option maxRecDepth 100000 in
theorem law_begin {F L k : Nat} {xs : Nat → Int32} {uc um : rg_U} {w : Nat → va_E} {cmp : Nat → Bool} {I J : rg_U → rg_U → Prop} (hs : LawSteps F cmp I J) (hL : L < 2 ^ 30) (hk : 6 * k + 6 ≤ L) (hRC : rg shC 0 uc 325 w) (hRM : rg shM 287 um 325 w) (hI : I uc um) (hend : ∀ uc um w, J uc um → rg shC 0 uc 325 w → rg shM 287 um 325 w → pm_X gs_L (ro_L L xs) M_L_law 13 600000 7302250 325 343962 1251 [some (.ref 2000000), some (.ref (0 + 0)), some (.ref (287 + 0)), some (.int (nI (6 * k)))] [] 325 w (fun r _ _ => r = some (.int 1))) : pm_X gs_L (ro_L L xs) M_L_law 13 600000 7302250 325 343962 268 [some (.ref 2000000), some (.ref (0 + 0)), some (.ref (287 + 0)), some (.int (nI (6 * k)))] [] 325 w (fun r _ _ => r = some (.int 1)) := by
  refine pm_aload_n dL_law_268 rfl ?_
  obtain ⟨zc, zm, ec, em, hcmp, hJ⟩ := ls_begin hs (xs (6 * k + 1)) (xs (6 * k + 2)) (xs (6 * k + 3)) (xs (6 * k + 4)) (xs (6 * k + 5)) _ _ hI
  refine rg_cV (M := M_L_law) (Mc := M_X9_begin) (dc := 4) (As := []) (st := []) (j := 0) hRC dL_law_269 ml_L_23 ⟨_, _, rfl⟩ rfl (by decide) (Nat.le_of_ble_eq_true rfl) (Nat.le_of_ble_eq_true rfl) (Nat.le_of_ble_eq_true rfl) rfl (k_X9_begin hRC ec) (fun r1 n1 w1 hq => ?_)
  obtain ⟨rfl, rfl, hR2, hk3⟩ := hq
  have hR4 : rg shM 287 um 325 w1 := rg_keep hRM (Nat.le_refl _) (fun j hj => hk3 (287 + j) (Or.inr (by show 0 + 287 ≤ _; omega)))
  simp only [Option.toList_some, List.cons_append, List.nil_append]
  refine pm_pop dL_law_272 rfl ?_
  refine pm_aload_n dL_law_273 rfl ?_
  refine rg_cV (M := M_L_law) (Mc := M_X10_begin) (dc := 1) (As := []) (st := []) (j := 0) hR4 dL_law_274 ml_L_27 ⟨_, _, rfl⟩ rfl (by decide) (Nat.le_of_ble_eq_true rfl) (Nat.le_of_ble_eq_true rfl) (Nat.le_of_ble_eq_true rfl) rfl (k_X10_begin hR4 em) (fun r1 n1 w5 hq => ?_)
  obtain ⟨rfl, rfl, hR6, hk7⟩ := hq
  have hR8 : rg shC 0 zc.2 325 w5 := rg_keep hR2 (Nat.le_refl _) (fun j hj => hk7 (0 + j) (Or.inl (by have : j < 287 := hj; omega)))
  simp only [Option.toList_some, List.cons_append, List.nil_append]
  refine pm_pop dL_law_277 rfl ?_
  refine pm_goto (tgt := 1251) dL_law_278 (by decide) ?_
  exact hend _ _ _ hJ hR8 hR6
set_option maxHeartbeats 4000000 in
set_option maxRecDepth 100000 in
theorem law_give {F L k : Nat} {xs : Nat → Int32} {uc um : rg_U} {w : Nat → va_E} {cmp : Nat → Bool} {I J : rg_U → rg_U → Prop} (hs : LawSteps F cmp I J) (hL : L < 2 ^ 30) (hk : 6 * k + 6 ≤ L) (hRC : rg shC 0 uc 325 w) (hRM : rg shM 287 um 325 w) (hI : I uc um) (hend : ∀ uc um w, J uc um → rg shC 0 uc 325 w → rg shM 287 um 325 w → pm_X gs_L (ro_L L xs) M_L_law 13 600000 7302250 325 343962 1251 [some (.ref 2000000), some (.ref (0 + 0)), some (.ref (287 + 0)), some (.int (nI (6 * k)))] [] 325 w (fun r _ _ => r = some (.int 1))) : pm_X gs_L (ro_L L xs) M_L_law 13 600000 7302250 325 343962 281 [some (.ref 2000000), some (.ref (0 + 0)), some (.ref (287 + 0)), some (.int (nI (6 * k)))] [] 325 w (fun r _ _ => r = some (.int 1)) := by
  refine pm_aload_n dL_law_281 rfl ?_
  refine pm_aload_n dL_law_282 rfl ?_
  refine pm_iload_n dL_law_283 rfl ?_
  refine pm_iconst (v := 1) dL_law_284 (by decide) ?_
  refine pm_iadd dL_law_285 ?_
  refine pm_i (y := nI (6 * k + 1)) (nI_add (6 * k) 1) ?_
  refine pm_tld (f := xs) dL_law_286 rfl (vp_in_nI (by omega) (by omega)) ?_
  refine pm_i (y := xs (6 * k + 1)) (congrArg xs (nI_clamp (by omega))) ?_
  obtain ⟨zc, zm, ec, em, hcmp, hJ⟩ := ls_give hs (xs (6 * k + 1)) (xs (6 * k + 2)) (xs (6 * k + 3)) (xs (6 * k + 4)) (xs (6 * k + 5)) _ _ hI
  refine rg_cV (M := M_L_law) (Mc := M_X9_give) (dc := 1) (As := [.int (xs (6 * k + 1))]) (st := []) (j := 0) hRC dL_law_287 ml_L_28 ⟨_, _, rfl⟩ rfl (by decide) (Nat.le_of_ble_eq_true rfl) (Nat.le_of_ble_eq_true rfl) (Nat.le_of_ble_eq_true rfl) rfl (k_X9_give hRC ec) (fun r1 n1 w1 hq => ?_)
  obtain ⟨rfl, rfl, hR2, hk3⟩ := hq
  have hR4 : rg shM 287 um 325 w1 := rg_keep hRM (Nat.le_refl _) (fun j hj => hk3 (287 + j) (Or.inr (by show 0 + 287 ≤ _; omega)))
  simp only [Option.toList_some, List.cons_append, List.nil_append]
  refine pm_pop dL_law_290 rfl ?_
  refine pm_aload_n dL_law_291 rfl ?_
  refine pm_aload_n dL_law_292 rfl ?_
  refine pm_iload_n dL_law_293 rfl ?_
  refine pm_iconst (v := 1) dL_law_294 (by decide) ?_
  refine pm_iadd dL_law_295 ?_
  refine pm_i (y := nI (6 * k + 1)) (nI_add (6 * k) 1) ?_
  refine pm_tld (f := xs) dL_law_296 rfl (vp_in_nI (by omega) (by omega)) ?_
  refine pm_i (y := xs (6 * k + 1)) (congrArg xs (nI_clamp (by omega))) ?_
  refine rg_cV (M := M_L_law) (Mc := M_X10_give) (dc := 0) (As := [.int (xs (6 * k + 1))]) (st := []) (j := 0) hR4 dL_law_297 ml_L_32 ⟨_, _, rfl⟩ rfl (by decide) (Nat.le_of_ble_eq_true rfl) (Nat.le_of_ble_eq_true rfl) (Nat.le_of_ble_eq_true rfl) rfl (k_X10_give hR4 em) (fun r1 n1 w5 hq => ?_)
  obtain ⟨rfl, rfl, hR6, hk7⟩ := hq
  have hR8 : rg shC 0 zc.2 325 w5 := rg_keep hR2 (Nat.le_refl _) (fun j hj => hk7 (0 + j) (Or.inl (by have : j < 287 := hj; omega)))
  simp only [Option.toList_some, List.cons_append, List.nil_append]
  refine pm_pop dL_law_300 rfl ?_
  refine pm_goto (tgt := 1251) dL_law_301 (by decide) ?_
  exact hend _ _ _ hJ hR8 hR6
set_option maxHeartbeats 4000000 in
set_option maxRecDepth 100000 in
theorem law_seed {F L k : Nat} {xs : Nat → Int32} {uc um : rg_U} {w : Nat → va_E} {cmp : Nat → Bool} {I J : rg_U → rg_U → Prop} (hs : LawSteps F cmp I J) (hL : L < 2 ^ 30) (hk : 6 * k + 6 ≤ L) (hRC : rg shC 0 uc 325 w) (hRM : rg shM 287 um 325 w) (hI : I uc um) (hend : ∀ uc um w, J uc um → rg shC 0 uc 325 w → rg shM 287 um 325 w → pm_X gs_L (ro_L L xs) M_L_law 13 600000 7302250 325 343962 1251 [some (.ref 2000000), some (.ref (0 + 0)), some (.ref (287 + 0)), some (.int (nI (6 * k)))] [] 325 w (fun r _ _ => r = some (.int 1))) : pm_X gs_L (ro_L L xs) M_L_law 13 600000 7302250 325 343962 304 [some (.ref 2000000), some (.ref (0 + 0)), some (.ref (287 + 0)), some (.int (nI (6 * k)))] [] 325 w (fun r _ _ => r = some (.int 1)) := by
  refine pm_aload_n dL_law_304 rfl ?_
  refine pm_aload_n dL_law_305 rfl ?_
  refine pm_iload_n dL_law_306 rfl ?_
  refine pm_iconst (v := 1) dL_law_307 (by decide) ?_
  refine pm_iadd dL_law_308 ?_
  refine pm_i (y := nI (6 * k + 1)) (nI_add (6 * k) 1) ?_
  refine pm_tld (f := xs) dL_law_309 rfl (vp_in_nI (by omega) (by omega)) ?_
  refine pm_i (y := xs (6 * k + 1)) (congrArg xs (nI_clamp (by omega))) ?_
  obtain ⟨zc, zm, ec, em, hcmp, hJ⟩ := ls_seed hs (xs (6 * k + 1)) (xs (6 * k + 2)) (xs (6 * k + 3)) (xs (6 * k + 4)) (xs (6 * k + 5)) _ _ hI
  refine rg_cV (M := M_L_law) (Mc := M_X9_seed) (dc := 0) (As := [.int (xs (6 * k + 1))]) (st := []) (j := 0) hRC dL_law_310 ml_L_33 ⟨_, _, rfl⟩ rfl (by decide) (Nat.le_of_ble_eq_true rfl) (Nat.le_of_ble_eq_true rfl) (Nat.le_of_ble_eq_true rfl) rfl (k_X9_seed hRC ec) (fun r1 n1 w1 hq => ?_)
  obtain ⟨rfl, rfl, hR2, hk3⟩ := hq
  have hR4 : rg shM 287 um 325 w1 := rg_keep hRM (Nat.le_refl _) (fun j hj => hk3 (287 + j) (Or.inr (by show 0 + 287 ≤ _; omega)))
  simp only [Option.toList_some, List.cons_append, List.nil_append]
  refine pm_pop dL_law_313 rfl ?_
  refine pm_aload_n dL_law_314 rfl ?_
  refine pm_aload_n dL_law_315 rfl ?_
  refine pm_iload_n dL_law_316 rfl ?_
  refine pm_iconst (v := 1) dL_law_317 (by decide) ?_
  refine pm_iadd dL_law_318 ?_
  refine pm_i (y := nI (6 * k + 1)) (nI_add (6 * k) 1) ?_
  refine pm_tld (f := xs) dL_law_319 rfl (vp_in_nI (by omega) (by omega)) ?_
  refine pm_i (y := xs (6 * k + 1)) (congrArg xs (nI_clamp (by omega))) ?_
  refine rg_cV (M := M_L_law) (Mc := M_X10_seed) (dc := 0) (As := [.int (xs (6 * k + 1))]) (st := []) (j := 0) hR4 dL_law_320 ml_L_36 ⟨_, _, rfl⟩ rfl (by decide) (Nat.le_of_ble_eq_true rfl) (Nat.le_of_ble_eq_true rfl) (Nat.le_of_ble_eq_true rfl) rfl (k_X10_seed hR4 em) (fun r1 n1 w5 hq => ?_)
  obtain ⟨rfl, rfl, hR6, hk7⟩ := hq
  have hR8 : rg shC 0 zc.2 325 w5 := rg_keep hR2 (Nat.le_refl _) (fun j hj => hk7 (0 + j) (Or.inl (by have : j < 287 := hj; omega)))
  simp only [Option.toList_some, List.cons_append, List.nil_append]
  refine pm_pop dL_law_323 rfl ?_
  refine pm_goto (tgt := 1251) dL_law_324 (by decide) ?_
  exact hend _ _ _ hJ hR8 hR6
set_option maxHeartbeats 4000000 in
set_option maxRecDepth 100000 in
theorem law_poke {F L k : Nat} {xs : Nat → Int32} {uc um : rg_U} {w : Nat → va_E} {cmp : Nat → Bool} {I J : rg_U → rg_U → Prop} (hs : LawSteps F cmp I J) (hL : L < 2 ^ 30) (hk : 6 * k + 6 ≤ L) (hRC : rg shC 0 uc 325 w) (hRM : rg shM 287 um 325 w) (hI : I uc um) (hend : ∀ uc um w, J uc um → rg shC 0 uc 325 w → rg shM 287 um 325 w → pm_X gs_L (ro_L L xs) M_L_law 13 600000 7302250 325 343962 1251 [some (.ref 2000000), some (.ref (0 + 0)), some (.ref (287 + 0)), some (.int (nI (6 * k)))] [] 325 w (fun r _ _ => r = some (.int 1))) : pm_X gs_L (ro_L L xs) M_L_law 13 600000 7302250 325 343962 327 [some (.ref 2000000), some (.ref (0 + 0)), some (.ref (287 + 0)), some (.int (nI (6 * k)))] [] 325 w (fun r _ _ => r = some (.int 1)) := by
  refine pm_aload_n dL_law_327 rfl ?_
  refine pm_aload_n dL_law_328 rfl ?_
  refine pm_iload_n dL_law_329 rfl ?_
  refine pm_iconst (v := 1) dL_law_330 (by decide) ?_
  refine pm_iadd dL_law_331 ?_
  refine pm_i (y := nI (6 * k + 1)) (nI_add (6 * k) 1) ?_
  refine pm_tld (f := xs) dL_law_332 rfl (vp_in_nI (by omega) (by omega)) ?_
  refine pm_i (y := xs (6 * k + 1)) (congrArg xs (nI_clamp (by omega))) ?_
  refine pm_aload_n dL_law_333 rfl ?_
  refine pm_iload_n dL_law_334 rfl ?_
  refine pm_iconst (v := 2) dL_law_335 (by decide) ?_
  refine pm_iadd dL_law_336 ?_
  refine pm_i (y := nI (6 * k + 2)) (nI_add (6 * k) 2) ?_
  refine pm_tld (f := xs) dL_law_337 rfl (vp_in_nI (by omega) (by omega)) ?_
  refine pm_i (y := xs (6 * k + 2)) (congrArg xs (nI_clamp (by omega))) ?_
  refine pm_aload_n dL_law_338 rfl ?_
  refine pm_iload_n dL_law_339 rfl ?_
  refine pm_iconst (v := 3) dL_law_340 (by decide) ?_
  refine pm_iadd dL_law_341 ?_
  refine pm_i (y := nI (6 * k + 3)) (nI_add (6 * k) 3) ?_
  refine pm_tld (f := xs) dL_law_342 rfl (vp_in_nI (by omega) (by omega)) ?_
  refine pm_i (y := xs (6 * k + 3)) (congrArg xs (nI_clamp (by omega))) ?_
  obtain ⟨zc, zm, ec, em, hcmp, hJ⟩ := ls_poke hs (xs (6 * k + 1)) (xs (6 * k + 2)) (xs (6 * k + 3)) (xs (6 * k + 4)) (xs (6 * k + 5)) _ _ hI
  refine rg_cV (M := M_L_law) (Mc := M_X9_poke) (dc := 4) (As := [.int (xs (6 * k + 1)), .int (xs (6 * k + 2)), .int (xs (6 * k + 3))]) (st := []) (j := 0) hRC dL_law_343 ml_L_37 ⟨_, _, rfl⟩ rfl (by decide) (Nat.le_of_ble_eq_true rfl) (Nat.le_of_ble_eq_true rfl) (Nat.le_of_ble_eq_true rfl) rfl (k_X9_poke hRC ec) (fun r1 n1 w1 hq => ?_)
  obtain ⟨rfl, rfl, hR2, hk3⟩ := hq
  have hR4 : rg shM 287 um 325 w1 := rg_keep hRM (Nat.le_refl _) (fun j hj => hk3 (287 + j) (Or.inr (by show 0 + 287 ≤ _; omega)))
  simp only [Option.toList_some, List.cons_append, List.nil_append]
  refine pm_pop dL_law_346 rfl ?_
  refine pm_aload_n dL_law_347 rfl ?_
  refine pm_aload_n dL_law_348 rfl ?_
  refine pm_iload_n dL_law_349 rfl ?_
  refine pm_iconst (v := 1) dL_law_350 (by decide) ?_
  refine pm_iadd dL_law_351 ?_
  refine pm_i (y := nI (6 * k + 1)) (nI_add (6 * k) 1) ?_
  refine pm_tld (f := xs) dL_law_352 rfl (vp_in_nI (by omega) (by omega)) ?_
  refine pm_i (y := xs (6 * k + 1)) (congrArg xs (nI_clamp (by omega))) ?_
  refine pm_aload_n dL_law_353 rfl ?_
  refine pm_iload_n dL_law_354 rfl ?_
  refine pm_iconst (v := 2) dL_law_355 (by decide) ?_
  refine pm_iadd dL_law_356 ?_
  refine pm_i (y := nI (6 * k + 2)) (nI_add (6 * k) 2) ?_
  refine pm_tld (f := xs) dL_law_357 rfl (vp_in_nI (by omega) (by omega)) ?_
  refine pm_i (y := xs (6 * k + 2)) (congrArg xs (nI_clamp (by omega))) ?_
  refine pm_aload_n dL_law_358 rfl ?_
  refine pm_iload_n dL_law_359 rfl ?_
  refine pm_iconst (v := 3) dL_law_360 (by decide) ?_
  refine pm_iadd dL_law_361 ?_
  refine pm_i (y := nI (6 * k + 3)) (nI_add (6 * k) 3) ?_
  refine pm_tld (f := xs) dL_law_362 rfl (vp_in_nI (by omega) (by omega)) ?_
  refine pm_i (y := xs (6 * k + 3)) (congrArg xs (nI_clamp (by omega))) ?_
  refine rg_cV (M := M_L_law) (Mc := M_X10_poke) (dc := 2) (As := [.int (xs (6 * k + 1)), .int (xs (6 * k + 2)), .int (xs (6 * k + 3))]) (st := []) (j := 0) hR4 dL_law_363 ml_L_41 ⟨_, _, rfl⟩ rfl (by decide) (Nat.le_of_ble_eq_true rfl) (Nat.le_of_ble_eq_true rfl) (Nat.le_of_ble_eq_true rfl) rfl (k_X10_poke hR4 em) (fun r1 n1 w5 hq => ?_)
  obtain ⟨rfl, rfl, hR6, hk7⟩ := hq
  have hR8 : rg shC 0 zc.2 325 w5 := rg_keep hR2 (Nat.le_refl _) (fun j hj => hk7 (0 + j) (Or.inl (by have : j < 287 := hj; omega)))
  simp only [Option.toList_some, List.cons_append, List.nil_append]
  refine pm_pop dL_law_366 rfl ?_
  refine pm_goto (tgt := 1251) dL_law_367 (by decide) ?_
  exact hend _ _ _ hJ hR8 hR6
set_option maxHeartbeats 4000000 in
set_option maxRecDepth 100000 in
theorem law_run {F L k : Nat} {xs : Nat → Int32} {uc um : rg_U} {w : Nat → va_E} {cmp : Nat → Bool} {I J : rg_U → rg_U → Prop} (hs : LawSteps F cmp I J) (hL : L < 2 ^ 30) (hk : 6 * k + 6 ≤ L) (hRC : rg shC 0 uc 325 w) (hRM : rg shM 287 um 325 w) (hI : I uc um) (hend : ∀ uc um w, J uc um → rg shC 0 uc 325 w → rg shM 287 um 325 w → pm_X gs_L (ro_L L xs) M_L_law 13 600000 7302250 325 343962 1251 [some (.ref 2000000), some (.ref (0 + 0)), some (.ref (287 + 0)), some (.int (nI (6 * k)))] [] 325 w (fun r _ _ => r = some (.int 1))) : pm_X gs_L (ro_L L xs) M_L_law 13 600000 7302250 325 343962 370 [some (.ref 2000000), some (.ref (0 + 0)), some (.ref (287 + 0)), some (.int (nI (6 * k)))] [] 325 w (fun r _ _ => r = some (.int 1)) := by
  refine pm_aload_n dL_law_370 rfl ?_
  refine pm_aload_n dL_law_371 rfl ?_
  refine pm_iload_n dL_law_372 rfl ?_
  refine pm_iconst (v := 1) dL_law_373 (by decide) ?_
  refine pm_iadd dL_law_374 ?_
  refine pm_i (y := nI (6 * k + 1)) (nI_add (6 * k) 1) ?_
  refine pm_tld (f := xs) dL_law_375 rfl (vp_in_nI (by omega) (by omega)) ?_
  refine pm_i (y := xs (6 * k + 1)) (congrArg xs (nI_clamp (by omega))) ?_
  obtain ⟨zc, zm, ec, em, hcmp, hJ⟩ := ls_run hs (xs (6 * k + 1)) (xs (6 * k + 2)) (xs (6 * k + 3)) (xs (6 * k + 4)) (xs (6 * k + 5)) _ _ hI
  refine rg_cV (M := M_L_law) (Mc := M_X9_run) (dc := 7) (As := [.int (xs (6 * k + 1))]) (st := []) (j := 0) hRC dL_law_376 ml_L_42 ⟨_, _, rfl⟩ rfl (by decide) (Nat.le_of_ble_eq_true rfl) (Nat.le_of_ble_eq_true rfl) (Nat.le_of_ble_eq_true rfl) rfl (k_X9_run hRC ec) (fun r1 n1 w1 hq => ?_)
  obtain ⟨rfl, rfl, hR2, hk3⟩ := hq
  have hR4 : rg shM 287 um 325 w1 := rg_keep hRM (Nat.le_refl _) (fun j hj => hk3 (287 + j) (Or.inr (by show 0 + 287 ≤ _; omega)))
  simp only [Option.toList_some, List.cons_append, List.nil_append]
  refine pm_pop dL_law_379 rfl ?_
  refine pm_aload_n dL_law_380 rfl ?_
  refine pm_aload_n dL_law_381 rfl ?_
  refine pm_iload_n dL_law_382 rfl ?_
  refine pm_iconst (v := 1) dL_law_383 (by decide) ?_
  refine pm_iadd dL_law_384 ?_
  refine pm_i (y := nI (6 * k + 1)) (nI_add (6 * k) 1) ?_
  refine pm_tld (f := xs) dL_law_385 rfl (vp_in_nI (by omega) (by omega)) ?_
  refine pm_i (y := xs (6 * k + 1)) (congrArg xs (nI_clamp (by omega))) ?_
  refine rg_cV (M := M_L_law) (Mc := M_X10_run) (dc := 7) (As := [.int (xs (6 * k + 1))]) (st := []) (j := 0) hR4 dL_law_386 ml_L_45 ⟨_, _, rfl⟩ rfl (by decide) (Nat.le_of_ble_eq_true rfl) (Nat.le_of_ble_eq_true rfl) (Nat.le_of_ble_eq_true rfl) rfl (k_X10_run hR4 em) (fun r1 n1 w5 hq => ?_)
  obtain ⟨rfl, rfl, hR6, hk7⟩ := hq
  have hR8 : rg shC 0 zc.2 325 w5 := rg_keep hR2 (Nat.le_refl _) (fun j hj => hk7 (0 + j) (Or.inl (by have : j < 287 := hj; omega)))
  simp only [Option.toList_some, List.cons_append, List.nil_append]
  refine pm_pop dL_law_389 rfl ?_
  refine pm_goto (tgt := 1251) dL_law_390 (by decide) ?_
  exact hend _ _ _ hJ hR8 hR6
set_option maxHeartbeats 4000000 in
set_option maxRecDepth 100000 in
theorem law_watch {F L k : Nat} {xs : Nat → Int32} {uc um : rg_U} {w : Nat → va_E} {cmp : Nat → Bool} {I J : rg_U → rg_U → Prop} (hs : LawSteps F cmp I J) (hL : L < 2 ^ 30) (hk : 6 * k + 6 ≤ L) (hRC : rg shC 0 uc 325 w) (hRM : rg shM 287 um 325 w) (hI : I uc um) (hend : ∀ uc um w, J uc um → rg shC 0 uc 325 w → rg shM 287 um 325 w → pm_X gs_L (ro_L L xs) M_L_law 13 600000 7302250 325 343962 1251 [some (.ref 2000000), some (.ref (0 + 0)), some (.ref (287 + 0)), some (.int (nI (6 * k)))] [] 325 w (fun r _ _ => r = some (.int 1))) : pm_X gs_L (ro_L L xs) M_L_law 13 600000 7302250 325 343962 393 [some (.ref 2000000), some (.ref (0 + 0)), some (.ref (287 + 0)), some (.int (nI (6 * k)))] [] 325 w (fun r _ _ => r = some (.int 1)) := by
  refine pm_aload_n dL_law_393 rfl ?_
  refine pm_aload_n dL_law_394 rfl ?_
  refine pm_iload_n dL_law_395 rfl ?_
  refine pm_iconst (v := 1) dL_law_396 (by decide) ?_
  refine pm_iadd dL_law_397 ?_
  refine pm_i (y := nI (6 * k + 1)) (nI_add (6 * k) 1) ?_
  refine pm_tld (f := xs) dL_law_398 rfl (vp_in_nI (by omega) (by omega)) ?_
  refine pm_i (y := xs (6 * k + 1)) (congrArg xs (nI_clamp (by omega))) ?_
  refine pm_aload_n dL_law_399 rfl ?_
  refine pm_iload_n dL_law_400 rfl ?_
  refine pm_iconst (v := 2) dL_law_401 (by decide) ?_
  refine pm_iadd dL_law_402 ?_
  refine pm_i (y := nI (6 * k + 2)) (nI_add (6 * k) 2) ?_
  refine pm_tld (f := xs) dL_law_403 rfl (vp_in_nI (by omega) (by omega)) ?_
  refine pm_i (y := xs (6 * k + 2)) (congrArg xs (nI_clamp (by omega))) ?_
  refine pm_if_eq (tgt := 411) dL_law_404 (by decide) (fun z1 => ?_) (fun z1 => ?_)
  · refine pm_iconst (v := 0) dL_law_411 (by decide) ?_
    obtain ⟨zc, zm, ec, em, hcmp, hJ⟩ := ls_watch hs (xs (6 * k + 1)) (xs (6 * k + 2)) (xs (6 * k + 3)) (xs (6 * k + 4)) (xs (6 * k + 5)) _ _ hI
    rw [if_pos z1] at ec em
    refine rg_cV (M := M_L_law) (Mc := M_X9_watch) (dc := 2) (As := [.int (xs (6 * k + 1)), .int 0]) (st := []) (j := 0) hRC dL_law_412 ml_L_46 ⟨_, _, rfl⟩ rfl (by decide) (Nat.le_of_ble_eq_true rfl) (Nat.le_of_ble_eq_true rfl) (Nat.le_of_ble_eq_true rfl) rfl (k_X9_watch hRC ec) (fun r1 n1 w2 hq => ?_)
    obtain ⟨rfl, rfl, hR3, hk4⟩ := hq
    have hR5 : rg shM 287 um 325 w2 := rg_keep hRM (Nat.le_refl _) (fun j hj => hk4 (287 + j) (Or.inr (by show 0 + 287 ≤ _; omega)))
    simp only [Option.toList_some, List.cons_append, List.nil_append]
    refine pm_pop dL_law_415 rfl ?_
    refine pm_aload_n dL_law_416 rfl ?_
    refine pm_aload_n dL_law_417 rfl ?_
    refine pm_iload_n dL_law_418 rfl ?_
    refine pm_iconst (v := 1) dL_law_419 (by decide) ?_
    refine pm_iadd dL_law_420 ?_
    refine pm_i (y := nI (6 * k + 1)) (nI_add (6 * k) 1) ?_
    refine pm_tld (f := xs) dL_law_421 rfl (vp_in_nI (by omega) (by omega)) ?_
    refine pm_i (y := xs (6 * k + 1)) (congrArg xs (nI_clamp (by omega))) ?_
    refine pm_aload_n dL_law_422 rfl ?_
    refine pm_iload_n dL_law_423 rfl ?_
    refine pm_iconst (v := 2) dL_law_424 (by decide) ?_
    refine pm_iadd dL_law_425 ?_
    refine pm_i (y := nI (6 * k + 2)) (nI_add (6 * k) 2) ?_
    refine pm_tld (f := xs) dL_law_426 rfl (vp_in_nI (by omega) (by omega)) ?_
    refine pm_i (y := xs (6 * k + 2)) (congrArg xs (nI_clamp (by omega))) ?_
    refine pm_if_eq (tgt := 434) dL_law_427 (by decide) (fun _ => ?_) (fun q => absurd z1 q)
    refine pm_iconst (v := 0) dL_law_434 (by decide) ?_
    refine rg_cV (M := M_L_law) (Mc := M_X10_watch) (dc := 2) (As := [.int (xs (6 * k + 1)), .int 0]) (st := []) (j := 0) hR5 dL_law_435 ml_L_50 ⟨_, _, rfl⟩ rfl (by decide) (Nat.le_of_ble_eq_true rfl) (Nat.le_of_ble_eq_true rfl) (Nat.le_of_ble_eq_true rfl) rfl (k_X10_watch hR5 em) (fun r1 n1 w6 hq => ?_)
    obtain ⟨rfl, rfl, hR7, hk8⟩ := hq
    have hR9 : rg shC 0 zc.2 325 w6 := rg_keep hR3 (Nat.le_refl _) (fun j hj => hk8 (0 + j) (Or.inl (by have : j < 287 := hj; omega)))
    simp only [Option.toList_some, List.cons_append, List.nil_append]
    refine pm_pop dL_law_438 rfl ?_
    refine pm_goto (tgt := 1251) dL_law_439 (by decide) ?_
    exact hend _ _ _ hJ hR9 hR7
  · refine pm_iconst (v := 1) dL_law_407 (by decide) ?_
    refine pm_goto (tgt := 412) dL_law_408 (by decide) ?_
    obtain ⟨zc, zm, ec, em, hcmp, hJ⟩ := ls_watch hs (xs (6 * k + 1)) (xs (6 * k + 2)) (xs (6 * k + 3)) (xs (6 * k + 4)) (xs (6 * k + 5)) _ _ hI
    rw [if_neg z1] at ec em
    refine rg_cV (M := M_L_law) (Mc := M_X9_watch) (dc := 2) (As := [.int (xs (6 * k + 1)), .int 1]) (st := []) (j := 0) hRC dL_law_412 ml_L_46 ⟨_, _, rfl⟩ rfl (by decide) (Nat.le_of_ble_eq_true rfl) (Nat.le_of_ble_eq_true rfl) (Nat.le_of_ble_eq_true rfl) rfl (k_X9_watch hRC ec) (fun r1 n1 w10 hq => ?_)
    obtain ⟨rfl, rfl, hR11, hk12⟩ := hq
    have hR13 : rg shM 287 um 325 w10 := rg_keep hRM (Nat.le_refl _) (fun j hj => hk12 (287 + j) (Or.inr (by show 0 + 287 ≤ _; omega)))
    simp only [Option.toList_some, List.cons_append, List.nil_append]
    refine pm_pop dL_law_415 rfl ?_
    refine pm_aload_n dL_law_416 rfl ?_
    refine pm_aload_n dL_law_417 rfl ?_
    refine pm_iload_n dL_law_418 rfl ?_
    refine pm_iconst (v := 1) dL_law_419 (by decide) ?_
    refine pm_iadd dL_law_420 ?_
    refine pm_i (y := nI (6 * k + 1)) (nI_add (6 * k) 1) ?_
    refine pm_tld (f := xs) dL_law_421 rfl (vp_in_nI (by omega) (by omega)) ?_
    refine pm_i (y := xs (6 * k + 1)) (congrArg xs (nI_clamp (by omega))) ?_
    refine pm_aload_n dL_law_422 rfl ?_
    refine pm_iload_n dL_law_423 rfl ?_
    refine pm_iconst (v := 2) dL_law_424 (by decide) ?_
    refine pm_iadd dL_law_425 ?_
    refine pm_i (y := nI (6 * k + 2)) (nI_add (6 * k) 2) ?_
    refine pm_tld (f := xs) dL_law_426 rfl (vp_in_nI (by omega) (by omega)) ?_
    refine pm_i (y := xs (6 * k + 2)) (congrArg xs (nI_clamp (by omega))) ?_
    refine pm_if_eq (tgt := 434) dL_law_427 (by decide) (fun q => absurd q z1) (fun _ => ?_)
    refine pm_iconst (v := 1) dL_law_430 (by decide) ?_
    refine pm_goto (tgt := 435) dL_law_431 (by decide) ?_
    refine rg_cV (M := M_L_law) (Mc := M_X10_watch) (dc := 2) (As := [.int (xs (6 * k + 1)), .int 1]) (st := []) (j := 0) hR13 dL_law_435 ml_L_50 ⟨_, _, rfl⟩ rfl (by decide) (Nat.le_of_ble_eq_true rfl) (Nat.le_of_ble_eq_true rfl) (Nat.le_of_ble_eq_true rfl) rfl (k_X10_watch hR13 em) (fun r1 n1 w14 hq => ?_)
    obtain ⟨rfl, rfl, hR15, hk16⟩ := hq
    have hR17 : rg shC 0 zc.2 325 w14 := rg_keep hR11 (Nat.le_refl _) (fun j hj => hk16 (0 + j) (Or.inl (by have : j < 287 := hj; omega)))
    simp only [Option.toList_some, List.cons_append, List.nil_append]
    refine pm_pop dL_law_438 rfl ?_
    refine pm_goto (tgt := 1251) dL_law_439 (by decide) ?_
    exact hend _ _ _ hJ hR17 hR15
set_option maxHeartbeats 4000000 in
set_option maxRecDepth 100000 in
theorem law_back {F L k : Nat} {xs : Nat → Int32} {uc um : rg_U} {w : Nat → va_E} {cmp : Nat → Bool} {I J : rg_U → rg_U → Prop} (hs : LawSteps F cmp I J) (hL : L < 2 ^ 30) (hk : 6 * k + 6 ≤ L) (hRC : rg shC 0 uc 325 w) (hRM : rg shM 287 um 325 w) (hI : I uc um) (hend : ∀ uc um w, J uc um → rg shC 0 uc 325 w → rg shM 287 um 325 w → pm_X gs_L (ro_L L xs) M_L_law 13 600000 7302250 325 343962 1251 [some (.ref 2000000), some (.ref (0 + 0)), some (.ref (287 + 0)), some (.int (nI (6 * k)))] [] 325 w (fun r _ _ => r = some (.int 1))) : pm_X gs_L (ro_L L xs) M_L_law 13 600000 7302250 325 343962 442 [some (.ref 2000000), some (.ref (0 + 0)), some (.ref (287 + 0)), some (.int (nI (6 * k)))] [] 325 w (fun r _ _ => r = some (.int 1)) := by
  refine pm_aload_n dL_law_442 rfl ?_
  refine pm_aload_n dL_law_443 rfl ?_
  refine pm_iload_n dL_law_444 rfl ?_
  refine pm_iconst (v := 1) dL_law_445 (by decide) ?_
  refine pm_iadd dL_law_446 ?_
  refine pm_i (y := nI (6 * k + 1)) (nI_add (6 * k) 1) ?_
  refine pm_tld (f := xs) dL_law_447 rfl (vp_in_nI (by omega) (by omega)) ?_
  refine pm_i (y := xs (6 * k + 1)) (congrArg xs (nI_clamp (by omega))) ?_
  obtain ⟨zc, zm, ec, em, hcmp, hJ⟩ := ls_back hs (xs (6 * k + 1)) (xs (6 * k + 2)) (xs (6 * k + 3)) (xs (6 * k + 4)) (xs (6 * k + 5)) _ _ hI
  refine rg_cV (M := M_L_law) (Mc := M_X9_back) (dc := 4) (As := [.int (xs (6 * k + 1))]) (st := []) (j := 0) hRC dL_law_448 ml_L_51 ⟨_, _, rfl⟩ rfl (by decide) (Nat.le_of_ble_eq_true rfl) (Nat.le_of_ble_eq_true rfl) (Nat.le_of_ble_eq_true rfl) rfl (k_X9_back hRC ec) (fun r1 n1 w1 hq => ?_)
  obtain ⟨rfl, rfl, hR2, hk3⟩ := hq
  have hR4 : rg shM 287 um 325 w1 := rg_keep hRM (Nat.le_refl _) (fun j hj => hk3 (287 + j) (Or.inr (by show 0 + 287 ≤ _; omega)))
  simp only [Option.toList_some, List.cons_append, List.nil_append]
  refine pm_pop dL_law_451 rfl ?_
  refine pm_aload_n dL_law_452 rfl ?_
  refine pm_aload_n dL_law_453 rfl ?_
  refine pm_iload_n dL_law_454 rfl ?_
  refine pm_iconst (v := 1) dL_law_455 (by decide) ?_
  refine pm_iadd dL_law_456 ?_
  refine pm_i (y := nI (6 * k + 1)) (nI_add (6 * k) 1) ?_
  refine pm_tld (f := xs) dL_law_457 rfl (vp_in_nI (by omega) (by omega)) ?_
  refine pm_i (y := xs (6 * k + 1)) (congrArg xs (nI_clamp (by omega))) ?_
  refine rg_cV (M := M_L_law) (Mc := M_X10_back) (dc := 9) (As := [.int (xs (6 * k + 1))]) (st := []) (j := 0) hR4 dL_law_458 ml_L_54 ⟨_, _, rfl⟩ rfl (by decide) (Nat.le_of_ble_eq_true rfl) (Nat.le_of_ble_eq_true rfl) (Nat.le_of_ble_eq_true rfl) rfl (k_X10_back hR4 em) (fun r1 n1 w5 hq => ?_)
  obtain ⟨rfl, rfl, hR6, hk7⟩ := hq
  have hR8 : rg shC 0 zc.2 325 w5 := rg_keep hR2 (Nat.le_refl _) (fun j hj => hk7 (0 + j) (Or.inl (by have : j < 287 := hj; omega)))
  simp only [Option.toList_some, List.cons_append, List.nil_append]
  refine pm_pop dL_law_461 rfl ?_
  refine pm_goto (tgt := 1251) dL_law_462 (by decide) ?_
  exact hend _ _ _ hJ hR8 hR6
set_option maxHeartbeats 4000000 in
set_option maxRecDepth 100000 in
theorem law_keep {F L k : Nat} {xs : Nat → Int32} {uc um : rg_U} {w : Nat → va_E} {cmp : Nat → Bool} {I J : rg_U → rg_U → Prop} (hs : LawSteps F cmp I J) (hL : L < 2 ^ 30) (hk : 6 * k + 6 ≤ L) (hRC : rg shC 0 uc 325 w) (hRM : rg shM 287 um 325 w) (hI : I uc um) (hend : ∀ uc um w, J uc um → rg shC 0 uc 325 w → rg shM 287 um 325 w → pm_X gs_L (ro_L L xs) M_L_law 13 600000 7302250 325 343962 1251 [some (.ref 2000000), some (.ref (0 + 0)), some (.ref (287 + 0)), some (.int (nI (6 * k)))] [] 325 w (fun r _ _ => r = some (.int 1))) : pm_X gs_L (ro_L L xs) M_L_law 13 600000 7302250 325 343962 465 [some (.ref 2000000), some (.ref (0 + 0)), some (.ref (287 + 0)), some (.int (nI (6 * k)))] [] 325 w (fun r _ _ => r = some (.int 1)) := by
  refine pm_aload_n dL_law_465 rfl ?_
  obtain ⟨zc, zm, ec, em, hcmp, hJ⟩ := ls_keep hs (xs (6 * k + 1)) (xs (6 * k + 2)) (xs (6 * k + 3)) (xs (6 * k + 4)) (xs (6 * k + 5)) _ _ hI
  refine rg_cV (M := M_L_law) (Mc := M_X9_keep) (dc := 4) (As := []) (st := []) (j := 0) hRC dL_law_466 ml_L_55 ⟨_, _, rfl⟩ rfl (by decide) (Nat.le_of_ble_eq_true rfl) (Nat.le_of_ble_eq_true rfl) (Nat.le_of_ble_eq_true rfl) rfl (k_X9_keep hRC ec) (fun r1 n1 w1 hq => ?_)
  obtain ⟨rfl, rfl, hR2, hk3⟩ := hq
  have hR4 : rg shM 287 um 325 w1 := rg_keep hRM (Nat.le_refl _) (fun j hj => hk3 (287 + j) (Or.inr (by show 0 + 287 ≤ _; omega)))
  simp only [Option.toList_some, List.cons_append, List.nil_append]
  refine pm_pop dL_law_469 rfl ?_
  refine pm_aload_n dL_law_470 rfl ?_
  refine rg_cV (M := M_L_law) (Mc := M_X10_keep) (dc := 2) (As := []) (st := []) (j := 0) hR4 dL_law_471 ml_L_58 ⟨_, _, rfl⟩ rfl (by decide) (Nat.le_of_ble_eq_true rfl) (Nat.le_of_ble_eq_true rfl) (Nat.le_of_ble_eq_true rfl) rfl (k_X10_keep hR4 em) (fun r1 n1 w5 hq => ?_)
  obtain ⟨rfl, rfl, hR6, hk7⟩ := hq
  have hR8 : rg shC 0 zc.2 325 w5 := rg_keep hR2 (Nat.le_refl _) (fun j hj => hk7 (0 + j) (Or.inl (by have : j < 287 := hj; omega)))
  simp only [Option.toList_some, List.cons_append, List.nil_append]
  refine pm_pop dL_law_474 rfl ?_
  refine pm_goto (tgt := 1251) dL_law_475 (by decide) ?_
  exact hend _ _ _ hJ hR8 hR6
set_option maxHeartbeats 4000000 in
set_option maxRecDepth 100000 in
theorem law_use {F L k : Nat} {xs : Nat → Int32} {uc um : rg_U} {w : Nat → va_E} {cmp : Nat → Bool} {I J : rg_U → rg_U → Prop} (hs : LawSteps F cmp I J) (hL : L < 2 ^ 30) (hk : 6 * k + 6 ≤ L) (hRC : rg shC 0 uc 325 w) (hRM : rg shM 287 um 325 w) (hI : I uc um) (hend : ∀ uc um w, J uc um → rg shC 0 uc 325 w → rg shM 287 um 325 w → pm_X gs_L (ro_L L xs) M_L_law 13 600000 7302250 325 343962 1251 [some (.ref 2000000), some (.ref (0 + 0)), some (.ref (287 + 0)), some (.int (nI (6 * k)))] [] 325 w (fun r _ _ => r = some (.int 1))) : pm_X gs_L (ro_L L xs) M_L_law 13 600000 7302250 325 343962 478 [some (.ref 2000000), some (.ref (0 + 0)), some (.ref (287 + 0)), some (.int (nI (6 * k)))] [] 325 w (fun r _ _ => r = some (.int 1)) := by
  refine pm_aload_n dL_law_478 rfl ?_
  refine pm_aload_n dL_law_479 rfl ?_
  refine pm_iload_n dL_law_480 rfl ?_
  refine pm_iconst (v := 1) dL_law_481 (by decide) ?_
  refine pm_iadd dL_law_482 ?_
  refine pm_i (y := nI (6 * k + 1)) (nI_add (6 * k) 1) ?_
  refine pm_tld (f := xs) dL_law_483 rfl (vp_in_nI (by omega) (by omega)) ?_
  refine pm_i (y := xs (6 * k + 1)) (congrArg xs (nI_clamp (by omega))) ?_
  obtain ⟨zc, zm, ec, em, hcmp, hJ⟩ := ls_use hs (xs (6 * k + 1)) (xs (6 * k + 2)) (xs (6 * k + 3)) (xs (6 * k + 4)) (xs (6 * k + 5)) _ _ hI
  refine rg_cV (M := M_L_law) (Mc := M_X9_use) (dc := 1) (As := [.int (xs (6 * k + 1))]) (st := []) (j := 0) hRC dL_law_484 ml_L_59 ⟨_, _, rfl⟩ rfl (by decide) (Nat.le_of_ble_eq_true rfl) (Nat.le_of_ble_eq_true rfl) (Nat.le_of_ble_eq_true rfl) rfl (k_X9_use hRC ec) (fun r1 n1 w1 hq => ?_)
  obtain ⟨rfl, rfl, hR2, hk3⟩ := hq
  have hR4 : rg shM 287 um 325 w1 := rg_keep hRM (Nat.le_refl _) (fun j hj => hk3 (287 + j) (Or.inr (by show 0 + 287 ≤ _; omega)))
  simp only [Option.toList_some, List.cons_append, List.nil_append]
  refine pm_pop dL_law_487 rfl ?_
  refine pm_aload_n dL_law_488 rfl ?_
  refine pm_aload_n dL_law_489 rfl ?_
  refine pm_iload_n dL_law_490 rfl ?_
  refine pm_iconst (v := 1) dL_law_491 (by decide) ?_
  refine pm_iadd dL_law_492 ?_
  refine pm_i (y := nI (6 * k + 1)) (nI_add (6 * k) 1) ?_
  refine pm_tld (f := xs) dL_law_493 rfl (vp_in_nI (by omega) (by omega)) ?_
  refine pm_i (y := xs (6 * k + 1)) (congrArg xs (nI_clamp (by omega))) ?_
  refine rg_cV (M := M_L_law) (Mc := M_X10_use) (dc := 1) (As := [.int (xs (6 * k + 1))]) (st := []) (j := 0) hR4 dL_law_494 ml_L_63 ⟨_, _, rfl⟩ rfl (by decide) (Nat.le_of_ble_eq_true rfl) (Nat.le_of_ble_eq_true rfl) (Nat.le_of_ble_eq_true rfl) rfl (k_X10_use hR4 em) (fun r1 n1 w5 hq => ?_)
  obtain ⟨rfl, rfl, hR6, hk7⟩ := hq
  have hR8 : rg shC 0 zc.2 325 w5 := rg_keep hR2 (Nat.le_refl _) (fun j hj => hk7 (0 + j) (Or.inl (by have : j < 287 := hj; omega)))
  simp only [Option.toList_some, List.cons_append, List.nil_append]
  refine pm_pop dL_law_497 rfl ?_
  refine pm_goto (tgt := 1251) dL_law_498 (by decide) ?_
  exact hend _ _ _ hJ hR8 hR6
set_option maxHeartbeats 4000000 in
set_option maxRecDepth 100000 in
theorem law_at {F L k : Nat} {xs : Nat → Int32} {uc um : rg_U} {w : Nat → va_E} {cmp : Nat → Bool} {I J : rg_U → rg_U → Prop} (hs : LawSteps F cmp I J) (hL : L < 2 ^ 30) (hk : 6 * k + 6 ≤ L) (hRC : rg shC 0 uc 325 w) (hRM : rg shM 287 um 325 w) (hI : I uc um) (hend : ∀ uc um w, J uc um → rg shC 0 uc 325 w → rg shM 287 um 325 w → pm_X gs_L (ro_L L xs) M_L_law 13 600000 7302250 325 343962 1251 [some (.ref 2000000), some (.ref (0 + 0)), some (.ref (287 + 0)), some (.int (nI (6 * k)))] [] 325 w (fun r _ _ => r = some (.int 1))) : pm_X gs_L (ro_L L xs) M_L_law 13 600000 7302250 325 343962 501 [some (.ref 2000000), some (.ref (0 + 0)), some (.ref (287 + 0)), some (.int (nI (6 * k)))] [] 325 w (fun r _ _ => r = some (.int 1)) := by
  refine pm_aload_n dL_law_501 rfl ?_
  refine pm_aload_n dL_law_502 rfl ?_
  refine pm_iload_n dL_law_503 rfl ?_
  refine pm_iconst (v := 1) dL_law_504 (by decide) ?_
  refine pm_iadd dL_law_505 ?_
  refine pm_i (y := nI (6 * k + 1)) (nI_add (6 * k) 1) ?_
  refine pm_tld (f := xs) dL_law_506 rfl (vp_in_nI (by omega) (by omega)) ?_
  refine pm_i (y := xs (6 * k + 1)) (congrArg xs (nI_clamp (by omega))) ?_
  refine pm_aload_n dL_law_507 rfl ?_
  refine pm_iload_n dL_law_508 rfl ?_
  refine pm_iconst (v := 2) dL_law_509 (by decide) ?_
  refine pm_iadd dL_law_510 ?_
  refine pm_i (y := nI (6 * k + 2)) (nI_add (6 * k) 2) ?_
  refine pm_tld (f := xs) dL_law_511 rfl (vp_in_nI (by omega) (by omega)) ?_
  refine pm_i (y := xs (6 * k + 2)) (congrArg xs (nI_clamp (by omega))) ?_
  refine pm_aload_n dL_law_512 rfl ?_
  refine pm_iload_n dL_law_513 rfl ?_
  refine pm_iconst (v := 3) dL_law_514 (by decide) ?_
  refine pm_iadd dL_law_515 ?_
  refine pm_i (y := nI (6 * k + 3)) (nI_add (6 * k) 3) ?_
  refine pm_tld (f := xs) dL_law_516 rfl (vp_in_nI (by omega) (by omega)) ?_
  refine pm_i (y := xs (6 * k + 3)) (congrArg xs (nI_clamp (by omega))) ?_
  obtain ⟨zc, zm, ec, em, hcmp, hJ⟩ := ls_at hs (xs (6 * k + 1)) (xs (6 * k + 2)) (xs (6 * k + 3)) (xs (6 * k + 4)) (xs (6 * k + 5)) _ _ hI
  refine rg_cV (M := M_L_law) (Mc := M_X9_at) (dc := 4) (As := [.int (xs (6 * k + 1)), .int (xs (6 * k + 2)), .int (xs (6 * k + 3))]) (st := []) (j := 0) hRC dL_law_517 ml_L_64 ⟨_, _, rfl⟩ rfl (by decide) (Nat.le_of_ble_eq_true rfl) (Nat.le_of_ble_eq_true rfl) (Nat.le_of_ble_eq_true rfl) rfl (k_X9_at hRC ec) (fun r1 n1 w1 hq => ?_)
  obtain ⟨rfl, rfl, hR2, hk3⟩ := hq
  have hR4 : rg shM 287 um 325 w1 := rg_keep hRM (Nat.le_refl _) (fun j hj => hk3 (287 + j) (Or.inr (by show 0 + 287 ≤ _; omega)))
  simp only [Option.toList_some, List.cons_append, List.nil_append]
  refine pm_pop dL_law_520 rfl ?_
  refine pm_aload_n dL_law_521 rfl ?_
  refine pm_aload_n dL_law_522 rfl ?_
  refine pm_iload_n dL_law_523 rfl ?_
  refine pm_iconst (v := 1) dL_law_524 (by decide) ?_
  refine pm_iadd dL_law_525 ?_
  refine pm_i (y := nI (6 * k + 1)) (nI_add (6 * k) 1) ?_
  refine pm_tld (f := xs) dL_law_526 rfl (vp_in_nI (by omega) (by omega)) ?_
  refine pm_i (y := xs (6 * k + 1)) (congrArg xs (nI_clamp (by omega))) ?_
  refine pm_aload_n dL_law_527 rfl ?_
  refine pm_iload_n dL_law_528 rfl ?_
  refine pm_iconst (v := 2) dL_law_529 (by decide) ?_
  refine pm_iadd dL_law_530 ?_
  refine pm_i (y := nI (6 * k + 2)) (nI_add (6 * k) 2) ?_
  refine pm_tld (f := xs) dL_law_531 rfl (vp_in_nI (by omega) (by omega)) ?_
  refine pm_i (y := xs (6 * k + 2)) (congrArg xs (nI_clamp (by omega))) ?_
  refine pm_aload_n dL_law_532 rfl ?_
  refine pm_iload_n dL_law_533 rfl ?_
  refine pm_iconst (v := 3) dL_law_534 (by decide) ?_
  refine pm_iadd dL_law_535 ?_
  refine pm_i (y := nI (6 * k + 3)) (nI_add (6 * k) 3) ?_
  refine pm_tld (f := xs) dL_law_536 rfl (vp_in_nI (by omega) (by omega)) ?_
  refine pm_i (y := xs (6 * k + 3)) (congrArg xs (nI_clamp (by omega))) ?_
  refine rg_cV (M := M_L_law) (Mc := M_X10_at) (dc := 9) (As := [.int (xs (6 * k + 1)), .int (xs (6 * k + 2)), .int (xs (6 * k + 3))]) (st := []) (j := 0) hR4 dL_law_537 ml_L_67 ⟨_, _, rfl⟩ rfl (by decide) (Nat.le_of_ble_eq_true rfl) (Nat.le_of_ble_eq_true rfl) (Nat.le_of_ble_eq_true rfl) rfl (k_X10_at hR4 em) (fun r1 n1 w5 hq => ?_)
  obtain ⟨rfl, rfl, hR6, hk7⟩ := hq
  have hR8 : rg shC 0 zc.2 325 w5 := rg_keep hR2 (Nat.le_refl _) (fun j hj => hk7 (0 + j) (Or.inl (by have : j < 287 := hj; omega)))
  simp only [Option.toList_some, List.cons_append, List.nil_append]
  refine pm_pop dL_law_540 rfl ?_
  refine pm_goto (tgt := 1251) dL_law_541 (by decide) ?_
  exact hend _ _ _ hJ hR8 hR6
set_option maxHeartbeats 4000000 in
set_option maxRecDepth 100000 in
theorem law_state {F L k : Nat} {xs : Nat → Int32} {uc um : rg_U} {w : Nat → va_E} {cmp : Nat → Bool} {I J : rg_U → rg_U → Prop} (hs : LawSteps F cmp I J) (hL : L < 2 ^ 30) (hk : 6 * k + 6 ≤ L) (hRC : rg shC 0 uc 325 w) (hRM : rg shM 287 um 325 w) (hI : I uc um) (hend : ∀ uc um w, J uc um → rg shC 0 uc 325 w → rg shM 287 um 325 w → pm_X gs_L (ro_L L xs) M_L_law 13 600000 7302250 325 343962 1251 [some (.ref 2000000), some (.ref (0 + 0)), some (.ref (287 + 0)), some (.int (nI (6 * k)))] [] 325 w (fun r _ _ => r = some (.int 1))) : pm_X gs_L (ro_L L xs) M_L_law 13 600000 7302250 325 343962 544 [some (.ref 2000000), some (.ref (0 + 0)), some (.ref (287 + 0)), some (.int (nI (6 * k)))] [] 325 w (fun r _ _ => r = some (.int 1)) := by
  refine pm_aload_n dL_law_544 rfl ?_
  refine pm_aload_n dL_law_545 rfl ?_
  refine pm_iload_n dL_law_546 rfl ?_
  refine pm_iconst (v := 1) dL_law_547 (by decide) ?_
  refine pm_iadd dL_law_548 ?_
  refine pm_i (y := nI (6 * k + 1)) (nI_add (6 * k) 1) ?_
  refine pm_tld (f := xs) dL_law_549 rfl (vp_in_nI (by omega) (by omega)) ?_
  refine pm_i (y := xs (6 * k + 1)) (congrArg xs (nI_clamp (by omega))) ?_
  refine pm_aload_n dL_law_550 rfl ?_
  refine pm_iload_n dL_law_551 rfl ?_
  refine pm_iconst (v := 2) dL_law_552 (by decide) ?_
  refine pm_iadd dL_law_553 ?_
  refine pm_i (y := nI (6 * k + 2)) (nI_add (6 * k) 2) ?_
  refine pm_tld (f := xs) dL_law_554 rfl (vp_in_nI (by omega) (by omega)) ?_
  refine pm_i (y := xs (6 * k + 2)) (congrArg xs (nI_clamp (by omega))) ?_
  obtain ⟨zc, zm, ec, em, hcmp, hJ⟩ := ls_state hs (xs (6 * k + 1)) (xs (6 * k + 2)) (xs (6 * k + 3)) (xs (6 * k + 4)) (xs (6 * k + 5)) _ _ hI
  refine rg_cV (M := M_L_law) (Mc := M_X9_state) (dc := 4) (As := [.int (xs (6 * k + 1)), .int (xs (6 * k + 2))]) (st := []) (j := 0) hRC dL_law_555 ml_L_68 ⟨_, _, rfl⟩ rfl (by decide) (Nat.le_of_ble_eq_true rfl) (Nat.le_of_ble_eq_true rfl) (Nat.le_of_ble_eq_true rfl) rfl (k_X9_state hRC ec) (fun r1 n1 w1 hq => ?_)
  obtain ⟨rfl, rfl, hR2, hk3⟩ := hq
  have hR4 : rg shM 287 um 325 w1 := rg_keep hRM (Nat.le_refl _) (fun j hj => hk3 (287 + j) (Or.inr (by show 0 + 287 ≤ _; omega)))
  simp only [Option.toList_some, List.cons_append, List.nil_append]
  refine pm_pop dL_law_558 rfl ?_
  refine pm_aload_n dL_law_559 rfl ?_
  refine pm_aload_n dL_law_560 rfl ?_
  refine pm_iload_n dL_law_561 rfl ?_
  refine pm_iconst (v := 1) dL_law_562 (by decide) ?_
  refine pm_iadd dL_law_563 ?_
  refine pm_i (y := nI (6 * k + 1)) (nI_add (6 * k) 1) ?_
  refine pm_tld (f := xs) dL_law_564 rfl (vp_in_nI (by omega) (by omega)) ?_
  refine pm_i (y := xs (6 * k + 1)) (congrArg xs (nI_clamp (by omega))) ?_
  refine pm_aload_n dL_law_565 rfl ?_
  refine pm_iload_n dL_law_566 rfl ?_
  refine pm_iconst (v := 2) dL_law_567 (by decide) ?_
  refine pm_iadd dL_law_568 ?_
  refine pm_i (y := nI (6 * k + 2)) (nI_add (6 * k) 2) ?_
  refine pm_tld (f := xs) dL_law_569 rfl (vp_in_nI (by omega) (by omega)) ?_
  refine pm_i (y := xs (6 * k + 2)) (congrArg xs (nI_clamp (by omega))) ?_
  refine rg_cV (M := M_L_law) (Mc := M_X10_state) (dc := 9) (As := [.int (xs (6 * k + 1)), .int (xs (6 * k + 2))]) (st := []) (j := 0) hR4 dL_law_570 ml_L_72 ⟨_, _, rfl⟩ rfl (by decide) (Nat.le_of_ble_eq_true rfl) (Nat.le_of_ble_eq_true rfl) (Nat.le_of_ble_eq_true rfl) rfl (k_X10_state hR4 em) (fun r1 n1 w5 hq => ?_)
  obtain ⟨rfl, rfl, hR6, hk7⟩ := hq
  have hR8 : rg shC 0 zc.2 325 w5 := rg_keep hR2 (Nat.le_refl _) (fun j hj => hk7 (0 + j) (Or.inl (by have : j < 287 := hj; omega)))
  simp only [Option.toList_some, List.cons_append, List.nil_append]
  refine pm_pop dL_law_573 rfl ?_
  refine pm_goto (tgt := 1251) dL_law_574 (by decide) ?_
  exact hend _ _ _ hJ hR8 hR6
set_option maxHeartbeats 4000000 in
set_option maxRecDepth 100000 in
theorem law_last {F L k : Nat} {xs : Nat → Int32} {uc um : rg_U} {w : Nat → va_E} {cmp : Nat → Bool} {I J : rg_U → rg_U → Prop} (hs : LawSteps F cmp I J) (hL : L < 2 ^ 30) (hk : 6 * k + 6 ≤ L) (hRC : rg shC 0 uc 325 w) (hRM : rg shM 287 um 325 w) (hI : I uc um) (hend : ∀ uc um w, J uc um → rg shC 0 uc 325 w → rg shM 287 um 325 w → pm_X gs_L (ro_L L xs) M_L_law 13 600000 7302250 325 343962 1251 [some (.ref 2000000), some (.ref (0 + 0)), some (.ref (287 + 0)), some (.int (nI (6 * k)))] [] 325 w (fun r _ _ => r = some (.int 1))) : pm_X gs_L (ro_L L xs) M_L_law 13 600000 7302250 325 343962 577 [some (.ref 2000000), some (.ref (0 + 0)), some (.ref (287 + 0)), some (.int (nI (6 * k)))] [] 325 w (fun r _ _ => r = some (.int 1)) := by
  refine pm_aload_n dL_law_577 rfl ?_
  refine pm_aload_n dL_law_578 rfl ?_
  refine pm_iload_n dL_law_579 rfl ?_
  refine pm_iconst (v := 1) dL_law_580 (by decide) ?_
  refine pm_iadd dL_law_581 ?_
  refine pm_i (y := nI (6 * k + 1)) (nI_add (6 * k) 1) ?_
  refine pm_tld (f := xs) dL_law_582 rfl (vp_in_nI (by omega) (by omega)) ?_
  refine pm_i (y := xs (6 * k + 1)) (congrArg xs (nI_clamp (by omega))) ?_
  refine pm_aload_n dL_law_583 rfl ?_
  refine pm_iload_n dL_law_584 rfl ?_
  refine pm_iconst (v := 2) dL_law_585 (by decide) ?_
  refine pm_iadd dL_law_586 ?_
  refine pm_i (y := nI (6 * k + 2)) (nI_add (6 * k) 2) ?_
  refine pm_tld (f := xs) dL_law_587 rfl (vp_in_nI (by omega) (by omega)) ?_
  refine pm_i (y := xs (6 * k + 2)) (congrArg xs (nI_clamp (by omega))) ?_
  obtain ⟨zc, zm, ec, em, hcmp, hJ⟩ := ls_last hs (xs (6 * k + 1)) (xs (6 * k + 2)) (xs (6 * k + 3)) (xs (6 * k + 4)) (xs (6 * k + 5)) _ _ hI
  refine rg_cV (M := M_L_law) (Mc := M_X9_last) (dc := 5) (As := [.int (xs (6 * k + 1)), .int (xs (6 * k + 2))]) (st := []) (j := 0) hRC dL_law_588 ml_L_73 ⟨_, _, rfl⟩ rfl (by decide) (Nat.le_of_ble_eq_true rfl) (Nat.le_of_ble_eq_true rfl) (Nat.le_of_ble_eq_true rfl) rfl (k_X9_last hRC ec) (fun r1 n1 w1 hq => ?_)
  obtain ⟨rfl, rfl, hR2, hk3⟩ := hq
  have hR4 : rg shM 287 um 325 w1 := rg_keep hRM (Nat.le_refl _) (fun j hj => hk3 (287 + j) (Or.inr (by show 0 + 287 ≤ _; omega)))
  simp only [Option.toList_some, List.cons_append, List.nil_append]
  refine pm_pop dL_law_591 rfl ?_
  refine pm_aload_n dL_law_592 rfl ?_
  refine pm_aload_n dL_law_593 rfl ?_
  refine pm_iload_n dL_law_594 rfl ?_
  refine pm_iconst (v := 1) dL_law_595 (by decide) ?_
  refine pm_iadd dL_law_596 ?_
  refine pm_i (y := nI (6 * k + 1)) (nI_add (6 * k) 1) ?_
  refine pm_tld (f := xs) dL_law_597 rfl (vp_in_nI (by omega) (by omega)) ?_
  refine pm_i (y := xs (6 * k + 1)) (congrArg xs (nI_clamp (by omega))) ?_
  refine pm_aload_n dL_law_598 rfl ?_
  refine pm_iload_n dL_law_599 rfl ?_
  refine pm_iconst (v := 2) dL_law_600 (by decide) ?_
  refine pm_iadd dL_law_601 ?_
  refine pm_i (y := nI (6 * k + 2)) (nI_add (6 * k) 2) ?_
  refine pm_tld (f := xs) dL_law_602 rfl (vp_in_nI (by omega) (by omega)) ?_
  refine pm_i (y := xs (6 * k + 2)) (congrArg xs (nI_clamp (by omega))) ?_
  refine rg_cV (M := M_L_law) (Mc := M_X10_last) (dc := 10) (As := [.int (xs (6 * k + 1)), .int (xs (6 * k + 2))]) (st := []) (j := 0) hR4 dL_law_603 ml_L_76 ⟨_, _, rfl⟩ rfl (by decide) (Nat.le_of_ble_eq_true rfl) (Nat.le_of_ble_eq_true rfl) (Nat.le_of_ble_eq_true rfl) rfl (k_X10_last hR4 em) (fun r1 n1 w5 hq => ?_)
  obtain ⟨rfl, rfl, hR6, hk7⟩ := hq
  have hR8 : rg shC 0 zc.2 325 w5 := rg_keep hR2 (Nat.le_refl _) (fun j hj => hk7 (0 + j) (Or.inl (by have : j < 287 := hj; omega)))
  simp only [Option.toList_some, List.cons_append, List.nil_append]
  refine pm_pop dL_law_606 rfl ?_
  refine pm_goto (tgt := 1251) dL_law_607 (by decide) ?_
  exact hend _ _ _ hJ hR8 hR6
set_option maxHeartbeats 4000000 in
set_option maxRecDepth 100000 in
theorem law_when {F L k : Nat} {xs : Nat → Int32} {uc um : rg_U} {w : Nat → va_E} {cmp : Nat → Bool} {I J : rg_U → rg_U → Prop} (hs : LawSteps F cmp I J) (hL : L < 2 ^ 30) (hk : 6 * k + 6 ≤ L) (hRC : rg shC 0 uc 325 w) (hRM : rg shM 287 um 325 w) (hI : I uc um) (hend : ∀ uc um w, J uc um → rg shC 0 uc 325 w → rg shM 287 um 325 w → pm_X gs_L (ro_L L xs) M_L_law 13 600000 7302250 325 343962 1251 [some (.ref 2000000), some (.ref (0 + 0)), some (.ref (287 + 0)), some (.int (nI (6 * k)))] [] 325 w (fun r _ _ => r = some (.int 1))) : pm_X gs_L (ro_L L xs) M_L_law 13 600000 7302250 325 343962 610 [some (.ref 2000000), some (.ref (0 + 0)), some (.ref (287 + 0)), some (.int (nI (6 * k)))] [] 325 w (fun r _ _ => r = some (.int 1)) := by
  refine pm_aload_n dL_law_610 rfl ?_
  refine pm_aload_n dL_law_611 rfl ?_
  refine pm_iload_n dL_law_612 rfl ?_
  refine pm_iconst (v := 1) dL_law_613 (by decide) ?_
  refine pm_iadd dL_law_614 ?_
  refine pm_i (y := nI (6 * k + 1)) (nI_add (6 * k) 1) ?_
  refine pm_tld (f := xs) dL_law_615 rfl (vp_in_nI (by omega) (by omega)) ?_
  refine pm_i (y := xs (6 * k + 1)) (congrArg xs (nI_clamp (by omega))) ?_
  refine pm_aload_n dL_law_616 rfl ?_
  refine pm_iload_n dL_law_617 rfl ?_
  refine pm_iconst (v := 2) dL_law_618 (by decide) ?_
  refine pm_iadd dL_law_619 ?_
  refine pm_i (y := nI (6 * k + 2)) (nI_add (6 * k) 2) ?_
  refine pm_tld (f := xs) dL_law_620 rfl (vp_in_nI (by omega) (by omega)) ?_
  refine pm_i (y := xs (6 * k + 2)) (congrArg xs (nI_clamp (by omega))) ?_
  refine pm_aload_n dL_law_621 rfl ?_
  refine pm_iload_n dL_law_622 rfl ?_
  refine pm_iconst (v := 3) dL_law_623 (by decide) ?_
  refine pm_iadd dL_law_624 ?_
  refine pm_i (y := nI (6 * k + 3)) (nI_add (6 * k) 3) ?_
  refine pm_tld (f := xs) dL_law_625 rfl (vp_in_nI (by omega) (by omega)) ?_
  refine pm_i (y := xs (6 * k + 3)) (congrArg xs (nI_clamp (by omega))) ?_
  refine pm_aload_n dL_law_626 rfl ?_
  refine pm_iload_n dL_law_627 rfl ?_
  refine pm_iconst (v := 4) dL_law_628 (by decide) ?_
  refine pm_iadd dL_law_629 ?_
  refine pm_i (y := nI (6 * k + 4)) (nI_add (6 * k) 4) ?_
  refine pm_tld (f := xs) dL_law_630 rfl (vp_in_nI (by omega) (by omega)) ?_
  refine pm_i (y := xs (6 * k + 4)) (congrArg xs (nI_clamp (by omega))) ?_
  obtain ⟨zc, zm, ec, em, hcmp, hJ⟩ := ls_when hs (xs (6 * k + 1)) (xs (6 * k + 2)) (xs (6 * k + 3)) (xs (6 * k + 4)) (xs (6 * k + 5)) _ _ hI
  refine rg_cV (M := M_L_law) (Mc := M_X9_when) (dc := 3) (As := [.int (xs (6 * k + 1)), .int (xs (6 * k + 2)), .int (xs (6 * k + 3)), .int (xs (6 * k + 4))]) (st := []) (j := 0) hRC dL_law_631 ml_L_77 ⟨_, _, rfl⟩ rfl (by decide) (Nat.le_of_ble_eq_true rfl) (Nat.le_of_ble_eq_true rfl) (Nat.le_of_ble_eq_true rfl) rfl (k_X9_when hRC ec) (fun r1 n1 w1 hq => ?_)
  obtain ⟨rfl, rfl, hR2, hk3⟩ := hq
  have hR4 : rg shM 287 um 325 w1 := rg_keep hRM (Nat.le_refl _) (fun j hj => hk3 (287 + j) (Or.inr (by show 0 + 287 ≤ _; omega)))
  simp only [Option.toList_some, List.cons_append, List.nil_append]
  refine pm_pop dL_law_634 rfl ?_
  refine pm_aload_n dL_law_635 rfl ?_
  refine pm_aload_n dL_law_636 rfl ?_
  refine pm_iload_n dL_law_637 rfl ?_
  refine pm_iconst (v := 1) dL_law_638 (by decide) ?_
  refine pm_iadd dL_law_639 ?_
  refine pm_i (y := nI (6 * k + 1)) (nI_add (6 * k) 1) ?_
  refine pm_tld (f := xs) dL_law_640 rfl (vp_in_nI (by omega) (by omega)) ?_
  refine pm_i (y := xs (6 * k + 1)) (congrArg xs (nI_clamp (by omega))) ?_
  refine pm_aload_n dL_law_641 rfl ?_
  refine pm_iload_n dL_law_642 rfl ?_
  refine pm_iconst (v := 2) dL_law_643 (by decide) ?_
  refine pm_iadd dL_law_644 ?_
  refine pm_i (y := nI (6 * k + 2)) (nI_add (6 * k) 2) ?_
  refine pm_tld (f := xs) dL_law_645 rfl (vp_in_nI (by omega) (by omega)) ?_
  refine pm_i (y := xs (6 * k + 2)) (congrArg xs (nI_clamp (by omega))) ?_
  refine pm_aload_n dL_law_646 rfl ?_
  refine pm_iload_n dL_law_647 rfl ?_
  refine pm_iconst (v := 3) dL_law_648 (by decide) ?_
  refine pm_iadd dL_law_649 ?_
  refine pm_i (y := nI (6 * k + 3)) (nI_add (6 * k) 3) ?_
  refine pm_tld (f := xs) dL_law_650 rfl (vp_in_nI (by omega) (by omega)) ?_
  refine pm_i (y := xs (6 * k + 3)) (congrArg xs (nI_clamp (by omega))) ?_
  refine pm_aload_n dL_law_651 rfl ?_
  refine pm_iload_n dL_law_652 rfl ?_
  refine pm_iconst (v := 4) dL_law_653 (by decide) ?_
  refine pm_iadd dL_law_654 ?_
  refine pm_i (y := nI (6 * k + 4)) (nI_add (6 * k) 4) ?_
  refine pm_tld (f := xs) dL_law_655 rfl (vp_in_nI (by omega) (by omega)) ?_
  refine pm_i (y := xs (6 * k + 4)) (congrArg xs (nI_clamp (by omega))) ?_
  refine rg_cV (M := M_L_law) (Mc := M_X10_when) (dc := 9) (As := [.int (xs (6 * k + 1)), .int (xs (6 * k + 2)), .int (xs (6 * k + 3)), .int (xs (6 * k + 4))]) (st := []) (j := 0) hR4 dL_law_656 ml_L_81 ⟨_, _, rfl⟩ rfl (by decide) (Nat.le_of_ble_eq_true rfl) (Nat.le_of_ble_eq_true rfl) (Nat.le_of_ble_eq_true rfl) rfl (k_X10_when hR4 em) (fun r1 n1 w5 hq => ?_)
  obtain ⟨rfl, rfl, hR6, hk7⟩ := hq
  have hR8 : rg shC 0 zc.2 325 w5 := rg_keep hR2 (Nat.le_refl _) (fun j hj => hk7 (0 + j) (Or.inl (by have : j < 287 := hj; omega)))
  simp only [Option.toList_some, List.cons_append, List.nil_append]
  refine pm_pop dL_law_659 rfl ?_
  refine pm_goto (tgt := 1251) dL_law_660 (by decide) ?_
  exact hend _ _ _ hJ hR8 hR6
set_option maxHeartbeats 4000000 in
set_option maxRecDepth 100000 in
theorem law_changed {F L k : Nat} {xs : Nat → Int32} {uc um : rg_U} {w : Nat → va_E} {cmp : Nat → Bool} {I J : rg_U → rg_U → Prop} (hs : LawSteps F cmp I J) (hL : L < 2 ^ 30) (hk : 6 * k + 6 ≤ L) (hRC : rg shC 0 uc 325 w) (hRM : rg shM 287 um 325 w) (hI : I uc um) (hend : ∀ uc um w, J uc um → rg shC 0 uc 325 w → rg shM 287 um 325 w → pm_X gs_L (ro_L L xs) M_L_law 13 600000 7302250 325 343962 1251 [some (.ref 2000000), some (.ref (0 + 0)), some (.ref (287 + 0)), some (.int (nI (6 * k)))] [] 325 w (fun r _ _ => r = some (.int 1))) : pm_X gs_L (ro_L L xs) M_L_law 13 600000 7302250 325 343962 663 [some (.ref 2000000), some (.ref (0 + 0)), some (.ref (287 + 0)), some (.int (nI (6 * k)))] [] 325 w (fun r _ _ => r = some (.int 1)) := by
  refine pm_aload_n dL_law_663 rfl ?_
  refine pm_aload_n dL_law_664 rfl ?_
  refine pm_iload_n dL_law_665 rfl ?_
  refine pm_iconst (v := 1) dL_law_666 (by decide) ?_
  refine pm_iadd dL_law_667 ?_
  refine pm_i (y := nI (6 * k + 1)) (nI_add (6 * k) 1) ?_
  refine pm_tld (f := xs) dL_law_668 rfl (vp_in_nI (by omega) (by omega)) ?_
  refine pm_i (y := xs (6 * k + 1)) (congrArg xs (nI_clamp (by omega))) ?_
  refine pm_aload_n dL_law_669 rfl ?_
  refine pm_iload_n dL_law_670 rfl ?_
  refine pm_iconst (v := 2) dL_law_671 (by decide) ?_
  refine pm_iadd dL_law_672 ?_
  refine pm_i (y := nI (6 * k + 2)) (nI_add (6 * k) 2) ?_
  refine pm_tld (f := xs) dL_law_673 rfl (vp_in_nI (by omega) (by omega)) ?_
  refine pm_i (y := xs (6 * k + 2)) (congrArg xs (nI_clamp (by omega))) ?_
  obtain ⟨zc, zm, ec, em, hcmp, hJ⟩ := ls_changed hs (xs (6 * k + 1)) (xs (6 * k + 2)) (xs (6 * k + 3)) (xs (6 * k + 4)) (xs (6 * k + 5)) _ _ hI
  refine rg_cV (M := M_L_law) (Mc := M_X9_changed) (dc := 4) (As := [.int (xs (6 * k + 1)), .int (xs (6 * k + 2))]) (st := []) (j := 0) hRC dL_law_674 ml_L_82 ⟨_, _, rfl⟩ rfl (by decide) (Nat.le_of_ble_eq_true rfl) (Nat.le_of_ble_eq_true rfl) (Nat.le_of_ble_eq_true rfl) rfl (k_X9_changed hRC ec) (fun r1 n1 w1 hq => ?_)
  obtain ⟨rfl, rfl, hR2, hk3⟩ := hq
  have hR4 : rg shM 287 um 325 w1 := rg_keep hRM (Nat.le_refl _) (fun j hj => hk3 (287 + j) (Or.inr (by show 0 + 287 ≤ _; omega)))
  simp only [Option.toList_some, List.cons_append, List.nil_append]
  refine pm_pop dL_law_677 rfl ?_
  refine pm_aload_n dL_law_678 rfl ?_
  refine pm_aload_n dL_law_679 rfl ?_
  refine pm_iload_n dL_law_680 rfl ?_
  refine pm_iconst (v := 1) dL_law_681 (by decide) ?_
  refine pm_iadd dL_law_682 ?_
  refine pm_i (y := nI (6 * k + 1)) (nI_add (6 * k) 1) ?_
  refine pm_tld (f := xs) dL_law_683 rfl (vp_in_nI (by omega) (by omega)) ?_
  refine pm_i (y := xs (6 * k + 1)) (congrArg xs (nI_clamp (by omega))) ?_
  refine pm_aload_n dL_law_684 rfl ?_
  refine pm_iload_n dL_law_685 rfl ?_
  refine pm_iconst (v := 2) dL_law_686 (by decide) ?_
  refine pm_iadd dL_law_687 ?_
  refine pm_i (y := nI (6 * k + 2)) (nI_add (6 * k) 2) ?_
  refine pm_tld (f := xs) dL_law_688 rfl (vp_in_nI (by omega) (by omega)) ?_
  refine pm_i (y := xs (6 * k + 2)) (congrArg xs (nI_clamp (by omega))) ?_
  refine rg_cV (M := M_L_law) (Mc := M_X10_changed) (dc := 9) (As := [.int (xs (6 * k + 1)), .int (xs (6 * k + 2))]) (st := []) (j := 0) hR4 dL_law_689 ml_L_85 ⟨_, _, rfl⟩ rfl (by decide) (Nat.le_of_ble_eq_true rfl) (Nat.le_of_ble_eq_true rfl) (Nat.le_of_ble_eq_true rfl) rfl (k_X10_changed hR4 em) (fun r1 n1 w5 hq => ?_)
  obtain ⟨rfl, rfl, hR6, hk7⟩ := hq
  have hR8 : rg shC 0 zc.2 325 w5 := rg_keep hR2 (Nat.le_refl _) (fun j hj => hk7 (0 + j) (Or.inl (by have : j < 287 := hj; omega)))
  simp only [Option.toList_some, List.cons_append, List.nil_append]
  refine pm_pop dL_law_692 rfl ?_
  refine pm_goto (tgt := 1251) dL_law_693 (by decide) ?_
  exact hend _ _ _ hJ hR8 hR6
set_option maxHeartbeats 4000000 in
set_option maxRecDepth 100000 in
theorem law_watched {F L k : Nat} {xs : Nat → Int32} {uc um : rg_U} {w : Nat → va_E} {cmp : Nat → Bool} {I J : rg_U → rg_U → Prop} (hs : LawSteps F cmp I J) (hL : L < 2 ^ 30) (hk : 6 * k + 6 ≤ L) (hRC : rg shC 0 uc 325 w) (hRM : rg shM 287 um 325 w) (hI : I uc um) (hend : ∀ uc um w, J uc um → rg shC 0 uc 325 w → rg shM 287 um 325 w → pm_X gs_L (ro_L L xs) M_L_law 13 600000 7302250 325 343962 1251 [some (.ref 2000000), some (.ref (0 + 0)), some (.ref (287 + 0)), some (.int (nI (6 * k)))] [] 325 w (fun r _ _ => r = some (.int 1))) : pm_X gs_L (ro_L L xs) M_L_law 13 600000 7302250 325 343962 696 [some (.ref 2000000), some (.ref (0 + 0)), some (.ref (287 + 0)), some (.int (nI (6 * k)))] [] 325 w (fun r _ _ => r = some (.int 1)) := by
  refine pm_aload_n dL_law_696 rfl ?_
  refine pm_aload_n dL_law_697 rfl ?_
  refine pm_iload_n dL_law_698 rfl ?_
  refine pm_iconst (v := 1) dL_law_699 (by decide) ?_
  refine pm_iadd dL_law_700 ?_
  refine pm_i (y := nI (6 * k + 1)) (nI_add (6 * k) 1) ?_
  refine pm_tld (f := xs) dL_law_701 rfl (vp_in_nI (by omega) (by omega)) ?_
  refine pm_i (y := xs (6 * k + 1)) (congrArg xs (nI_clamp (by omega))) ?_
  obtain ⟨zc, zm, ec, em, hcmp, hJ⟩ := ls_watched hs (xs (6 * k + 1)) (xs (6 * k + 2)) (xs (6 * k + 3)) (xs (6 * k + 4)) (xs (6 * k + 5)) _ _ hI
  refine rg_cV (M := M_L_law) (Mc := M_X9_watched) (dc := 5) (As := [.int (xs (6 * k + 1))]) (st := []) (j := 0) hRC dL_law_702 ml_L_86 ⟨_, _, rfl⟩ rfl (by decide) (Nat.le_of_ble_eq_true rfl) (Nat.le_of_ble_eq_true rfl) (Nat.le_of_ble_eq_true rfl) rfl (k_X9_watched hRC ec) (fun r1 n1 w1 hq => ?_)
  obtain ⟨rfl, rfl, hR2, hk3⟩ := hq
  have hR4 : rg shM 287 um 325 w1 := rg_keep hRM (Nat.le_refl _) (fun j hj => hk3 (287 + j) (Or.inr (by show 0 + 287 ≤ _; omega)))
  simp only [Option.toList_some, List.cons_append, List.nil_append]
  refine pm_pop dL_law_705 rfl ?_
  refine pm_aload_n dL_law_706 rfl ?_
  refine pm_aload_n dL_law_707 rfl ?_
  refine pm_iload_n dL_law_708 rfl ?_
  refine pm_iconst (v := 1) dL_law_709 (by decide) ?_
  refine pm_iadd dL_law_710 ?_
  refine pm_i (y := nI (6 * k + 1)) (nI_add (6 * k) 1) ?_
  refine pm_tld (f := xs) dL_law_711 rfl (vp_in_nI (by omega) (by omega)) ?_
  refine pm_i (y := xs (6 * k + 1)) (congrArg xs (nI_clamp (by omega))) ?_
  refine rg_cV (M := M_L_law) (Mc := M_X10_watched) (dc := 10) (As := [.int (xs (6 * k + 1))]) (st := []) (j := 0) hR4 dL_law_712 ml_L_89 ⟨_, _, rfl⟩ rfl (by decide) (Nat.le_of_ble_eq_true rfl) (Nat.le_of_ble_eq_true rfl) (Nat.le_of_ble_eq_true rfl) rfl (k_X10_watched hR4 em) (fun r1 n1 w5 hq => ?_)
  obtain ⟨rfl, rfl, hR6, hk7⟩ := hq
  have hR8 : rg shC 0 zc.2 325 w5 := rg_keep hR2 (Nat.le_refl _) (fun j hj => hk7 (0 + j) (Or.inl (by have : j < 287 := hj; omega)))
  simp only [Option.toList_some, List.cons_append, List.nil_append]
  refine pm_pop dL_law_715 rfl ?_
  refine pm_goto (tgt := 1251) dL_law_716 (by decide) ?_
  exact hend _ _ _ hJ hR8 hR6
set_option maxHeartbeats 4000000 in
set_option maxRecDepth 100000 in
theorem law_rests {F L k : Nat} {xs : Nat → Int32} {uc um : rg_U} {w : Nat → va_E} {cmp : Nat → Bool} {I J : rg_U → rg_U → Prop} (hs : LawSteps F cmp I J) (hL : L < 2 ^ 30) (hk : 6 * k + 6 ≤ L) (hRC : rg shC 0 uc 325 w) (hRM : rg shM 287 um 325 w) (hI : I uc um) (hend : ∀ uc um w, J uc um → rg shC 0 uc 325 w → rg shM 287 um 325 w → pm_X gs_L (ro_L L xs) M_L_law 13 600000 7302250 325 343962 1251 [some (.ref 2000000), some (.ref (0 + 0)), some (.ref (287 + 0)), some (.int (nI (6 * k)))] [] 325 w (fun r _ _ => r = some (.int 1))) : pm_X gs_L (ro_L L xs) M_L_law 13 600000 7302250 325 343962 719 [some (.ref 2000000), some (.ref (0 + 0)), some (.ref (287 + 0)), some (.int (nI (6 * k)))] [] 325 w (fun r _ _ => r = some (.int 1)) := by
  refine pm_aload_n dL_law_719 rfl ?_
  refine pm_aload_n dL_law_720 rfl ?_
  refine pm_iload_n dL_law_721 rfl ?_
  refine pm_iconst (v := 1) dL_law_722 (by decide) ?_
  refine pm_iadd dL_law_723 ?_
  refine pm_i (y := nI (6 * k + 1)) (nI_add (6 * k) 1) ?_
  refine pm_tld (f := xs) dL_law_724 rfl (vp_in_nI (by omega) (by omega)) ?_
  refine pm_i (y := xs (6 * k + 1)) (congrArg xs (nI_clamp (by omega))) ?_
  refine pm_aload_n dL_law_725 rfl ?_
  refine pm_iload_n dL_law_726 rfl ?_
  refine pm_iconst (v := 2) dL_law_727 (by decide) ?_
  refine pm_iadd dL_law_728 ?_
  refine pm_i (y := nI (6 * k + 2)) (nI_add (6 * k) 2) ?_
  refine pm_tld (f := xs) dL_law_729 rfl (vp_in_nI (by omega) (by omega)) ?_
  refine pm_i (y := xs (6 * k + 2)) (congrArg xs (nI_clamp (by omega))) ?_
  refine pm_aload_n dL_law_730 rfl ?_
  refine pm_iload_n dL_law_731 rfl ?_
  refine pm_iconst (v := 3) dL_law_732 (by decide) ?_
  refine pm_iadd dL_law_733 ?_
  refine pm_i (y := nI (6 * k + 3)) (nI_add (6 * k) 3) ?_
  refine pm_tld (f := xs) dL_law_734 rfl (vp_in_nI (by omega) (by omega)) ?_
  refine pm_i (y := xs (6 * k + 3)) (congrArg xs (nI_clamp (by omega))) ?_
  obtain ⟨zc, zm, ec, em, hcmp, hJ⟩ := ls_rests hs (xs (6 * k + 1)) (xs (6 * k + 2)) (xs (6 * k + 3)) (xs (6 * k + 4)) (xs (6 * k + 5)) _ _ hI
  refine rg_cV (M := M_L_law) (Mc := M_X9_rests) (dc := 3) (As := [.int (xs (6 * k + 1)), .int (xs (6 * k + 2)), .int (xs (6 * k + 3))]) (st := []) (j := 0) hRC dL_law_735 ml_L_90 ⟨_, _, rfl⟩ rfl (by decide) (Nat.le_of_ble_eq_true rfl) (Nat.le_of_ble_eq_true rfl) (Nat.le_of_ble_eq_true rfl) rfl (k_X9_rests hRC ec) (fun r1 n1 w1 hq => ?_)
  obtain ⟨rfl, rfl, hR2, hk3⟩ := hq
  have hR4 : rg shM 287 um 325 w1 := rg_keep hRM (Nat.le_refl _) (fun j hj => hk3 (287 + j) (Or.inr (by show 0 + 287 ≤ _; omega)))
  simp only [Option.toList_some, List.cons_append, List.nil_append]
  refine pm_pop dL_law_738 rfl ?_
  refine pm_aload_n dL_law_739 rfl ?_
  refine pm_aload_n dL_law_740 rfl ?_
  refine pm_iload_n dL_law_741 rfl ?_
  refine pm_iconst (v := 1) dL_law_742 (by decide) ?_
  refine pm_iadd dL_law_743 ?_
  refine pm_i (y := nI (6 * k + 1)) (nI_add (6 * k) 1) ?_
  refine pm_tld (f := xs) dL_law_744 rfl (vp_in_nI (by omega) (by omega)) ?_
  refine pm_i (y := xs (6 * k + 1)) (congrArg xs (nI_clamp (by omega))) ?_
  refine pm_aload_n dL_law_745 rfl ?_
  refine pm_iload_n dL_law_746 rfl ?_
  refine pm_iconst (v := 2) dL_law_747 (by decide) ?_
  refine pm_iadd dL_law_748 ?_
  refine pm_i (y := nI (6 * k + 2)) (nI_add (6 * k) 2) ?_
  refine pm_tld (f := xs) dL_law_749 rfl (vp_in_nI (by omega) (by omega)) ?_
  refine pm_i (y := xs (6 * k + 2)) (congrArg xs (nI_clamp (by omega))) ?_
  refine pm_aload_n dL_law_750 rfl ?_
  refine pm_iload_n dL_law_751 rfl ?_
  refine pm_iconst (v := 3) dL_law_752 (by decide) ?_
  refine pm_iadd dL_law_753 ?_
  refine pm_i (y := nI (6 * k + 3)) (nI_add (6 * k) 3) ?_
  refine pm_tld (f := xs) dL_law_754 rfl (vp_in_nI (by omega) (by omega)) ?_
  refine pm_i (y := xs (6 * k + 3)) (congrArg xs (nI_clamp (by omega))) ?_
  refine rg_cV (M := M_L_law) (Mc := M_X10_rests) (dc := 7) (As := [.int (xs (6 * k + 1)), .int (xs (6 * k + 2)), .int (xs (6 * k + 3))]) (st := []) (j := 0) hR4 dL_law_755 ml_L_93 ⟨_, _, rfl⟩ rfl (by decide) (Nat.le_of_ble_eq_true rfl) (Nat.le_of_ble_eq_true rfl) (Nat.le_of_ble_eq_true rfl) rfl (k_X10_rests hR4 em) (fun r1 n1 w5 hq => ?_)
  obtain ⟨rfl, rfl, hR6, hk7⟩ := hq
  have hR8 : rg shC 0 zc.2 325 w5 := rg_keep hR2 (Nat.le_refl _) (fun j hj => hk7 (0 + j) (Or.inl (by have : j < 287 := hj; omega)))
  simp only [Option.toList_some, List.cons_append, List.nil_append]
  refine pm_pop dL_law_758 rfl ?_
  refine pm_goto (tgt := 1251) dL_law_759 (by decide) ?_
  exact hend _ _ _ hJ hR8 hR6
set_option maxHeartbeats 4000000 in
set_option maxRecDepth 100000 in
theorem law_hangs {F L k : Nat} {xs : Nat → Int32} {uc um : rg_U} {w : Nat → va_E} {cmp : Nat → Bool} {I J : rg_U → rg_U → Prop} (hs : LawSteps F cmp I J) (hL : L < 2 ^ 30) (hk : 6 * k + 6 ≤ L) (hRC : rg shC 0 uc 325 w) (hRM : rg shM 287 um 325 w) (hI : I uc um) (hend : ∀ uc um w, J uc um → rg shC 0 uc 325 w → rg shM 287 um 325 w → pm_X gs_L (ro_L L xs) M_L_law 13 600000 7302250 325 343962 1251 [some (.ref 2000000), some (.ref (0 + 0)), some (.ref (287 + 0)), some (.int (nI (6 * k)))] [] 325 w (fun r _ _ => r = some (.int 1))) : pm_X gs_L (ro_L L xs) M_L_law 13 600000 7302250 325 343962 762 [some (.ref 2000000), some (.ref (0 + 0)), some (.ref (287 + 0)), some (.int (nI (6 * k)))] [] 325 w (fun r _ _ => r = some (.int 1)) := by
  refine pm_aload_n dL_law_762 rfl ?_
  refine pm_aload_n dL_law_763 rfl ?_
  refine pm_iload_n dL_law_764 rfl ?_
  refine pm_iconst (v := 1) dL_law_765 (by decide) ?_
  refine pm_iadd dL_law_766 ?_
  refine pm_i (y := nI (6 * k + 1)) (nI_add (6 * k) 1) ?_
  refine pm_tld (f := xs) dL_law_767 rfl (vp_in_nI (by omega) (by omega)) ?_
  refine pm_i (y := xs (6 * k + 1)) (congrArg xs (nI_clamp (by omega))) ?_
  refine pm_aload_n dL_law_768 rfl ?_
  refine pm_iload_n dL_law_769 rfl ?_
  refine pm_iconst (v := 2) dL_law_770 (by decide) ?_
  refine pm_iadd dL_law_771 ?_
  refine pm_i (y := nI (6 * k + 2)) (nI_add (6 * k) 2) ?_
  refine pm_tld (f := xs) dL_law_772 rfl (vp_in_nI (by omega) (by omega)) ?_
  refine pm_i (y := xs (6 * k + 2)) (congrArg xs (nI_clamp (by omega))) ?_
  refine pm_aload_n dL_law_773 rfl ?_
  refine pm_iload_n dL_law_774 rfl ?_
  refine pm_iconst (v := 3) dL_law_775 (by decide) ?_
  refine pm_iadd dL_law_776 ?_
  refine pm_i (y := nI (6 * k + 3)) (nI_add (6 * k) 3) ?_
  refine pm_tld (f := xs) dL_law_777 rfl (vp_in_nI (by omega) (by omega)) ?_
  refine pm_i (y := xs (6 * k + 3)) (congrArg xs (nI_clamp (by omega))) ?_
  obtain ⟨zc, zm, ec, em, hcmp, hJ⟩ := ls_hangs hs (xs (6 * k + 1)) (xs (6 * k + 2)) (xs (6 * k + 3)) (xs (6 * k + 4)) (xs (6 * k + 5)) _ _ hI
  refine rg_cV (M := M_L_law) (Mc := M_X9_hangs) (dc := 3) (As := [.int (xs (6 * k + 1)), .int (xs (6 * k + 2)), .int (xs (6 * k + 3))]) (st := []) (j := 0) hRC dL_law_778 ml_L_94 ⟨_, _, rfl⟩ rfl (by decide) (Nat.le_of_ble_eq_true rfl) (Nat.le_of_ble_eq_true rfl) (Nat.le_of_ble_eq_true rfl) rfl (k_X9_hangs hRC ec) (fun r1 n1 w1 hq => ?_)
  obtain ⟨rfl, rfl, hR2, hk3⟩ := hq
  have hR4 : rg shM 287 um 325 w1 := rg_keep hRM (Nat.le_refl _) (fun j hj => hk3 (287 + j) (Or.inr (by show 0 + 287 ≤ _; omega)))
  simp only [Option.toList_some, List.cons_append, List.nil_append]
  refine pm_pop dL_law_781 rfl ?_
  refine pm_aload_n dL_law_782 rfl ?_
  refine pm_aload_n dL_law_783 rfl ?_
  refine pm_iload_n dL_law_784 rfl ?_
  refine pm_iconst (v := 1) dL_law_785 (by decide) ?_
  refine pm_iadd dL_law_786 ?_
  refine pm_i (y := nI (6 * k + 1)) (nI_add (6 * k) 1) ?_
  refine pm_tld (f := xs) dL_law_787 rfl (vp_in_nI (by omega) (by omega)) ?_
  refine pm_i (y := xs (6 * k + 1)) (congrArg xs (nI_clamp (by omega))) ?_
  refine pm_aload_n dL_law_788 rfl ?_
  refine pm_iload_n dL_law_789 rfl ?_
  refine pm_iconst (v := 2) dL_law_790 (by decide) ?_
  refine pm_iadd dL_law_791 ?_
  refine pm_i (y := nI (6 * k + 2)) (nI_add (6 * k) 2) ?_
  refine pm_tld (f := xs) dL_law_792 rfl (vp_in_nI (by omega) (by omega)) ?_
  refine pm_i (y := xs (6 * k + 2)) (congrArg xs (nI_clamp (by omega))) ?_
  refine pm_aload_n dL_law_793 rfl ?_
  refine pm_iload_n dL_law_794 rfl ?_
  refine pm_iconst (v := 3) dL_law_795 (by decide) ?_
  refine pm_iadd dL_law_796 ?_
  refine pm_i (y := nI (6 * k + 3)) (nI_add (6 * k) 3) ?_
  refine pm_tld (f := xs) dL_law_797 rfl (vp_in_nI (by omega) (by omega)) ?_
  refine pm_i (y := xs (6 * k + 3)) (congrArg xs (nI_clamp (by omega))) ?_
  refine rg_cV (M := M_L_law) (Mc := M_X10_hangs) (dc := 7) (As := [.int (xs (6 * k + 1)), .int (xs (6 * k + 2)), .int (xs (6 * k + 3))]) (st := []) (j := 0) hR4 dL_law_798 ml_L_97 ⟨_, _, rfl⟩ rfl (by decide) (Nat.le_of_ble_eq_true rfl) (Nat.le_of_ble_eq_true rfl) (Nat.le_of_ble_eq_true rfl) rfl (k_X10_hangs hR4 em) (fun r1 n1 w5 hq => ?_)
  obtain ⟨rfl, rfl, hR6, hk7⟩ := hq
  have hR8 : rg shC 0 zc.2 325 w5 := rg_keep hR2 (Nat.le_refl _) (fun j hj => hk7 (0 + j) (Or.inl (by have : j < 287 := hj; omega)))
  simp only [Option.toList_some, List.cons_append, List.nil_append]
  refine pm_pop dL_law_801 rfl ?_
  refine pm_goto (tgt := 1251) dL_law_802 (by decide) ?_
  exact hend _ _ _ hJ hR8 hR6
set_option maxHeartbeats 4000000 in
set_option maxRecDepth 100000 in
theorem law_history {F L k : Nat} {xs : Nat → Int32} {uc um : rg_U} {w : Nat → va_E} {cmp : Nat → Bool} {I J : rg_U → rg_U → Prop} (hs : LawSteps F cmp I J) (hL : L < 2 ^ 30) (hk : 6 * k + 6 ≤ L) (hRC : rg shC 0 uc 325 w) (hRM : rg shM 287 um 325 w) (hI : I uc um) (hend : ∀ uc um w, J uc um → rg shC 0 uc 325 w → rg shM 287 um 325 w → pm_X gs_L (ro_L L xs) M_L_law 13 600000 7302250 325 343962 1251 [some (.ref 2000000), some (.ref (0 + 0)), some (.ref (287 + 0)), some (.int (nI (6 * k)))] [] 325 w (fun r _ _ => r = some (.int 1))) : pm_X gs_L (ro_L L xs) M_L_law 13 600000 7302250 325 343962 805 [some (.ref 2000000), some (.ref (0 + 0)), some (.ref (287 + 0)), some (.int (nI (6 * k)))] [] 325 w (fun r _ _ => r = some (.int 1)) := by
  refine pm_aload_n dL_law_805 rfl ?_
  refine pm_aload_n dL_law_806 rfl ?_
  refine pm_iload_n dL_law_807 rfl ?_
  refine pm_iconst (v := 1) dL_law_808 (by decide) ?_
  refine pm_iadd dL_law_809 ?_
  refine pm_i (y := nI (6 * k + 1)) (nI_add (6 * k) 1) ?_
  refine pm_tld (f := xs) dL_law_810 rfl (vp_in_nI (by omega) (by omega)) ?_
  refine pm_i (y := xs (6 * k + 1)) (congrArg xs (nI_clamp (by omega))) ?_
  refine pm_aload_n dL_law_811 rfl ?_
  refine pm_iload_n dL_law_812 rfl ?_
  refine pm_iconst (v := 2) dL_law_813 (by decide) ?_
  refine pm_iadd dL_law_814 ?_
  refine pm_i (y := nI (6 * k + 2)) (nI_add (6 * k) 2) ?_
  refine pm_tld (f := xs) dL_law_815 rfl (vp_in_nI (by omega) (by omega)) ?_
  refine pm_i (y := xs (6 * k + 2)) (congrArg xs (nI_clamp (by omega))) ?_
  refine pm_aload_n dL_law_816 rfl ?_
  refine pm_iload_n dL_law_817 rfl ?_
  refine pm_iconst (v := 3) dL_law_818 (by decide) ?_
  refine pm_iadd dL_law_819 ?_
  refine pm_i (y := nI (6 * k + 3)) (nI_add (6 * k) 3) ?_
  refine pm_tld (f := xs) dL_law_820 rfl (vp_in_nI (by omega) (by omega)) ?_
  refine pm_i (y := xs (6 * k + 3)) (congrArg xs (nI_clamp (by omega))) ?_
  obtain ⟨zc, zm, ec, em, hcmp, hJ⟩ := ls_history hs (xs (6 * k + 1)) (xs (6 * k + 2)) (xs (6 * k + 3)) (xs (6 * k + 4)) (xs (6 * k + 5)) _ _ hI
  obtain ⟨ec1, ec2⟩ := lf1_some ec
  refine rg_cV (M := M_L_law) (Mc := M_X9_history) (dc := 3) (As := [.int (xs (6 * k + 1)), .int (xs (6 * k + 2)), .int (xs (6 * k + 3))]) (st := []) (j := 0) hRC dL_law_821 ml_L_98 ⟨_, _, rfl⟩ rfl (by decide) (Nat.le_of_ble_eq_true rfl) (Nat.le_of_ble_eq_true rfl) (Nat.le_of_ble_eq_true rfl) rfl (k_X9_history hRC ec1) (fun r1 n1 w1 hq => ?_)
  obtain ⟨q1, q2, q3⟩ := hq
  rw [q1, q2, q3]
  clear q1 q2 q3
  have hR4 : rg shC 0 zc.2 325 w := by rw [ec2]; exact hRC
  simp only [Option.toList_some, List.cons_append, List.nil_append]
  refine pm_pop dL_law_824 rfl ?_
  refine pm_aload_n dL_law_825 rfl ?_
  refine pm_aload_n dL_law_826 rfl ?_
  refine pm_iload_n dL_law_827 rfl ?_
  refine pm_iconst (v := 1) dL_law_828 (by decide) ?_
  refine pm_iadd dL_law_829 ?_
  refine pm_i (y := nI (6 * k + 1)) (nI_add (6 * k) 1) ?_
  refine pm_tld (f := xs) dL_law_830 rfl (vp_in_nI (by omega) (by omega)) ?_
  refine pm_i (y := xs (6 * k + 1)) (congrArg xs (nI_clamp (by omega))) ?_
  refine pm_aload_n dL_law_831 rfl ?_
  refine pm_iload_n dL_law_832 rfl ?_
  refine pm_iconst (v := 2) dL_law_833 (by decide) ?_
  refine pm_iadd dL_law_834 ?_
  refine pm_i (y := nI (6 * k + 2)) (nI_add (6 * k) 2) ?_
  refine pm_tld (f := xs) dL_law_835 rfl (vp_in_nI (by omega) (by omega)) ?_
  refine pm_i (y := xs (6 * k + 2)) (congrArg xs (nI_clamp (by omega))) ?_
  refine pm_aload_n dL_law_836 rfl ?_
  refine pm_iload_n dL_law_837 rfl ?_
  refine pm_iconst (v := 3) dL_law_838 (by decide) ?_
  refine pm_iadd dL_law_839 ?_
  refine pm_i (y := nI (6 * k + 3)) (nI_add (6 * k) 3) ?_
  refine pm_tld (f := xs) dL_law_840 rfl (vp_in_nI (by omega) (by omega)) ?_
  refine pm_i (y := xs (6 * k + 3)) (congrArg xs (nI_clamp (by omega))) ?_
  refine rg_cV (M := M_L_law) (Mc := M_X10_history) (dc := 8) (As := [.int (xs (6 * k + 1)), .int (xs (6 * k + 2)), .int (xs (6 * k + 3))]) (st := []) (j := 0) hRM dL_law_841 ml_L_101 ⟨_, _, rfl⟩ rfl (by decide) (Nat.le_of_ble_eq_true rfl) (Nat.le_of_ble_eq_true rfl) (Nat.le_of_ble_eq_true rfl) rfl (k_X10_history hRM em) (fun r1 n1 w5 hq => ?_)
  obtain ⟨rfl, rfl, hR6, hk7⟩ := hq
  have hR8 : rg shC 0 zc.2 325 w5 := rg_keep hR4 (Nat.le_refl _) (fun j hj => hk7 (0 + j) (Or.inl (by have : j < 287 := hj; omega)))
  simp only [Option.toList_some, List.cons_append, List.nil_append]
  refine pm_pop dL_law_844 rfl ?_
  refine pm_goto (tgt := 1251) dL_law_845 (by decide) ?_
  exact hend _ _ _ hJ hR8 hR6
set_option maxHeartbeats 4000000 in
set_option maxRecDepth 100000 in
theorem law_done {F L k : Nat} {xs : Nat → Int32} {uc um : rg_U} {w : Nat → va_E} {cmp : Nat → Bool} {I J : rg_U → rg_U → Prop} (hs : LawSteps F cmp I J) (hL : L < 2 ^ 30) (hk : 6 * k + 6 ≤ L) (hRC : rg shC 0 uc 325 w) (hRM : rg shM 287 um 325 w) (hI : I uc um) (hend : ∀ uc um w, J uc um → rg shC 0 uc 325 w → rg shM 287 um 325 w → pm_X gs_L (ro_L L xs) M_L_law 13 600000 7302250 325 343962 1251 [some (.ref 2000000), some (.ref (0 + 0)), some (.ref (287 + 0)), some (.int (nI (6 * k)))] [] 325 w (fun r _ _ => r = some (.int 1))) : pm_X gs_L (ro_L L xs) M_L_law 13 600000 7302250 325 343962 848 [some (.ref 2000000), some (.ref (0 + 0)), some (.ref (287 + 0)), some (.int (nI (6 * k)))] [] 325 w (fun r _ _ => r = some (.int 1)) := by
  refine pm_aload_n dL_law_848 rfl ?_
  refine pm_aload_n dL_law_849 rfl ?_
  refine pm_iload_n dL_law_850 rfl ?_
  refine pm_iconst (v := 1) dL_law_851 (by decide) ?_
  refine pm_iadd dL_law_852 ?_
  refine pm_i (y := nI (6 * k + 1)) (nI_add (6 * k) 1) ?_
  refine pm_tld (f := xs) dL_law_853 rfl (vp_in_nI (by omega) (by omega)) ?_
  refine pm_i (y := xs (6 * k + 1)) (congrArg xs (nI_clamp (by omega))) ?_
  refine pm_aload_n dL_law_854 rfl ?_
  refine pm_iload_n dL_law_855 rfl ?_
  refine pm_iconst (v := 2) dL_law_856 (by decide) ?_
  refine pm_iadd dL_law_857 ?_
  refine pm_i (y := nI (6 * k + 2)) (nI_add (6 * k) 2) ?_
  refine pm_tld (f := xs) dL_law_858 rfl (vp_in_nI (by omega) (by omega)) ?_
  refine pm_i (y := xs (6 * k + 2)) (congrArg xs (nI_clamp (by omega))) ?_
  obtain ⟨zc, zm, ec, em, hcmp, hJ⟩ := ls_done hs (xs (6 * k + 1)) (xs (6 * k + 2)) (xs (6 * k + 3)) (xs (6 * k + 4)) (xs (6 * k + 5)) _ _ hI
  obtain ⟨ec1, ec2⟩ := lf1_some ec
  refine rg_cV (M := M_L_law) (Mc := M_X9_done) (dc := 2) (As := [.int (xs (6 * k + 1)), .int (xs (6 * k + 2))]) (st := []) (j := 0) hRC dL_law_859 ml_L_102 ⟨_, _, rfl⟩ rfl (by decide) (Nat.le_of_ble_eq_true rfl) (Nat.le_of_ble_eq_true rfl) (Nat.le_of_ble_eq_true rfl) rfl (k_X9_done hRC ec1) (fun r1 n1 w1 hq => ?_)
  obtain ⟨q1, q2, q3⟩ := hq
  rw [q1, q2, q3]
  clear q1 q2 q3
  have hR4 : rg shC 0 zc.2 325 w := by rw [ec2]; exact hRC
  simp only [Option.toList_some, List.cons_append, List.nil_append]
  refine pm_pop dL_law_862 rfl ?_
  refine pm_aload_n dL_law_863 rfl ?_
  refine pm_aload_n dL_law_864 rfl ?_
  refine pm_iload_n dL_law_865 rfl ?_
  refine pm_iconst (v := 1) dL_law_866 (by decide) ?_
  refine pm_iadd dL_law_867 ?_
  refine pm_i (y := nI (6 * k + 1)) (nI_add (6 * k) 1) ?_
  refine pm_tld (f := xs) dL_law_868 rfl (vp_in_nI (by omega) (by omega)) ?_
  refine pm_i (y := xs (6 * k + 1)) (congrArg xs (nI_clamp (by omega))) ?_
  refine pm_aload_n dL_law_869 rfl ?_
  refine pm_iload_n dL_law_870 rfl ?_
  refine pm_iconst (v := 2) dL_law_871 (by decide) ?_
  refine pm_iadd dL_law_872 ?_
  refine pm_i (y := nI (6 * k + 2)) (nI_add (6 * k) 2) ?_
  refine pm_tld (f := xs) dL_law_873 rfl (vp_in_nI (by omega) (by omega)) ?_
  refine pm_i (y := xs (6 * k + 2)) (congrArg xs (nI_clamp (by omega))) ?_
  refine rg_cV (M := M_L_law) (Mc := M_X10_done) (dc := 7) (As := [.int (xs (6 * k + 1)), .int (xs (6 * k + 2))]) (st := []) (j := 0) hRM dL_law_874 ml_L_105 ⟨_, _, rfl⟩ rfl (by decide) (Nat.le_of_ble_eq_true rfl) (Nat.le_of_ble_eq_true rfl) (Nat.le_of_ble_eq_true rfl) rfl (k_X10_done hRM em) (fun r1 n1 w5 hq => ?_)
  obtain ⟨rfl, rfl, hR6, hk7⟩ := hq
  have hR8 : rg shC 0 zc.2 325 w5 := rg_keep hR4 (Nat.le_refl _) (fun j hj => hk7 (0 + j) (Or.inl (by have : j < 287 := hj; omega)))
  simp only [Option.toList_some, List.cons_append, List.nil_append]
  refine pm_pop dL_law_877 rfl ?_
  refine pm_goto (tgt := 1251) dL_law_878 (by decide) ?_
  exact hend _ _ _ hJ hR8 hR6
set_option maxHeartbeats 4000000 in
set_option maxRecDepth 100000 in
theorem law_call {F L k : Nat} {xs : Nat → Int32} {uc um : rg_U} {w : Nat → va_E} {cmp : Nat → Bool} {I J : rg_U → rg_U → Prop} (hs : LawSteps F cmp I J) (hL : L < 2 ^ 30) (hk : 6 * k + 6 ≤ L) (hRC : rg shC 0 uc 325 w) (hRM : rg shM 287 um 325 w) (hI : I uc um) (hend : ∀ uc um w, J uc um → rg shC 0 uc 325 w → rg shM 287 um 325 w → pm_X gs_L (ro_L L xs) M_L_law 13 600000 7302250 325 343962 1251 [some (.ref 2000000), some (.ref (0 + 0)), some (.ref (287 + 0)), some (.int (nI (6 * k)))] [] 325 w (fun r _ _ => r = some (.int 1))) : pm_X gs_L (ro_L L xs) M_L_law 13 600000 7302250 325 343962 881 [some (.ref 2000000), some (.ref (0 + 0)), some (.ref (287 + 0)), some (.int (nI (6 * k)))] [] 325 w (fun r _ _ => r = some (.int 1)) := by
  refine pm_aload_n dL_law_881 rfl ?_
  refine pm_aload_n dL_law_882 rfl ?_
  refine pm_iload_n dL_law_883 rfl ?_
  refine pm_iconst (v := 1) dL_law_884 (by decide) ?_
  refine pm_iadd dL_law_885 ?_
  refine pm_i (y := nI (6 * k + 1)) (nI_add (6 * k) 1) ?_
  refine pm_tld (f := xs) dL_law_886 rfl (vp_in_nI (by omega) (by omega)) ?_
  refine pm_i (y := xs (6 * k + 1)) (congrArg xs (nI_clamp (by omega))) ?_
  refine pm_aload_n dL_law_887 rfl ?_
  refine pm_iload_n dL_law_888 rfl ?_
  refine pm_iconst (v := 2) dL_law_889 (by decide) ?_
  refine pm_iadd dL_law_890 ?_
  refine pm_i (y := nI (6 * k + 2)) (nI_add (6 * k) 2) ?_
  refine pm_tld (f := xs) dL_law_891 rfl (vp_in_nI (by omega) (by omega)) ?_
  refine pm_i (y := xs (6 * k + 2)) (congrArg xs (nI_clamp (by omega))) ?_
  obtain ⟨zc, zm, ec, em, hcmp, hJ⟩ := ls_call hs (xs (6 * k + 1)) (xs (6 * k + 2)) (xs (6 * k + 3)) (xs (6 * k + 4)) (xs (6 * k + 5)) _ _ hI
  obtain ⟨ec1, ec2⟩ := lf1_some ec
  refine rg_cV (M := M_L_law) (Mc := M_X9_call) (dc := 2) (As := [.int (xs (6 * k + 1)), .int (xs (6 * k + 2))]) (st := []) (j := 0) hRC dL_law_892 ml_L_106 ⟨_, _, rfl⟩ rfl (by decide) (Nat.le_of_ble_eq_true rfl) (Nat.le_of_ble_eq_true rfl) (Nat.le_of_ble_eq_true rfl) rfl (k_X9_call hRC ec1) (fun r1 n1 w1 hq => ?_)
  obtain ⟨q1, q2, q3⟩ := hq
  rw [q1, q2, q3]
  clear q1 q2 q3
  have hR4 : rg shC 0 zc.2 325 w := by rw [ec2]; exact hRC
  simp only [Option.toList_some, List.cons_append, List.nil_append]
  refine pm_pop dL_law_895 rfl ?_
  refine pm_aload_n dL_law_896 rfl ?_
  refine pm_aload_n dL_law_897 rfl ?_
  refine pm_iload_n dL_law_898 rfl ?_
  refine pm_iconst (v := 1) dL_law_899 (by decide) ?_
  refine pm_iadd dL_law_900 ?_
  refine pm_i (y := nI (6 * k + 1)) (nI_add (6 * k) 1) ?_
  refine pm_tld (f := xs) dL_law_901 rfl (vp_in_nI (by omega) (by omega)) ?_
  refine pm_i (y := xs (6 * k + 1)) (congrArg xs (nI_clamp (by omega))) ?_
  refine pm_aload_n dL_law_902 rfl ?_
  refine pm_iload_n dL_law_903 rfl ?_
  refine pm_iconst (v := 2) dL_law_904 (by decide) ?_
  refine pm_iadd dL_law_905 ?_
  refine pm_i (y := nI (6 * k + 2)) (nI_add (6 * k) 2) ?_
  refine pm_tld (f := xs) dL_law_906 rfl (vp_in_nI (by omega) (by omega)) ?_
  refine pm_i (y := xs (6 * k + 2)) (congrArg xs (nI_clamp (by omega))) ?_
  obtain ⟨em1, em2⟩ := lf1_some em
  refine rg_cV (M := M_L_law) (Mc := M_X10_call) (dc := 1) (As := [.int (xs (6 * k + 1)), .int (xs (6 * k + 2))]) (st := []) (j := 0) hRM dL_law_907 ml_L_109 ⟨_, _, rfl⟩ rfl (by decide) (Nat.le_of_ble_eq_true rfl) (Nat.le_of_ble_eq_true rfl) (Nat.le_of_ble_eq_true rfl) rfl (k_X10_call hRM em1) (fun r1 n1 w5 hq => ?_)
  obtain ⟨q1, q2, q3⟩ := hq
  rw [q1, q2, q3]
  clear q1 q2 q3
  have hR8 : rg shM 287 zm.2 325 w := by rw [em2]; exact hRM
  simp only [Option.toList_some, List.cons_append, List.nil_append]
  refine pm_pop dL_law_910 rfl ?_
  refine pm_goto (tgt := 1251) dL_law_911 (by decide) ?_
  exact hend _ _ _ hJ hR4 hR8
set_option maxHeartbeats 4000000 in
set_option maxRecDepth 100000 in
theorem law_log {F L k : Nat} {xs : Nat → Int32} {uc um : rg_U} {w : Nat → va_E} {cmp : Nat → Bool} {I J : rg_U → rg_U → Prop} (hs : LawSteps F cmp I J) (hL : L < 2 ^ 30) (hk : 6 * k + 6 ≤ L) (hRC : rg shC 0 uc 325 w) (hRM : rg shM 287 um 325 w) (hI : I uc um) (hend : ∀ uc um w, J uc um → rg shC 0 uc 325 w → rg shM 287 um 325 w → pm_X gs_L (ro_L L xs) M_L_law 13 600000 7302250 325 343962 1251 [some (.ref 2000000), some (.ref (0 + 0)), some (.ref (287 + 0)), some (.int (nI (6 * k)))] [] 325 w (fun r _ _ => r = some (.int 1))) : pm_X gs_L (ro_L L xs) M_L_law 13 600000 7302250 325 343962 914 [some (.ref 2000000), some (.ref (0 + 0)), some (.ref (287 + 0)), some (.int (nI (6 * k)))] [] 325 w (fun r _ _ => r = some (.int 1)) := by
  refine pm_aload_n dL_law_914 rfl ?_
  refine pm_aload_n dL_law_915 rfl ?_
  refine pm_iload_n dL_law_916 rfl ?_
  refine pm_iconst (v := 1) dL_law_917 (by decide) ?_
  refine pm_iadd dL_law_918 ?_
  refine pm_i (y := nI (6 * k + 1)) (nI_add (6 * k) 1) ?_
  refine pm_tld (f := xs) dL_law_919 rfl (vp_in_nI (by omega) (by omega)) ?_
  refine pm_i (y := xs (6 * k + 1)) (congrArg xs (nI_clamp (by omega))) ?_
  refine pm_aload_n dL_law_920 rfl ?_
  refine pm_iload_n dL_law_921 rfl ?_
  refine pm_iconst (v := 2) dL_law_922 (by decide) ?_
  refine pm_iadd dL_law_923 ?_
  refine pm_i (y := nI (6 * k + 2)) (nI_add (6 * k) 2) ?_
  refine pm_tld (f := xs) dL_law_924 rfl (vp_in_nI (by omega) (by omega)) ?_
  refine pm_i (y := xs (6 * k + 2)) (congrArg xs (nI_clamp (by omega))) ?_
  obtain ⟨zc, zm, ec, em, hcmp, hJ⟩ := ls_log hs (xs (6 * k + 1)) (xs (6 * k + 2)) (xs (6 * k + 3)) (xs (6 * k + 4)) (xs (6 * k + 5)) _ _ hI
  obtain ⟨ec1, ec2⟩ := lf1_some ec
  refine rg_cV (M := M_L_law) (Mc := M_X9_log) (dc := 2) (As := [.int (xs (6 * k + 1)), .int (xs (6 * k + 2))]) (st := []) (j := 0) hRC dL_law_925 ml_L_110 ⟨_, _, rfl⟩ rfl (by decide) (Nat.le_of_ble_eq_true rfl) (Nat.le_of_ble_eq_true rfl) (Nat.le_of_ble_eq_true rfl) rfl (k_X9_log hRC ec1) (fun r1 n1 w1 hq => ?_)
  obtain ⟨q1, q2, q3⟩ := hq
  rw [q1, q2, q3]
  clear q1 q2 q3
  have hR4 : rg shC 0 zc.2 325 w := by rw [ec2]; exact hRC
  simp only [Option.toList_some, List.cons_append, List.nil_append]
  refine pm_pop dL_law_928 rfl ?_
  refine pm_aload_n dL_law_929 rfl ?_
  refine pm_aload_n dL_law_930 rfl ?_
  refine pm_iload_n dL_law_931 rfl ?_
  refine pm_iconst (v := 1) dL_law_932 (by decide) ?_
  refine pm_iadd dL_law_933 ?_
  refine pm_i (y := nI (6 * k + 1)) (nI_add (6 * k) 1) ?_
  refine pm_tld (f := xs) dL_law_934 rfl (vp_in_nI (by omega) (by omega)) ?_
  refine pm_i (y := xs (6 * k + 1)) (congrArg xs (nI_clamp (by omega))) ?_
  refine pm_aload_n dL_law_935 rfl ?_
  refine pm_iload_n dL_law_936 rfl ?_
  refine pm_iconst (v := 2) dL_law_937 (by decide) ?_
  refine pm_iadd dL_law_938 ?_
  refine pm_i (y := nI (6 * k + 2)) (nI_add (6 * k) 2) ?_
  refine pm_tld (f := xs) dL_law_939 rfl (vp_in_nI (by omega) (by omega)) ?_
  refine pm_i (y := xs (6 * k + 2)) (congrArg xs (nI_clamp (by omega))) ?_
  obtain ⟨em1, em2⟩ := lf1_some em
  refine rg_cV (M := M_L_law) (Mc := M_X10_log) (dc := 1) (As := [.int (xs (6 * k + 1)), .int (xs (6 * k + 2))]) (st := []) (j := 0) hRM dL_law_940 ml_L_113 ⟨_, _, rfl⟩ rfl (by decide) (Nat.le_of_ble_eq_true rfl) (Nat.le_of_ble_eq_true rfl) (Nat.le_of_ble_eq_true rfl) rfl (k_X10_log hRM em1) (fun r1 n1 w5 hq => ?_)
  obtain ⟨q1, q2, q3⟩ := hq
  rw [q1, q2, q3]
  clear q1 q2 q3
  have hR8 : rg shM 287 zm.2 325 w := by rw [em2]; exact hRM
  simp only [Option.toList_some, List.cons_append, List.nil_append]
  refine pm_pop dL_law_943 rfl ?_
  refine pm_goto (tgt := 1251) dL_law_944 (by decide) ?_
  exact hend _ _ _ hJ hR4 hR8
set_option maxHeartbeats 4000000 in
set_option maxRecDepth 100000 in
theorem law_held {F L k : Nat} {xs : Nat → Int32} {uc um : rg_U} {w : Nat → va_E} {cmp : Nat → Bool} {I J : rg_U → rg_U → Prop} (hs : LawSteps F cmp I J) (hL : L < 2 ^ 30) (hk : 6 * k + 6 ≤ L) (hRC : rg shC 0 uc 325 w) (hRM : rg shM 287 um 325 w) (hI : I uc um) (hend : ∀ uc um w, J uc um → rg shC 0 uc 325 w → rg shM 287 um 325 w → pm_X gs_L (ro_L L xs) M_L_law 13 600000 7302250 325 343962 1251 [some (.ref 2000000), some (.ref (0 + 0)), some (.ref (287 + 0)), some (.int (nI (6 * k)))] [] 325 w (fun r _ _ => r = some (.int 1))) : pm_X gs_L (ro_L L xs) M_L_law 13 600000 7302250 325 343962 947 [some (.ref 2000000), some (.ref (0 + 0)), some (.ref (287 + 0)), some (.int (nI (6 * k)))] [] 325 w (fun r _ _ => r = some (.int 1)) := by
  refine pm_aload_n dL_law_947 rfl ?_
  refine pm_aload_n dL_law_948 rfl ?_
  refine pm_iload_n dL_law_949 rfl ?_
  refine pm_iconst (v := 1) dL_law_950 (by decide) ?_
  refine pm_iadd dL_law_951 ?_
  refine pm_i (y := nI (6 * k + 1)) (nI_add (6 * k) 1) ?_
  refine pm_tld (f := xs) dL_law_952 rfl (vp_in_nI (by omega) (by omega)) ?_
  refine pm_i (y := xs (6 * k + 1)) (congrArg xs (nI_clamp (by omega))) ?_
  refine pm_aload_n dL_law_953 rfl ?_
  refine pm_iload_n dL_law_954 rfl ?_
  refine pm_iconst (v := 2) dL_law_955 (by decide) ?_
  refine pm_iadd dL_law_956 ?_
  refine pm_i (y := nI (6 * k + 2)) (nI_add (6 * k) 2) ?_
  refine pm_tld (f := xs) dL_law_957 rfl (vp_in_nI (by omega) (by omega)) ?_
  refine pm_i (y := xs (6 * k + 2)) (congrArg xs (nI_clamp (by omega))) ?_
  obtain ⟨zc, zm, ec, em, hcmp, hJ⟩ := ls_held hs (xs (6 * k + 1)) (xs (6 * k + 2)) (xs (6 * k + 3)) (xs (6 * k + 4)) (xs (6 * k + 5)) _ _ hI
  obtain ⟨ec1, ec2⟩ := lf1_some ec
  refine rg_cV (M := M_L_law) (Mc := M_X9_held) (dc := 2) (As := [.int (xs (6 * k + 1)), .int (xs (6 * k + 2))]) (st := []) (j := 0) hRC dL_law_958 ml_L_114 ⟨_, _, rfl⟩ rfl (by decide) (Nat.le_of_ble_eq_true rfl) (Nat.le_of_ble_eq_true rfl) (Nat.le_of_ble_eq_true rfl) rfl (k_X9_held hRC ec1) (fun r1 n1 w1 hq => ?_)
  obtain ⟨q1, q2, q3⟩ := hq
  rw [q1, q2, q3]
  clear q1 q2 q3
  have hR4 : rg shC 0 zc.2 325 w := by rw [ec2]; exact hRC
  simp only [Option.toList_some, List.cons_append, List.nil_append]
  refine pm_pop dL_law_961 rfl ?_
  refine pm_aload_n dL_law_962 rfl ?_
  refine pm_aload_n dL_law_963 rfl ?_
  refine pm_iload_n dL_law_964 rfl ?_
  refine pm_iconst (v := 1) dL_law_965 (by decide) ?_
  refine pm_iadd dL_law_966 ?_
  refine pm_i (y := nI (6 * k + 1)) (nI_add (6 * k) 1) ?_
  refine pm_tld (f := xs) dL_law_967 rfl (vp_in_nI (by omega) (by omega)) ?_
  refine pm_i (y := xs (6 * k + 1)) (congrArg xs (nI_clamp (by omega))) ?_
  refine pm_aload_n dL_law_968 rfl ?_
  refine pm_iload_n dL_law_969 rfl ?_
  refine pm_iconst (v := 2) dL_law_970 (by decide) ?_
  refine pm_iadd dL_law_971 ?_
  refine pm_i (y := nI (6 * k + 2)) (nI_add (6 * k) 2) ?_
  refine pm_tld (f := xs) dL_law_972 rfl (vp_in_nI (by omega) (by omega)) ?_
  refine pm_i (y := xs (6 * k + 2)) (congrArg xs (nI_clamp (by omega))) ?_
  obtain ⟨em1, em2⟩ := lf1_some em
  refine rg_cV (M := M_L_law) (Mc := M_X10_held) (dc := 2) (As := [.int (xs (6 * k + 1)), .int (xs (6 * k + 2))]) (st := []) (j := 0) hRM dL_law_973 ml_L_117 ⟨_, _, rfl⟩ rfl (by decide) (Nat.le_of_ble_eq_true rfl) (Nat.le_of_ble_eq_true rfl) (Nat.le_of_ble_eq_true rfl) rfl (k_X10_held hRM em1) (fun r1 n1 w5 hq => ?_)
  obtain ⟨q1, q2, q3⟩ := hq
  rw [q1, q2, q3]
  clear q1 q2 q3
  have hR8 : rg shM 287 zm.2 325 w := by rw [em2]; exact hRM
  simp only [Option.toList_some, List.cons_append, List.nil_append]
  refine pm_pop dL_law_976 rfl ?_
  refine pm_goto (tgt := 1251) dL_law_977 (by decide) ?_
  exact hend _ _ _ hJ hR4 hR8
set_option maxHeartbeats 4000000 in
set_option maxRecDepth 100000 in
theorem law_would {F L k : Nat} {xs : Nat → Int32} {uc um : rg_U} {w : Nat → va_E} {cmp : Nat → Bool} {I J : rg_U → rg_U → Prop} (hs : LawSteps F cmp I J) (hL : L < 2 ^ 30) (hk : 6 * k + 6 ≤ L) (hRC : rg shC 0 uc 325 w) (hRM : rg shM 287 um 325 w) (hI : I uc um) (hend : ∀ uc um w, J uc um → rg shC 0 uc 325 w → rg shM 287 um 325 w → pm_X gs_L (ro_L L xs) M_L_law 13 600000 7302250 325 343962 1251 [some (.ref 2000000), some (.ref (0 + 0)), some (.ref (287 + 0)), some (.int (nI (6 * k)))] [] 325 w (fun r _ _ => r = some (.int 1))) : pm_X gs_L (ro_L L xs) M_L_law 13 600000 7302250 325 343962 980 [some (.ref 2000000), some (.ref (0 + 0)), some (.ref (287 + 0)), some (.int (nI (6 * k)))] [] 325 w (fun r _ _ => r = some (.int 1)) := by
  refine pm_aload_n dL_law_980 rfl ?_
  refine pm_aload_n dL_law_981 rfl ?_
  refine pm_iload_n dL_law_982 rfl ?_
  refine pm_iconst (v := 1) dL_law_983 (by decide) ?_
  refine pm_iadd dL_law_984 ?_
  refine pm_i (y := nI (6 * k + 1)) (nI_add (6 * k) 1) ?_
  refine pm_tld (f := xs) dL_law_985 rfl (vp_in_nI (by omega) (by omega)) ?_
  refine pm_i (y := xs (6 * k + 1)) (congrArg xs (nI_clamp (by omega))) ?_
  refine pm_aload_n dL_law_986 rfl ?_
  refine pm_iload_n dL_law_987 rfl ?_
  refine pm_iconst (v := 2) dL_law_988 (by decide) ?_
  refine pm_iadd dL_law_989 ?_
  refine pm_i (y := nI (6 * k + 2)) (nI_add (6 * k) 2) ?_
  refine pm_tld (f := xs) dL_law_990 rfl (vp_in_nI (by omega) (by omega)) ?_
  refine pm_i (y := xs (6 * k + 2)) (congrArg xs (nI_clamp (by omega))) ?_
  refine pm_aload_n dL_law_991 rfl ?_
  refine pm_iload_n dL_law_992 rfl ?_
  refine pm_iconst (v := 3) dL_law_993 (by decide) ?_
  refine pm_iadd dL_law_994 ?_
  refine pm_i (y := nI (6 * k + 3)) (nI_add (6 * k) 3) ?_
  refine pm_tld (f := xs) dL_law_995 rfl (vp_in_nI (by omega) (by omega)) ?_
  refine pm_i (y := xs (6 * k + 3)) (congrArg xs (nI_clamp (by omega))) ?_
  obtain ⟨zc, zm, ec, em, hcmp, hJ⟩ := ls_would hs (xs (6 * k + 1)) (xs (6 * k + 2)) (xs (6 * k + 3)) (xs (6 * k + 4)) (xs (6 * k + 5)) _ _ hI
  obtain ⟨ec1, ec2⟩ := lf1_some ec
  refine rg_cV (M := M_L_law) (Mc := M_X9_would) (dc := 3) (As := [.int (xs (6 * k + 1)), .int (xs (6 * k + 2)), .int (xs (6 * k + 3))]) (st := []) (j := 0) hRC dL_law_996 ml_L_118 ⟨_, _, rfl⟩ rfl (by decide) (Nat.le_of_ble_eq_true rfl) (Nat.le_of_ble_eq_true rfl) (Nat.le_of_ble_eq_true rfl) rfl (k_X9_would hRC ec1) (fun r1 n1 w1 hq => ?_)
  obtain ⟨q1, q2, q3⟩ := hq
  rw [q1, q2, q3]
  clear q1 q2 q3
  have hR4 : rg shC 0 zc.2 325 w := by rw [ec2]; exact hRC
  simp only [Option.toList_some, List.cons_append, List.nil_append]
  refine pm_pop dL_law_999 rfl ?_
  refine pm_aload_n dL_law_1000 rfl ?_
  refine pm_aload_n dL_law_1001 rfl ?_
  refine pm_iload_n dL_law_1002 rfl ?_
  refine pm_iconst (v := 1) dL_law_1003 (by decide) ?_
  refine pm_iadd dL_law_1004 ?_
  refine pm_i (y := nI (6 * k + 1)) (nI_add (6 * k) 1) ?_
  refine pm_tld (f := xs) dL_law_1005 rfl (vp_in_nI (by omega) (by omega)) ?_
  refine pm_i (y := xs (6 * k + 1)) (congrArg xs (nI_clamp (by omega))) ?_
  refine pm_aload_n dL_law_1006 rfl ?_
  refine pm_iload_n dL_law_1007 rfl ?_
  refine pm_iconst (v := 2) dL_law_1008 (by decide) ?_
  refine pm_iadd dL_law_1009 ?_
  refine pm_i (y := nI (6 * k + 2)) (nI_add (6 * k) 2) ?_
  refine pm_tld (f := xs) dL_law_1010 rfl (vp_in_nI (by omega) (by omega)) ?_
  refine pm_i (y := xs (6 * k + 2)) (congrArg xs (nI_clamp (by omega))) ?_
  refine pm_aload_n dL_law_1011 rfl ?_
  refine pm_iload_n dL_law_1012 rfl ?_
  refine pm_iconst (v := 3) dL_law_1013 (by decide) ?_
  refine pm_iadd dL_law_1014 ?_
  refine pm_i (y := nI (6 * k + 3)) (nI_add (6 * k) 3) ?_
  refine pm_tld (f := xs) dL_law_1015 rfl (vp_in_nI (by omega) (by omega)) ?_
  refine pm_i (y := xs (6 * k + 3)) (congrArg xs (nI_clamp (by omega))) ?_
  obtain ⟨em1, em2⟩ := lf1_some em
  refine rg_cV (M := M_L_law) (Mc := M_X10_would) (dc := 4) (As := [.int (xs (6 * k + 1)), .int (xs (6 * k + 2)), .int (xs (6 * k + 3))]) (st := []) (j := 0) hRM dL_law_1016 ml_L_121 ⟨_, _, rfl⟩ rfl (by decide) (Nat.le_of_ble_eq_true rfl) (Nat.le_of_ble_eq_true rfl) (Nat.le_of_ble_eq_true rfl) rfl (k_X10_would hRM em1) (fun r1 n1 w5 hq => ?_)
  obtain ⟨q1, q2, q3⟩ := hq
  rw [q1, q2, q3]
  clear q1 q2 q3
  have hR8 : rg shM 287 zm.2 325 w := by rw [em2]; exact hRM
  simp only [Option.toList_some, List.cons_append, List.nil_append]
  refine pm_pop dL_law_1019 rfl ?_
  refine pm_goto (tgt := 1251) dL_law_1020 (by decide) ?_
  exact hend _ _ _ hJ hR4 hR8
set_option maxHeartbeats 4000000 in
set_option maxRecDepth 100000 in
theorem law_gap {F L k : Nat} {xs : Nat → Int32} {uc um : rg_U} {w : Nat → va_E} {cmp : Nat → Bool} {I J : rg_U → rg_U → Prop} (hs : LawSteps F cmp I J) (hL : L < 2 ^ 30) (hk : 6 * k + 6 ≤ L) (hRC : rg shC 0 uc 325 w) (hRM : rg shM 287 um 325 w) (hI : I uc um) (hend : ∀ uc um w, J uc um → rg shC 0 uc 325 w → rg shM 287 um 325 w → pm_X gs_L (ro_L L xs) M_L_law 13 600000 7302250 325 343962 1251 [some (.ref 2000000), some (.ref (0 + 0)), some (.ref (287 + 0)), some (.int (nI (6 * k)))] [] 325 w (fun r _ _ => r = some (.int 1))) : pm_X gs_L (ro_L L xs) M_L_law 13 600000 7302250 325 343962 1023 [some (.ref 2000000), some (.ref (0 + 0)), some (.ref (287 + 0)), some (.int (nI (6 * k)))] [] 325 w (fun r _ _ => r = some (.int 1)) := by
  refine pm_aload_n dL_law_1023 rfl ?_
  refine pm_aload_n dL_law_1024 rfl ?_
  refine pm_iload_n dL_law_1025 rfl ?_
  refine pm_iconst (v := 1) dL_law_1026 (by decide) ?_
  refine pm_iadd dL_law_1027 ?_
  refine pm_i (y := nI (6 * k + 1)) (nI_add (6 * k) 1) ?_
  refine pm_tld (f := xs) dL_law_1028 rfl (vp_in_nI (by omega) (by omega)) ?_
  refine pm_i (y := xs (6 * k + 1)) (congrArg xs (nI_clamp (by omega))) ?_
  refine pm_aload_n dL_law_1029 rfl ?_
  refine pm_iload_n dL_law_1030 rfl ?_
  refine pm_iconst (v := 2) dL_law_1031 (by decide) ?_
  refine pm_iadd dL_law_1032 ?_
  refine pm_i (y := nI (6 * k + 2)) (nI_add (6 * k) 2) ?_
  refine pm_tld (f := xs) dL_law_1033 rfl (vp_in_nI (by omega) (by omega)) ?_
  refine pm_i (y := xs (6 * k + 2)) (congrArg xs (nI_clamp (by omega))) ?_
  refine pm_aload_n dL_law_1034 rfl ?_
  refine pm_iload_n dL_law_1035 rfl ?_
  refine pm_iconst (v := 3) dL_law_1036 (by decide) ?_
  refine pm_iadd dL_law_1037 ?_
  refine pm_i (y := nI (6 * k + 3)) (nI_add (6 * k) 3) ?_
  refine pm_tld (f := xs) dL_law_1038 rfl (vp_in_nI (by omega) (by omega)) ?_
  refine pm_i (y := xs (6 * k + 3)) (congrArg xs (nI_clamp (by omega))) ?_
  obtain ⟨zc, zm, ec, em, hcmp, hJ⟩ := ls_gap hs (xs (6 * k + 1)) (xs (6 * k + 2)) (xs (6 * k + 3)) (xs (6 * k + 4)) (xs (6 * k + 5)) _ _ hI
  obtain ⟨ec1, ec2⟩ := lf1_some ec
  refine rg_cV (M := M_L_law) (Mc := M_X9_gap) (dc := 2) (As := [.int (xs (6 * k + 1)), .int (xs (6 * k + 2)), .int (xs (6 * k + 3))]) (st := []) (j := 0) hRC dL_law_1039 ml_L_122 ⟨_, _, rfl⟩ rfl (by decide) (Nat.le_of_ble_eq_true rfl) (Nat.le_of_ble_eq_true rfl) (Nat.le_of_ble_eq_true rfl) rfl (k_X9_gap hRC ec1) (fun r1 n1 w1 hq => ?_)
  obtain ⟨q1, q2, q3⟩ := hq
  rw [q1, q2, q3]
  clear q1 q2 q3
  have hR4 : rg shC 0 zc.2 325 w := by rw [ec2]; exact hRC
  simp only [Option.toList_some, List.cons_append, List.nil_append]
  refine pm_pop dL_law_1042 rfl ?_
  refine pm_aload_n dL_law_1043 rfl ?_
  refine pm_aload_n dL_law_1044 rfl ?_
  refine pm_iload_n dL_law_1045 rfl ?_
  refine pm_iconst (v := 1) dL_law_1046 (by decide) ?_
  refine pm_iadd dL_law_1047 ?_
  refine pm_i (y := nI (6 * k + 1)) (nI_add (6 * k) 1) ?_
  refine pm_tld (f := xs) dL_law_1048 rfl (vp_in_nI (by omega) (by omega)) ?_
  refine pm_i (y := xs (6 * k + 1)) (congrArg xs (nI_clamp (by omega))) ?_
  refine pm_aload_n dL_law_1049 rfl ?_
  refine pm_iload_n dL_law_1050 rfl ?_
  refine pm_iconst (v := 2) dL_law_1051 (by decide) ?_
  refine pm_iadd dL_law_1052 ?_
  refine pm_i (y := nI (6 * k + 2)) (nI_add (6 * k) 2) ?_
  refine pm_tld (f := xs) dL_law_1053 rfl (vp_in_nI (by omega) (by omega)) ?_
  refine pm_i (y := xs (6 * k + 2)) (congrArg xs (nI_clamp (by omega))) ?_
  refine pm_aload_n dL_law_1054 rfl ?_
  refine pm_iload_n dL_law_1055 rfl ?_
  refine pm_iconst (v := 3) dL_law_1056 (by decide) ?_
  refine pm_iadd dL_law_1057 ?_
  refine pm_i (y := nI (6 * k + 3)) (nI_add (6 * k) 3) ?_
  refine pm_tld (f := xs) dL_law_1058 rfl (vp_in_nI (by omega) (by omega)) ?_
  refine pm_i (y := xs (6 * k + 3)) (congrArg xs (nI_clamp (by omega))) ?_
  obtain ⟨em1, em2⟩ := lf1_some em
  refine rg_cV (M := M_L_law) (Mc := M_X10_gap) (dc := 3) (As := [.int (xs (6 * k + 1)), .int (xs (6 * k + 2)), .int (xs (6 * k + 3))]) (st := []) (j := 0) hRM dL_law_1059 ml_L_125 ⟨_, _, rfl⟩ rfl (by decide) (Nat.le_of_ble_eq_true rfl) (Nat.le_of_ble_eq_true rfl) (Nat.le_of_ble_eq_true rfl) rfl (k_X10_gap hRM em1) (fun r1 n1 w5 hq => ?_)
  obtain ⟨q1, q2, q3⟩ := hq
  rw [q1, q2, q3]
  clear q1 q2 q3
  have hR8 : rg shM 287 zm.2 325 w := by rw [em2]; exact hRM
  simp only [Option.toList_some, List.cons_append, List.nil_append]
  refine pm_pop dL_law_1062 rfl ?_
  refine pm_goto (tgt := 1251) dL_law_1063 (by decide) ?_
  exact hend _ _ _ hJ hR4 hR8
set_option maxHeartbeats 4000000 in
set_option maxRecDepth 100000 in
theorem law_sparing {F L k : Nat} {xs : Nat → Int32} {uc um : rg_U} {w : Nat → va_E} {cmp : Nat → Bool} {I J : rg_U → rg_U → Prop} (hs : LawSteps F cmp I J) (hL : L < 2 ^ 30) (hk : 6 * k + 6 ≤ L) (hRC : rg shC 0 uc 325 w) (hRM : rg shM 287 um 325 w) (hI : I uc um) (hend : ∀ uc um w, J uc um → rg shC 0 uc 325 w → rg shM 287 um 325 w → pm_X gs_L (ro_L L xs) M_L_law 13 600000 7302250 325 343962 1251 [some (.ref 2000000), some (.ref (0 + 0)), some (.ref (287 + 0)), some (.int (nI (6 * k)))] [] 325 w (fun r _ _ => r = some (.int 1))) : pm_X gs_L (ro_L L xs) M_L_law 13 600000 7302250 325 343962 1066 [some (.ref 2000000), some (.ref (0 + 0)), some (.ref (287 + 0)), some (.int (nI (6 * k)))] [] 325 w (fun r _ _ => r = some (.int 1)) := by
  refine pm_aload_n dL_law_1066 rfl ?_
  refine pm_aload_n dL_law_1067 rfl ?_
  refine pm_iload_n dL_law_1068 rfl ?_
  refine pm_iconst (v := 1) dL_law_1069 (by decide) ?_
  refine pm_iadd dL_law_1070 ?_
  refine pm_i (y := nI (6 * k + 1)) (nI_add (6 * k) 1) ?_
  refine pm_tld (f := xs) dL_law_1071 rfl (vp_in_nI (by omega) (by omega)) ?_
  refine pm_i (y := xs (6 * k + 1)) (congrArg xs (nI_clamp (by omega))) ?_
  refine pm_aload_n dL_law_1072 rfl ?_
  refine pm_iload_n dL_law_1073 rfl ?_
  refine pm_iconst (v := 2) dL_law_1074 (by decide) ?_
  refine pm_iadd dL_law_1075 ?_
  refine pm_i (y := nI (6 * k + 2)) (nI_add (6 * k) 2) ?_
  refine pm_tld (f := xs) dL_law_1076 rfl (vp_in_nI (by omega) (by omega)) ?_
  refine pm_i (y := xs (6 * k + 2)) (congrArg xs (nI_clamp (by omega))) ?_
  refine pm_aload_n dL_law_1077 rfl ?_
  refine pm_iload_n dL_law_1078 rfl ?_
  refine pm_iconst (v := 3) dL_law_1079 (by decide) ?_
  refine pm_iadd dL_law_1080 ?_
  refine pm_i (y := nI (6 * k + 3)) (nI_add (6 * k) 3) ?_
  refine pm_tld (f := xs) dL_law_1081 rfl (vp_in_nI (by omega) (by omega)) ?_
  refine pm_i (y := xs (6 * k + 3)) (congrArg xs (nI_clamp (by omega))) ?_
  obtain ⟨zc, zm, ec, em, hcmp, hJ⟩ := ls_sparing hs (xs (6 * k + 1)) (xs (6 * k + 2)) (xs (6 * k + 3)) (xs (6 * k + 4)) (xs (6 * k + 5)) _ _ hI
  obtain ⟨ec1, ec2⟩ := lf1_some ec
  refine rg_cV (M := M_L_law) (Mc := M_X9_sparing) (dc := 3) (As := [.int (xs (6 * k + 1)), .int (xs (6 * k + 2)), .int (xs (6 * k + 3))]) (st := []) (j := 0) hRC dL_law_1082 ml_L_126 ⟨_, _, rfl⟩ rfl (by decide) (Nat.le_of_ble_eq_true rfl) (Nat.le_of_ble_eq_true rfl) (Nat.le_of_ble_eq_true rfl) rfl (k_X9_sparing hRC ec1) (fun r1 n1 w1 hq => ?_)
  obtain ⟨q1, q2, q3⟩ := hq
  rw [q1, q2, q3]
  clear q1 q2 q3
  have hR4 : rg shC 0 zc.2 325 w := by rw [ec2]; exact hRC
  simp only [Option.toList_some, List.cons_append, List.nil_append]
  refine pm_pop dL_law_1085 rfl ?_
  refine pm_aload_n dL_law_1086 rfl ?_
  refine pm_aload_n dL_law_1087 rfl ?_
  refine pm_iload_n dL_law_1088 rfl ?_
  refine pm_iconst (v := 1) dL_law_1089 (by decide) ?_
  refine pm_iadd dL_law_1090 ?_
  refine pm_i (y := nI (6 * k + 1)) (nI_add (6 * k) 1) ?_
  refine pm_tld (f := xs) dL_law_1091 rfl (vp_in_nI (by omega) (by omega)) ?_
  refine pm_i (y := xs (6 * k + 1)) (congrArg xs (nI_clamp (by omega))) ?_
  refine pm_aload_n dL_law_1092 rfl ?_
  refine pm_iload_n dL_law_1093 rfl ?_
  refine pm_iconst (v := 2) dL_law_1094 (by decide) ?_
  refine pm_iadd dL_law_1095 ?_
  refine pm_i (y := nI (6 * k + 2)) (nI_add (6 * k) 2) ?_
  refine pm_tld (f := xs) dL_law_1096 rfl (vp_in_nI (by omega) (by omega)) ?_
  refine pm_i (y := xs (6 * k + 2)) (congrArg xs (nI_clamp (by omega))) ?_
  refine pm_aload_n dL_law_1097 rfl ?_
  refine pm_iload_n dL_law_1098 rfl ?_
  refine pm_iconst (v := 3) dL_law_1099 (by decide) ?_
  refine pm_iadd dL_law_1100 ?_
  refine pm_i (y := nI (6 * k + 3)) (nI_add (6 * k) 3) ?_
  refine pm_tld (f := xs) dL_law_1101 rfl (vp_in_nI (by omega) (by omega)) ?_
  refine pm_i (y := xs (6 * k + 3)) (congrArg xs (nI_clamp (by omega))) ?_
  obtain ⟨em1, em2⟩ := lf1_some em
  refine rg_cV (M := M_L_law) (Mc := M_X10_sparing) (dc := 4) (As := [.int (xs (6 * k + 1)), .int (xs (6 * k + 2)), .int (xs (6 * k + 3))]) (st := []) (j := 0) hRM dL_law_1102 ml_L_129 ⟨_, _, rfl⟩ rfl (by decide) (Nat.le_of_ble_eq_true rfl) (Nat.le_of_ble_eq_true rfl) (Nat.le_of_ble_eq_true rfl) rfl (k_X10_sparing hRM em1) (fun r1 n1 w5 hq => ?_)
  obtain ⟨q1, q2, q3⟩ := hq
  rw [q1, q2, q3]
  clear q1 q2 q3
  have hR8 : rg shM 287 zm.2 325 w := by rw [em2]; exact hRM
  simp only [Option.toList_some, List.cons_append, List.nil_append]
  refine pm_pop dL_law_1105 rfl ?_
  refine pm_goto (tgt := 1251) dL_law_1106 (by decide) ?_
  exact hend _ _ _ hJ hR4 hR8
set_option maxHeartbeats 4000000 in
set_option maxRecDepth 100000 in
theorem law_align {F L k : Nat} {xs : Nat → Int32} {uc um : rg_U} {w : Nat → va_E} {cmp : Nat → Bool} {I J : rg_U → rg_U → Prop} (hs : LawSteps F cmp I J) (hL : L < 2 ^ 30) (hk : 6 * k + 6 ≤ L) (hRC : rg shC 0 uc 325 w) (hRM : rg shM 287 um 325 w) (hI : I uc um) (hend : ∀ uc um w, J uc um → rg shC 0 uc 325 w → rg shM 287 um 325 w → pm_X gs_L (ro_L L xs) M_L_law 13 600000 7302250 325 343962 1251 [some (.ref 2000000), some (.ref (0 + 0)), some (.ref (287 + 0)), some (.int (nI (6 * k)))] [] 325 w (fun r _ _ => r = some (.int 1))) : pm_X gs_L (ro_L L xs) M_L_law 13 600000 7302250 325 343962 1109 [some (.ref 2000000), some (.ref (0 + 0)), some (.ref (287 + 0)), some (.int (nI (6 * k)))] [] 325 w (fun r _ _ => r = some (.int 1)) := by
  refine pm_aload_n dL_law_1109 rfl ?_
  refine pm_aload_n dL_law_1110 rfl ?_
  refine pm_iload_n dL_law_1111 rfl ?_
  refine pm_iconst (v := 1) dL_law_1112 (by decide) ?_
  refine pm_iadd dL_law_1113 ?_
  refine pm_i (y := nI (6 * k + 1)) (nI_add (6 * k) 1) ?_
  refine pm_tld (f := xs) dL_law_1114 rfl (vp_in_nI (by omega) (by omega)) ?_
  refine pm_i (y := xs (6 * k + 1)) (congrArg xs (nI_clamp (by omega))) ?_
  refine pm_aload_n dL_law_1115 rfl ?_
  refine pm_iload_n dL_law_1116 rfl ?_
  refine pm_iconst (v := 2) dL_law_1117 (by decide) ?_
  refine pm_iadd dL_law_1118 ?_
  refine pm_i (y := nI (6 * k + 2)) (nI_add (6 * k) 2) ?_
  refine pm_tld (f := xs) dL_law_1119 rfl (vp_in_nI (by omega) (by omega)) ?_
  refine pm_i (y := xs (6 * k + 2)) (congrArg xs (nI_clamp (by omega))) ?_
  obtain ⟨zc, zm, ec, em, hcmp, hJ⟩ := ls_align hs (xs (6 * k + 1)) (xs (6 * k + 2)) (xs (6 * k + 3)) (xs (6 * k + 4)) (xs (6 * k + 5)) _ _ hI
  refine rg_cV (M := M_L_law) (Mc := M_X9_align) (dc := 4) (As := [.int (xs (6 * k + 1)), .int (xs (6 * k + 2))]) (st := []) (j := 0) hRC dL_law_1120 ml_L_130 ⟨_, _, rfl⟩ rfl (by decide) (Nat.le_of_ble_eq_true rfl) (Nat.le_of_ble_eq_true rfl) (Nat.le_of_ble_eq_true rfl) rfl (k_X9_align hRC ec) (fun r1 n1 w1 hq => ?_)
  obtain ⟨rfl, rfl, hR2, hk3⟩ := hq
  have hR4 : rg shM 287 um 325 w1 := rg_keep hRM (Nat.le_refl _) (fun j hj => hk3 (287 + j) (Or.inr (by show 0 + 287 ≤ _; omega)))
  simp only [Option.toList_some, List.cons_append, List.nil_append]
  refine pm_pop dL_law_1123 rfl ?_
  refine pm_aload_n dL_law_1124 rfl ?_
  refine pm_aload_n dL_law_1125 rfl ?_
  refine pm_iload_n dL_law_1126 rfl ?_
  refine pm_iconst (v := 1) dL_law_1127 (by decide) ?_
  refine pm_iadd dL_law_1128 ?_
  refine pm_i (y := nI (6 * k + 1)) (nI_add (6 * k) 1) ?_
  refine pm_tld (f := xs) dL_law_1129 rfl (vp_in_nI (by omega) (by omega)) ?_
  refine pm_i (y := xs (6 * k + 1)) (congrArg xs (nI_clamp (by omega))) ?_
  refine pm_aload_n dL_law_1130 rfl ?_
  refine pm_iload_n dL_law_1131 rfl ?_
  refine pm_iconst (v := 2) dL_law_1132 (by decide) ?_
  refine pm_iadd dL_law_1133 ?_
  refine pm_i (y := nI (6 * k + 2)) (nI_add (6 * k) 2) ?_
  refine pm_tld (f := xs) dL_law_1134 rfl (vp_in_nI (by omega) (by omega)) ?_
  refine pm_i (y := xs (6 * k + 2)) (congrArg xs (nI_clamp (by omega))) ?_
  refine rg_cV (M := M_L_law) (Mc := M_X10_align) (dc := 2) (As := [.int (xs (6 * k + 1)), .int (xs (6 * k + 2))]) (st := []) (j := 0) hR4 dL_law_1135 ml_L_133 ⟨_, _, rfl⟩ rfl (by decide) (Nat.le_of_ble_eq_true rfl) (Nat.le_of_ble_eq_true rfl) (Nat.le_of_ble_eq_true rfl) rfl (k_X10_align hR4 em) (fun r1 n1 w5 hq => ?_)
  obtain ⟨rfl, rfl, hR6, hk7⟩ := hq
  have hR8 : rg shC 0 zc.2 325 w5 := rg_keep hR2 (Nat.le_refl _) (fun j hj => hk7 (0 + j) (Or.inl (by have : j < 287 := hj; omega)))
  simp only [Option.toList_some, List.cons_append, List.nil_append]
  refine pm_pop dL_law_1138 rfl ?_
  refine pm_goto (tgt := 1251) dL_law_1139 (by decide) ?_
  exact hend _ _ _ hJ hR8 hR6
set_option maxHeartbeats 4000000 in
set_option maxRecDepth 100000 in
theorem law_pair {F L k : Nat} {xs : Nat → Int32} {uc um : rg_U} {w : Nat → va_E} {cmp : Nat → Bool} {I J : rg_U → rg_U → Prop} (hs : LawSteps F cmp I J) (hL : L < 2 ^ 30) (hk : 6 * k + 6 ≤ L) (hRC : rg shC 0 uc 325 w) (hRM : rg shM 287 um 325 w) (hI : I uc um) (hend : ∀ uc um w, J uc um → rg shC 0 uc 325 w → rg shM 287 um 325 w → pm_X gs_L (ro_L L xs) M_L_law 13 600000 7302250 325 343962 1251 [some (.ref 2000000), some (.ref (0 + 0)), some (.ref (287 + 0)), some (.int (nI (6 * k)))] [] 325 w (fun r _ _ => r = some (.int 1))) : pm_X gs_L (ro_L L xs) M_L_law 13 600000 7302250 325 343962 1142 [some (.ref 2000000), some (.ref (0 + 0)), some (.ref (287 + 0)), some (.int (nI (6 * k)))] [] 325 w (fun r _ _ => r = some (.int 1)) := by
  refine pm_aload_n dL_law_1142 rfl ?_
  refine pm_aload_n dL_law_1143 rfl ?_
  refine pm_iload_n dL_law_1144 rfl ?_
  refine pm_iconst (v := 1) dL_law_1145 (by decide) ?_
  refine pm_iadd dL_law_1146 ?_
  refine pm_i (y := nI (6 * k + 1)) (nI_add (6 * k) 1) ?_
  refine pm_tld (f := xs) dL_law_1147 rfl (vp_in_nI (by omega) (by omega)) ?_
  refine pm_i (y := xs (6 * k + 1)) (congrArg xs (nI_clamp (by omega))) ?_
  refine pm_aload_n dL_law_1148 rfl ?_
  refine pm_iload_n dL_law_1149 rfl ?_
  refine pm_iconst (v := 2) dL_law_1150 (by decide) ?_
  refine pm_iadd dL_law_1151 ?_
  refine pm_i (y := nI (6 * k + 2)) (nI_add (6 * k) 2) ?_
  refine pm_tld (f := xs) dL_law_1152 rfl (vp_in_nI (by omega) (by omega)) ?_
  refine pm_i (y := xs (6 * k + 2)) (congrArg xs (nI_clamp (by omega))) ?_
  refine pm_aload_n dL_law_1153 rfl ?_
  refine pm_iload_n dL_law_1154 rfl ?_
  refine pm_iconst (v := 3) dL_law_1155 (by decide) ?_
  refine pm_iadd dL_law_1156 ?_
  refine pm_i (y := nI (6 * k + 3)) (nI_add (6 * k) 3) ?_
  refine pm_tld (f := xs) dL_law_1157 rfl (vp_in_nI (by omega) (by omega)) ?_
  refine pm_i (y := xs (6 * k + 3)) (congrArg xs (nI_clamp (by omega))) ?_
  refine pm_aload_n dL_law_1158 rfl ?_
  refine pm_iload_n dL_law_1159 rfl ?_
  refine pm_iconst (v := 4) dL_law_1160 (by decide) ?_
  refine pm_iadd dL_law_1161 ?_
  refine pm_i (y := nI (6 * k + 4)) (nI_add (6 * k) 4) ?_
  refine pm_tld (f := xs) dL_law_1162 rfl (vp_in_nI (by omega) (by omega)) ?_
  refine pm_i (y := xs (6 * k + 4)) (congrArg xs (nI_clamp (by omega))) ?_
  obtain ⟨zc, zm, ec, em, hcmp, hJ⟩ := ls_pair hs (xs (6 * k + 1)) (xs (6 * k + 2)) (xs (6 * k + 3)) (xs (6 * k + 4)) (xs (6 * k + 5)) _ _ hI
  refine rg_cV (M := M_L_law) (Mc := M_X9_pair) (dc := 4) (As := [.int (xs (6 * k + 1)), .int (xs (6 * k + 2)), .int (xs (6 * k + 3)), .int (xs (6 * k + 4))]) (st := []) (j := 0) hRC dL_law_1163 ml_L_134 ⟨_, _, rfl⟩ rfl (by decide) (Nat.le_of_ble_eq_true rfl) (Nat.le_of_ble_eq_true rfl) (Nat.le_of_ble_eq_true rfl) rfl (k_X9_pair hRC ec) (fun r1 n1 w1 hq => ?_)
  obtain ⟨rfl, rfl, hR2, hk3⟩ := hq
  have hR4 : rg shM 287 um 325 w1 := rg_keep hRM (Nat.le_refl _) (fun j hj => hk3 (287 + j) (Or.inr (by show 0 + 287 ≤ _; omega)))
  simp only [Option.toList_some, List.cons_append, List.nil_append]
  refine pm_pop dL_law_1166 rfl ?_
  refine pm_aload_n dL_law_1167 rfl ?_
  refine pm_aload_n dL_law_1168 rfl ?_
  refine pm_iload_n dL_law_1169 rfl ?_
  refine pm_iconst (v := 1) dL_law_1170 (by decide) ?_
  refine pm_iadd dL_law_1171 ?_
  refine pm_i (y := nI (6 * k + 1)) (nI_add (6 * k) 1) ?_
  refine pm_tld (f := xs) dL_law_1172 rfl (vp_in_nI (by omega) (by omega)) ?_
  refine pm_i (y := xs (6 * k + 1)) (congrArg xs (nI_clamp (by omega))) ?_
  refine pm_aload_n dL_law_1173 rfl ?_
  refine pm_iload_n dL_law_1174 rfl ?_
  refine pm_iconst (v := 2) dL_law_1175 (by decide) ?_
  refine pm_iadd dL_law_1176 ?_
  refine pm_i (y := nI (6 * k + 2)) (nI_add (6 * k) 2) ?_
  refine pm_tld (f := xs) dL_law_1177 rfl (vp_in_nI (by omega) (by omega)) ?_
  refine pm_i (y := xs (6 * k + 2)) (congrArg xs (nI_clamp (by omega))) ?_
  refine pm_aload_n dL_law_1178 rfl ?_
  refine pm_iload_n dL_law_1179 rfl ?_
  refine pm_iconst (v := 3) dL_law_1180 (by decide) ?_
  refine pm_iadd dL_law_1181 ?_
  refine pm_i (y := nI (6 * k + 3)) (nI_add (6 * k) 3) ?_
  refine pm_tld (f := xs) dL_law_1182 rfl (vp_in_nI (by omega) (by omega)) ?_
  refine pm_i (y := xs (6 * k + 3)) (congrArg xs (nI_clamp (by omega))) ?_
  refine pm_aload_n dL_law_1183 rfl ?_
  refine pm_iload_n dL_law_1184 rfl ?_
  refine pm_iconst (v := 4) dL_law_1185 (by decide) ?_
  refine pm_iadd dL_law_1186 ?_
  refine pm_i (y := nI (6 * k + 4)) (nI_add (6 * k) 4) ?_
  refine pm_tld (f := xs) dL_law_1187 rfl (vp_in_nI (by omega) (by omega)) ?_
  refine pm_i (y := xs (6 * k + 4)) (congrArg xs (nI_clamp (by omega))) ?_
  refine rg_cV (M := M_L_law) (Mc := M_X10_pair) (dc := 9) (As := [.int (xs (6 * k + 1)), .int (xs (6 * k + 2)), .int (xs (6 * k + 3)), .int (xs (6 * k + 4))]) (st := []) (j := 0) hR4 dL_law_1188 ml_L_137 ⟨_, _, rfl⟩ rfl (by decide) (Nat.le_of_ble_eq_true rfl) (Nat.le_of_ble_eq_true rfl) (Nat.le_of_ble_eq_true rfl) rfl (k_X10_pair hR4 em) (fun r1 n1 w5 hq => ?_)
  obtain ⟨rfl, rfl, hR6, hk7⟩ := hq
  have hR8 : rg shC 0 zc.2 325 w5 := rg_keep hR2 (Nat.le_refl _) (fun j hj => hk7 (0 + j) (Or.inl (by have : j < 287 := hj; omega)))
  simp only [Option.toList_some, List.cons_append, List.nil_append]
  refine pm_pop dL_law_1191 rfl ?_
  refine pm_goto (tgt := 1251) dL_law_1192 (by decide) ?_
  exact hend _ _ _ hJ hR8 hR6
set_option maxHeartbeats 4000000 in
set_option maxRecDepth 100000 in
theorem law_parts {F L k : Nat} {xs : Nat → Int32} {uc um : rg_U} {w : Nat → va_E} {cmp : Nat → Bool} {I J : rg_U → rg_U → Prop} (hs : LawSteps F cmp I J) (hL : L < 2 ^ 30) (hk : 6 * k + 6 ≤ L) (hRC : rg shC 0 uc 325 w) (hRM : rg shM 287 um 325 w) (hI : I uc um) (hend : ∀ uc um w, J uc um → rg shC 0 uc 325 w → rg shM 287 um 325 w → pm_X gs_L (ro_L L xs) M_L_law 13 600000 7302250 325 343962 1251 [some (.ref 2000000), some (.ref (0 + 0)), some (.ref (287 + 0)), some (.int (nI (6 * k)))] [] 325 w (fun r _ _ => r = some (.int 1))) : pm_X gs_L (ro_L L xs) M_L_law 13 600000 7302250 325 343962 1195 [some (.ref 2000000), some (.ref (0 + 0)), some (.ref (287 + 0)), some (.int (nI (6 * k)))] [] 325 w (fun r _ _ => r = some (.int 1)) := by
  refine pm_aload_n dL_law_1195 rfl ?_
  refine pm_aload_n dL_law_1196 rfl ?_
  refine pm_iload_n dL_law_1197 rfl ?_
  refine pm_iconst (v := 1) dL_law_1198 (by decide) ?_
  refine pm_iadd dL_law_1199 ?_
  refine pm_i (y := nI (6 * k + 1)) (nI_add (6 * k) 1) ?_
  refine pm_tld (f := xs) dL_law_1200 rfl (vp_in_nI (by omega) (by omega)) ?_
  refine pm_i (y := xs (6 * k + 1)) (congrArg xs (nI_clamp (by omega))) ?_
  refine pm_aload_n dL_law_1201 rfl ?_
  refine pm_iload_n dL_law_1202 rfl ?_
  refine pm_iconst (v := 2) dL_law_1203 (by decide) ?_
  refine pm_iadd dL_law_1204 ?_
  refine pm_i (y := nI (6 * k + 2)) (nI_add (6 * k) 2) ?_
  refine pm_tld (f := xs) dL_law_1205 rfl (vp_in_nI (by omega) (by omega)) ?_
  refine pm_i (y := xs (6 * k + 2)) (congrArg xs (nI_clamp (by omega))) ?_
  obtain ⟨zc, zm, ec, em, hcmp, hJ⟩ := ls_parts hs (xs (6 * k + 1)) (xs (6 * k + 2)) (xs (6 * k + 3)) (xs (6 * k + 4)) (xs (6 * k + 5)) _ _ hI
  refine rg_cV (M := M_L_law) (Mc := M_X9_parts) (dc := 4) (As := [.int (xs (6 * k + 1)), .int (xs (6 * k + 2))]) (st := []) (j := 0) hRC dL_law_1206 ml_L_138 ⟨_, _, rfl⟩ rfl (by decide) (Nat.le_of_ble_eq_true rfl) (Nat.le_of_ble_eq_true rfl) (Nat.le_of_ble_eq_true rfl) rfl (k_X9_parts hRC ec) (fun r1 n1 w1 hq => ?_)
  obtain ⟨rfl, rfl, hR2, hk3⟩ := hq
  have hR4 : rg shM 287 um 325 w1 := rg_keep hRM (Nat.le_refl _) (fun j hj => hk3 (287 + j) (Or.inr (by show 0 + 287 ≤ _; omega)))
  simp only [Option.toList_some, List.cons_append, List.nil_append]
  refine pm_pop dL_law_1209 rfl ?_
  refine pm_aload_n dL_law_1210 rfl ?_
  refine pm_aload_n dL_law_1211 rfl ?_
  refine pm_iload_n dL_law_1212 rfl ?_
  refine pm_iconst (v := 1) dL_law_1213 (by decide) ?_
  refine pm_iadd dL_law_1214 ?_
  refine pm_i (y := nI (6 * k + 1)) (nI_add (6 * k) 1) ?_
  refine pm_tld (f := xs) dL_law_1215 rfl (vp_in_nI (by omega) (by omega)) ?_
  refine pm_i (y := xs (6 * k + 1)) (congrArg xs (nI_clamp (by omega))) ?_
  refine pm_aload_n dL_law_1216 rfl ?_
  refine pm_iload_n dL_law_1217 rfl ?_
  refine pm_iconst (v := 2) dL_law_1218 (by decide) ?_
  refine pm_iadd dL_law_1219 ?_
  refine pm_i (y := nI (6 * k + 2)) (nI_add (6 * k) 2) ?_
  refine pm_tld (f := xs) dL_law_1220 rfl (vp_in_nI (by omega) (by omega)) ?_
  refine pm_i (y := xs (6 * k + 2)) (congrArg xs (nI_clamp (by omega))) ?_
  refine rg_cV (M := M_L_law) (Mc := M_X10_parts) (dc := 7) (As := [.int (xs (6 * k + 1)), .int (xs (6 * k + 2))]) (st := []) (j := 0) hR4 dL_law_1221 ml_L_141 ⟨_, _, rfl⟩ rfl (by decide) (Nat.le_of_ble_eq_true rfl) (Nat.le_of_ble_eq_true rfl) (Nat.le_of_ble_eq_true rfl) rfl (k_X10_parts hR4 em) (fun r1 n1 w5 hq => ?_)
  obtain ⟨rfl, rfl, hR6, hk7⟩ := hq
  have hR8 : rg shC 0 zc.2 325 w5 := rg_keep hR2 (Nat.le_refl _) (fun j hj => hk7 (0 + j) (Or.inl (by have : j < 287 := hj; omega)))
  simp only [Option.toList_some, List.cons_append, List.nil_append]
  refine pm_pop dL_law_1224 rfl ?_
  refine pm_goto (tgt := 1251) dL_law_1225 (by decide) ?_
  exact hend _ _ _ hJ hR8 hR6
set_option maxHeartbeats 4000000 in
set_option maxRecDepth 100000 in
theorem law_look {F L k : Nat} {xs : Nat → Int32} {uc um : rg_U} {w : Nat → va_E} {cmp : Nat → Bool} {I J : rg_U → rg_U → Prop} (hs : LawSteps F cmp I J) (hcm : cmp 30 = true) (hL : L < 2 ^ 30) (hk : 6 * k + 6 ≤ L) (hRC : rg shC 0 uc 325 w) (hRM : rg shM 287 um 325 w) (hI : I uc um) (hend : ∀ uc um w, J uc um → rg shC 0 uc 325 w → rg shM 287 um 325 w → pm_X gs_L (ro_L L xs) M_L_law 13 600000 7302250 325 343962 1251 [some (.ref 2000000), some (.ref (0 + 0)), some (.ref (287 + 0)), some (.int (nI (6 * k)))] [] 325 w (fun r _ _ => r = some (.int 1))) : pm_X gs_L (ro_L L xs) M_L_law 13 600000 7302250 325 343962 1228 [some (.ref 2000000), some (.ref (0 + 0)), some (.ref (287 + 0)), some (.int (nI (6 * k)))] [] 325 w (fun r _ _ => r = some (.int 1)) := by
  refine pm_aload_n dL_law_1228 rfl ?_
  refine pm_aload_n dL_law_1229 rfl ?_
  refine pm_iload_n dL_law_1230 rfl ?_
  refine pm_iconst (v := 1) dL_law_1231 (by decide) ?_
  refine pm_iadd dL_law_1232 ?_
  refine pm_i (y := nI (6 * k + 1)) (nI_add (6 * k) 1) ?_
  refine pm_tld (f := xs) dL_law_1233 rfl (vp_in_nI (by omega) (by omega)) ?_
  refine pm_i (y := xs (6 * k + 1)) (congrArg xs (nI_clamp (by omega))) ?_
  obtain ⟨zc, zm, ec, em, hcmp, hJ⟩ := ls_look hs (xs (6 * k + 1)) (xs (6 * k + 2)) (xs (6 * k + 3)) (xs (6 * k + 4)) (xs (6 * k + 5)) _ _ hI
  obtain ⟨ec1, ec2⟩ := lf1_some ec
  refine rg_cV (M := M_L_law) (Mc := M_X9_look) (dc := 4) (As := [.int (xs (6 * k + 1))]) (st := []) (j := 0) hRC dL_law_1234 ml_L_142 ⟨_, _, rfl⟩ rfl (by decide) (Nat.le_of_ble_eq_true rfl) (Nat.le_of_ble_eq_true rfl) (Nat.le_of_ble_eq_true rfl) rfl (k_X9_look hRC ec1) (fun r1 n1 w1 hq => ?_)
  obtain ⟨q1, q2, q3⟩ := hq
  rw [q1, q2, q3]
  clear q1 q2 q3
  have hR4 : rg shC 0 zc.2 325 w := by rw [ec2]; exact hRC
  simp only [Option.toList_some, List.cons_append, List.nil_append]
  refine pm_aload_n dL_law_1237 rfl ?_
  refine pm_aload_n dL_law_1238 rfl ?_
  refine pm_iload_n dL_law_1239 rfl ?_
  refine pm_iconst (v := 1) dL_law_1240 (by decide) ?_
  refine pm_iadd dL_law_1241 ?_
  refine pm_i (y := nI (6 * k + 1)) (nI_add (6 * k) 1) ?_
  refine pm_tld (f := xs) dL_law_1242 rfl (vp_in_nI (by omega) (by omega)) ?_
  refine pm_i (y := xs (6 * k + 1)) (congrArg xs (nI_clamp (by omega))) ?_
  obtain ⟨em1, em2⟩ := lf1_some em
  refine rg_cV (M := M_L_law) (Mc := M_X10_look) (dc := 3) (As := [.int (xs (6 * k + 1))]) (st := [.int zc.1]) (j := 0) hRM dL_law_1243 ml_L_145 ⟨_, _, rfl⟩ rfl (by decide) (Nat.le_of_ble_eq_true rfl) (Nat.le_of_ble_eq_true rfl) (Nat.le_of_ble_eq_true rfl) rfl (k_X10_look hRM em1) (fun r1 n1 w5 hq => ?_)
  obtain ⟨q1, q2, q3⟩ := hq
  rw [q1, q2, q3]
  clear q1 q2 q3
  have hR8 : rg shM 287 zm.2 325 w := by rw [em2]; exact hRM
  simp only [Option.toList_some, List.cons_append, List.nil_append]
  refine pm_icmp_eq (tgt := 1251) dL_law_1246 (by decide) (fun _ => ?_) (fun q => absurd (hcmp hcm) q)
  exact hend _ _ _ hJ hR4 hR8
