/-! ===== the law, cases 0 to 7 ===== -/
theorem dL_law_180 : decode cL_law 180 = .ok (.aload_n 1, 1) := by decide +kernel
theorem dL_law_181 : decode cL_law 181 = .ok (.aload_n 0, 1) := by decide +kernel
theorem dL_law_182 : decode cL_law 182 = .ok (.iload 4, 2) := by decide +kernel
theorem dL_law_184 : decode cL_law 184 = .ok (.iconst 1, 1) := by decide +kernel
theorem dL_law_185 : decode cL_law 185 = .ok (.iadd, 1) := by decide +kernel
theorem dL_law_186 : decode cL_law 186 = .ok (.iaload, 1) := by decide +kernel
theorem dL_law_187 : decode cL_law 187 = .ok (.aload_n 0, 1) := by decide +kernel
theorem dL_law_188 : decode cL_law 188 = .ok (.iload 4, 2) := by decide +kernel
theorem dL_law_190 : decode cL_law 190 = .ok (.iconst 2, 1) := by decide +kernel
theorem dL_law_191 : decode cL_law 191 = .ok (.iadd, 1) := by decide +kernel
theorem dL_law_192 : decode cL_law 192 = .ok (.iaload, 1) := by decide +kernel
theorem dL_law_193 : decode cL_law 193 = .ok (.aload_n 0, 1) := by decide +kernel
theorem dL_law_194 : decode cL_law 194 = .ok (.iload 4, 2) := by decide +kernel
theorem dL_law_196 : decode cL_law 196 = .ok (.iconst 3, 1) := by decide +kernel
theorem dL_law_197 : decode cL_law 197 = .ok (.iadd, 1) := by decide +kernel
theorem dL_law_198 : decode cL_law 198 = .ok (.iaload, 1) := by decide +kernel
theorem dL_law_199 : decode cL_law 199 = .ok (.aload_n 0, 1) := by decide +kernel
theorem dL_law_200 : decode cL_law 200 = .ok (.iload 4, 2) := by decide +kernel
theorem dL_law_202 : decode cL_law 202 = .ok (.iconst 4, 1) := by decide +kernel
theorem dL_law_203 : decode cL_law 203 = .ok (.iadd, 1) := by decide +kernel
theorem dL_law_204 : decode cL_law 204 = .ok (.iaload, 1) := by decide +kernel
theorem dL_law_205 : decode cL_law 205 = .ok (.aload_n 0, 1) := by decide +kernel
theorem dL_law_206 : decode cL_law 206 = .ok (.iload 4, 2) := by decide +kernel
theorem dL_law_208 : decode cL_law 208 = .ok (.iconst 5, 1) := by decide +kernel
theorem dL_law_209 : decode cL_law 209 = .ok (.iadd, 1) := by decide +kernel
theorem dL_law_210 : decode cL_law 210 = .ok (.iaload, 1) := by decide +kernel
theorem dL_law_211 : decode cL_law 211 = .ok (.invokevirtual 32, 3) := by decide +kernel
set_option maxRecDepth 50000 in
theorem lRL_32 : Cond.methodLink RL 32 yX11_feed ∈ qw_good := qw_g 491 rfl rfl
theorem dL_law_214 : decode cL_law 214 = .ok (.aload_n 2, 1) := by decide +kernel
theorem dL_law_215 : decode cL_law 215 = .ok (.aload_n 0, 1) := by decide +kernel
theorem dL_law_216 : decode cL_law 216 = .ok (.iload 4, 2) := by decide +kernel
theorem dL_law_218 : decode cL_law 218 = .ok (.iconst 1, 1) := by decide +kernel
theorem dL_law_219 : decode cL_law 219 = .ok (.iadd, 1) := by decide +kernel
theorem dL_law_220 : decode cL_law 220 = .ok (.iaload, 1) := by decide +kernel
theorem dL_law_221 : decode cL_law 221 = .ok (.aload_n 0, 1) := by decide +kernel
theorem dL_law_222 : decode cL_law 222 = .ok (.iload 4, 2) := by decide +kernel
theorem dL_law_224 : decode cL_law 224 = .ok (.iconst 2, 1) := by decide +kernel
theorem dL_law_225 : decode cL_law 225 = .ok (.iadd, 1) := by decide +kernel
theorem dL_law_226 : decode cL_law 226 = .ok (.iaload, 1) := by decide +kernel
theorem dL_law_227 : decode cL_law 227 = .ok (.aload_n 0, 1) := by decide +kernel
theorem dL_law_228 : decode cL_law 228 = .ok (.iload 4, 2) := by decide +kernel
theorem dL_law_230 : decode cL_law 230 = .ok (.iconst 3, 1) := by decide +kernel
theorem dL_law_231 : decode cL_law 231 = .ok (.iadd, 1) := by decide +kernel
theorem dL_law_232 : decode cL_law 232 = .ok (.iaload, 1) := by decide +kernel
theorem dL_law_233 : decode cL_law 233 = .ok (.aload_n 0, 1) := by decide +kernel
theorem dL_law_234 : decode cL_law 234 = .ok (.iload 4, 2) := by decide +kernel
theorem dL_law_236 : decode cL_law 236 = .ok (.iconst 4, 1) := by decide +kernel
theorem dL_law_237 : decode cL_law 237 = .ok (.iadd, 1) := by decide +kernel
theorem dL_law_238 : decode cL_law 238 = .ok (.iaload, 1) := by decide +kernel
theorem dL_law_239 : decode cL_law 239 = .ok (.aload_n 0, 1) := by decide +kernel
theorem dL_law_240 : decode cL_law 240 = .ok (.iload 4, 2) := by decide +kernel
theorem dL_law_242 : decode cL_law 242 = .ok (.iconst 5, 1) := by decide +kernel
theorem dL_law_243 : decode cL_law 243 = .ok (.iadd, 1) := by decide +kernel
theorem dL_law_244 : decode cL_law 244 = .ok (.iaload, 1) := by decide +kernel
theorem dL_law_245 : decode cL_law 245 = .ok (.invokevirtual 36, 3) := by decide +kernel
set_option maxRecDepth 50000 in
theorem lRL_36 : Cond.methodLink RL 36 yX12_feed ∈ qw_good := qw_g 1444 rfl rfl
theorem dL_law_248 : decode cL_law 248 = .ok (.if_icmp .eq 958, 3) := by decide +kernel
theorem dL_law_253 : decode cL_law 253 = .ok (.aload_n 1, 1) := by decide +kernel
theorem dL_law_254 : decode cL_law 254 = .ok (.aload_n 0, 1) := by decide +kernel
theorem dL_law_255 : decode cL_law 255 = .ok (.iload 4, 2) := by decide +kernel
theorem dL_law_257 : decode cL_law 257 = .ok (.iconst 1, 1) := by decide +kernel
theorem dL_law_258 : decode cL_law 258 = .ok (.iadd, 1) := by decide +kernel
theorem dL_law_259 : decode cL_law 259 = .ok (.iaload, 1) := by decide +kernel
theorem dL_law_260 : decode cL_law 260 = .ok (.invokevirtual 37, 3) := by decide +kernel
set_option maxRecDepth 50000 in
theorem lRL_37 : Cond.methodLink RL 37 yX11_end ∈ qw_good := qw_g 499 rfl rfl
theorem dL_law_263 : decode cL_law 263 = .ok (.aload_n 2, 1) := by decide +kernel
theorem dL_law_264 : decode cL_law 264 = .ok (.aload_n 0, 1) := by decide +kernel
theorem dL_law_265 : decode cL_law 265 = .ok (.iload 4, 2) := by decide +kernel
theorem dL_law_267 : decode cL_law 267 = .ok (.iconst 1, 1) := by decide +kernel
theorem dL_law_268 : decode cL_law 268 = .ok (.iadd, 1) := by decide +kernel
theorem dL_law_269 : decode cL_law 269 = .ok (.iaload, 1) := by decide +kernel
theorem dL_law_270 : decode cL_law 270 = .ok (.invokevirtual 41, 3) := by decide +kernel
set_option maxRecDepth 50000 in
theorem lRL_41 : Cond.methodLink RL 41 yX12_end ∈ qw_good := qw_g 1452 rfl rfl
theorem dL_law_273 : decode cL_law 273 = .ok (.if_icmp .eq 933, 3) := by decide +kernel
theorem dL_law_278 : decode cL_law 278 = .ok (.aload_n 1, 1) := by decide +kernel
theorem dL_law_279 : decode cL_law 279 = .ok (.invokevirtual 42, 3) := by decide +kernel
set_option maxRecDepth 50000 in
theorem lRL_42 : Cond.methodLink RL 42 yX11_drawing ∈ qw_good := qw_g 503 rfl rfl
theorem dL_law_282 : decode cL_law 282 = .ok (.aload_n 2, 1) := by decide +kernel
theorem dL_law_283 : decode cL_law 283 = .ok (.invokevirtual 46, 3) := by decide +kernel
set_option maxRecDepth 50000 in
theorem lRL_46 : Cond.methodLink RL 46 yX12_drawing ∈ qw_good := qw_g 1456 rfl rfl
theorem dL_law_286 : decode cL_law 286 = .ok (.if_icmp .eq 920, 3) := by decide +kernel
theorem dL_law_291 : decode cL_law 291 = .ok (.aload_n 1, 1) := by decide +kernel
theorem dL_law_292 : decode cL_law 292 = .ok (.invokevirtual 47, 3) := by decide +kernel
set_option maxRecDepth 50000 in
theorem lRL_47 : Cond.methodLink RL 47 yX11_fault ∈ qw_good := qw_g 750 rfl rfl
theorem dL_law_295 : decode cL_law 295 = .ok (.aload_n 2, 1) := by decide +kernel
theorem dL_law_296 : decode cL_law 296 = .ok (.invokevirtual 50, 3) := by decide +kernel
set_option maxRecDepth 50000 in
theorem lRL_50 : Cond.methodLink RL 50 yX12_fault ∈ qw_good := qw_g 1581 rfl rfl
theorem dL_law_299 : decode cL_law 299 = .ok (.if_icmp .eq 907, 3) := by decide +kernel
theorem dL_law_304 : decode cL_law 304 = .ok (.aload_n 1, 1) := by decide +kernel
theorem dL_law_305 : decode cL_law 305 = .ok (.aload_n 0, 1) := by decide +kernel
theorem dL_law_306 : decode cL_law 306 = .ok (.iload 4, 2) := by decide +kernel
theorem dL_law_308 : decode cL_law 308 = .ok (.iconst 1, 1) := by decide +kernel
theorem dL_law_309 : decode cL_law 309 = .ok (.iadd, 1) := by decide +kernel
theorem dL_law_310 : decode cL_law 310 = .ok (.iaload, 1) := by decide +kernel
theorem dL_law_311 : decode cL_law 311 = .ok (.aload_n 0, 1) := by decide +kernel
theorem dL_law_312 : decode cL_law 312 = .ok (.iload 4, 2) := by decide +kernel
theorem dL_law_314 : decode cL_law 314 = .ok (.iconst 2, 1) := by decide +kernel
theorem dL_law_315 : decode cL_law 315 = .ok (.iadd, 1) := by decide +kernel
theorem dL_law_316 : decode cL_law 316 = .ok (.iaload, 1) := by decide +kernel
theorem dL_law_317 : decode cL_law 317 = .ok (.aload_n 3, 1) := by decide +kernel
theorem dL_law_318 : decode cL_law 318 = .ok (.invokestatic 51, 3) := by decide +kernel
set_option maxRecDepth 50000 in
theorem lRL_51 : Cond.methodLink RL 51 yL_place ∈ qw_good := qw_g 1135 rfl rfl
theorem dL_law_321 : decode cL_law 321 = .ok (.istore 5, 2) := by decide +kernel
theorem dL_law_323 : decode cL_law 323 = .ok (.aload_n 2, 1) := by decide +kernel
theorem dL_law_324 : decode cL_law 324 = .ok (.aload_n 0, 1) := by decide +kernel
theorem dL_law_325 : decode cL_law 325 = .ok (.iload 4, 2) := by decide +kernel
theorem dL_law_327 : decode cL_law 327 = .ok (.iconst 1, 1) := by decide +kernel
theorem dL_law_328 : decode cL_law 328 = .ok (.iadd, 1) := by decide +kernel
theorem dL_law_329 : decode cL_law 329 = .ok (.iaload, 1) := by decide +kernel
theorem dL_law_330 : decode cL_law 330 = .ok (.aload_n 0, 1) := by decide +kernel
theorem dL_law_331 : decode cL_law 331 = .ok (.iload 4, 2) := by decide +kernel
theorem dL_law_333 : decode cL_law 333 = .ok (.iconst 2, 1) := by decide +kernel
theorem dL_law_334 : decode cL_law 334 = .ok (.iadd, 1) := by decide +kernel
theorem dL_law_335 : decode cL_law 335 = .ok (.iaload, 1) := by decide +kernel
theorem dL_law_336 : decode cL_law 336 = .ok (.invokevirtual 56, 3) := by decide +kernel
set_option maxRecDepth 50000 in
theorem lRL_56 : Cond.methodLink RL 56 yX12_place ∈ qw_good := qw_g 1585 rfl rfl
theorem dL_law_339 : decode cL_law 339 = .ok (.istore 6, 2) := by decide +kernel
theorem dL_law_341 : decode cL_law 341 = .ok (.aload_n 2, 1) := by decide +kernel
theorem dL_law_342 : decode cL_law 342 = .ok (.invokevirtual 57, 3) := by decide +kernel
set_option maxRecDepth 50000 in
theorem lRL_57 : Cond.methodLink RL 57 yX12_thrown ∈ qw_good := qw_g 1440 rfl rfl
theorem dL_law_345 : decode cL_law 345 = .ok (.iload 5, 2) := by decide +kernel
theorem dL_law_347 : decode cL_law 347 = .ok (.if_icmp .eq 5, 3) := by decide +kernel
theorem dL_law_352 : decode cL_law 352 = .ok (.iload 5, 2) := by decide +kernel
theorem dL_law_354 : decode cL_law 354 = .ok (.ifCond .ne 15, 3) := by decide +kernel
theorem dL_law_357 : decode cL_law 357 = .ok (.aload_n 3, 1) := by decide +kernel
theorem dL_law_358 : decode cL_law 358 = .ok (.iconst 0, 1) := by decide +kernel
theorem dL_law_359 : decode cL_law 359 = .ok (.laload, 1) := by decide +kernel
theorem dL_law_360 : decode cL_law 360 = .ok (.iload 6, 2) := by decide +kernel
theorem dL_law_362 : decode cL_law 362 = .ok (.i2l, 1) := by decide +kernel
theorem dL_law_363 : decode cL_law 363 = .ok (.lcmp, 1) := by decide +kernel
theorem dL_law_364 : decode cL_law 364 = .ok (.ifCond .eq 5, 3) := by decide +kernel
theorem dL_law_369 : decode cL_law 369 = .ok (.goto 837, 3) := by decide +kernel
theorem dL_law_372 : decode cL_law 372 = .ok (.aload_n 1, 1) := by decide +kernel
theorem dL_law_373 : decode cL_law 373 = .ok (.aload_n 0, 1) := by decide +kernel
theorem dL_law_374 : decode cL_law 374 = .ok (.iload 4, 2) := by decide +kernel
theorem dL_law_376 : decode cL_law 376 = .ok (.iconst 1, 1) := by decide +kernel
theorem dL_law_377 : decode cL_law 377 = .ok (.iadd, 1) := by decide +kernel
theorem dL_law_378 : decode cL_law 378 = .ok (.iaload, 1) := by decide +kernel
theorem dL_law_379 : decode cL_law 379 = .ok (.aload_n 0, 1) := by decide +kernel
theorem dL_law_380 : decode cL_law 380 = .ok (.iload 4, 2) := by decide +kernel
theorem dL_law_382 : decode cL_law 382 = .ok (.iconst 2, 1) := by decide +kernel
theorem dL_law_383 : decode cL_law 383 = .ok (.iadd, 1) := by decide +kernel
theorem dL_law_384 : decode cL_law 384 = .ok (.iaload, 1) := by decide +kernel
theorem dL_law_385 : decode cL_law 385 = .ok (.aload_n 3, 1) := by decide +kernel
theorem dL_law_386 : decode cL_law 386 = .ok (.invokestatic 60, 3) := by decide +kernel
set_option maxRecDepth 50000 in
theorem lRL_60 : Cond.methodLink RL 60 yL_energy ∈ qw_good := qw_g 1213 rfl rfl
theorem dL_law_389 : decode cL_law 389 = .ok (.istore 5, 2) := by decide +kernel
theorem dL_law_391 : decode cL_law 391 = .ok (.aload_n 2, 1) := by decide +kernel
theorem dL_law_392 : decode cL_law 392 = .ok (.aload_n 0, 1) := by decide +kernel
theorem dL_law_393 : decode cL_law 393 = .ok (.iload 4, 2) := by decide +kernel
theorem dL_law_395 : decode cL_law 395 = .ok (.iconst 1, 1) := by decide +kernel
theorem dL_law_396 : decode cL_law 396 = .ok (.iadd, 1) := by decide +kernel
theorem dL_law_397 : decode cL_law 397 = .ok (.iaload, 1) := by decide +kernel
theorem dL_law_398 : decode cL_law 398 = .ok (.aload_n 0, 1) := by decide +kernel
theorem dL_law_399 : decode cL_law 399 = .ok (.iload 4, 2) := by decide +kernel
theorem dL_law_401 : decode cL_law 401 = .ok (.iconst 2, 1) := by decide +kernel
theorem dL_law_402 : decode cL_law 402 = .ok (.iadd, 1) := by decide +kernel
theorem dL_law_403 : decode cL_law 403 = .ok (.iaload, 1) := by decide +kernel
theorem dL_law_404 : decode cL_law 404 = .ok (.invokevirtual 62, 3) := by decide +kernel
set_option maxRecDepth 50000 in
theorem lRL_62 : Cond.methodLink RL 62 yX12_energy ∈ qw_good := qw_g 1609 rfl rfl
theorem dL_law_407 : decode cL_law 407 = .ok (.istore 6, 2) := by decide +kernel
theorem dL_law_409 : decode cL_law 409 = .ok (.aload_n 2, 1) := by decide +kernel
theorem dL_law_410 : decode cL_law 410 = .ok (.invokevirtual 57, 3) := by decide +kernel
theorem dL_law_413 : decode cL_law 413 = .ok (.iload 5, 2) := by decide +kernel
theorem dL_law_415 : decode cL_law 415 = .ok (.if_icmp .eq 5, 3) := by decide +kernel
theorem dL_law_420 : decode cL_law 420 = .ok (.iload 5, 2) := by decide +kernel
theorem dL_law_422 : decode cL_law 422 = .ok (.ifCond .ne 15, 3) := by decide +kernel
theorem dL_law_425 : decode cL_law 425 = .ok (.aload_n 3, 1) := by decide +kernel
theorem dL_law_426 : decode cL_law 426 = .ok (.iconst 0, 1) := by decide +kernel
theorem dL_law_427 : decode cL_law 427 = .ok (.laload, 1) := by decide +kernel
theorem dL_law_428 : decode cL_law 428 = .ok (.iload 6, 2) := by decide +kernel
theorem dL_law_430 : decode cL_law 430 = .ok (.i2l, 1) := by decide +kernel
theorem dL_law_431 : decode cL_law 431 = .ok (.lcmp, 1) := by decide +kernel
theorem dL_law_432 : decode cL_law 432 = .ok (.ifCond .eq 5, 3) := by decide +kernel
theorem dL_law_437 : decode cL_law 437 = .ok (.goto 769, 3) := by decide +kernel
theorem dL_law_440 : decode cL_law 440 = .ok (.aload_n 1, 1) := by decide +kernel
theorem dL_law_441 : decode cL_law 441 = .ok (.aload_n 0, 1) := by decide +kernel
theorem dL_law_442 : decode cL_law 442 = .ok (.iload 4, 2) := by decide +kernel
theorem dL_law_444 : decode cL_law 444 = .ok (.iconst 1, 1) := by decide +kernel
theorem dL_law_445 : decode cL_law 445 = .ok (.iadd, 1) := by decide +kernel
theorem dL_law_446 : decode cL_law 446 = .ok (.iaload, 1) := by decide +kernel
theorem dL_law_447 : decode cL_law 447 = .ok (.aload_n 0, 1) := by decide +kernel
theorem dL_law_448 : decode cL_law 448 = .ok (.iload 4, 2) := by decide +kernel
theorem dL_law_450 : decode cL_law 450 = .ok (.iconst 2, 1) := by decide +kernel
theorem dL_law_451 : decode cL_law 451 = .ok (.iadd, 1) := by decide +kernel
theorem dL_law_452 : decode cL_law 452 = .ok (.iaload, 1) := by decide +kernel
theorem dL_law_453 : decode cL_law 453 = .ok (.aload_n 0, 1) := by decide +kernel
theorem dL_law_454 : decode cL_law 454 = .ok (.iload 4, 2) := by decide +kernel
theorem dL_law_456 : decode cL_law 456 = .ok (.iconst 3, 1) := by decide +kernel
theorem dL_law_457 : decode cL_law 457 = .ok (.iadd, 1) := by decide +kernel
theorem dL_law_458 : decode cL_law 458 = .ok (.iaload, 1) := by decide +kernel
theorem dL_law_459 : decode cL_law 459 = .ok (.aload_n 3, 1) := by decide +kernel
theorem dL_law_460 : decode cL_law 460 = .ok (.invokestatic 63, 3) := by decide +kernel
set_option maxRecDepth 50000 in
theorem lRL_63 : Cond.methodLink RL 63 yL_gives ∈ qw_good := qw_g 1222 rfl rfl
theorem dL_law_463 : decode cL_law 463 = .ok (.istore 5, 2) := by decide +kernel
theorem dL_law_465 : decode cL_law 465 = .ok (.aload_n 2, 1) := by decide +kernel
theorem dL_law_466 : decode cL_law 466 = .ok (.aload_n 0, 1) := by decide +kernel
theorem dL_law_467 : decode cL_law 467 = .ok (.iload 4, 2) := by decide +kernel
theorem dL_law_469 : decode cL_law 469 = .ok (.iconst 1, 1) := by decide +kernel
theorem dL_law_470 : decode cL_law 470 = .ok (.iadd, 1) := by decide +kernel
theorem dL_law_471 : decode cL_law 471 = .ok (.iaload, 1) := by decide +kernel
theorem dL_law_472 : decode cL_law 472 = .ok (.aload_n 0, 1) := by decide +kernel
theorem dL_law_473 : decode cL_law 473 = .ok (.iload 4, 2) := by decide +kernel
theorem dL_law_475 : decode cL_law 475 = .ok (.iconst 2, 1) := by decide +kernel
theorem dL_law_476 : decode cL_law 476 = .ok (.iadd, 1) := by decide +kernel
theorem dL_law_477 : decode cL_law 477 = .ok (.iaload, 1) := by decide +kernel
theorem dL_law_478 : decode cL_law 478 = .ok (.aload_n 0, 1) := by decide +kernel
theorem dL_law_479 : decode cL_law 479 = .ok (.iload 4, 2) := by decide +kernel
theorem dL_law_481 : decode cL_law 481 = .ok (.iconst 3, 1) := by decide +kernel
theorem dL_law_482 : decode cL_law 482 = .ok (.iadd, 1) := by decide +kernel
theorem dL_law_483 : decode cL_law 483 = .ok (.iaload, 1) := by decide +kernel
theorem dL_law_484 : decode cL_law 484 = .ok (.invokevirtual 66, 3) := by decide +kernel
set_option maxRecDepth 50000 in
theorem lRL_66 : Cond.methodLink RL 66 yX12_gives ∈ qw_good := qw_g 1633 rfl rfl
theorem dL_law_487 : decode cL_law 487 = .ok (.istore 6, 2) := by decide +kernel
theorem dL_law_489 : decode cL_law 489 = .ok (.aload_n 2, 1) := by decide +kernel
theorem dL_law_490 : decode cL_law 490 = .ok (.invokevirtual 57, 3) := by decide +kernel
theorem dL_law_493 : decode cL_law 493 = .ok (.iload 5, 2) := by decide +kernel
theorem dL_law_495 : decode cL_law 495 = .ok (.if_icmp .eq 5, 3) := by decide +kernel
theorem dL_law_500 : decode cL_law 500 = .ok (.iload 5, 2) := by decide +kernel
theorem dL_law_502 : decode cL_law 502 = .ok (.ifCond .ne 15, 3) := by decide +kernel
theorem dL_law_505 : decode cL_law 505 = .ok (.aload_n 3, 1) := by decide +kernel
theorem dL_law_506 : decode cL_law 506 = .ok (.iconst 0, 1) := by decide +kernel
theorem dL_law_507 : decode cL_law 507 = .ok (.laload, 1) := by decide +kernel
theorem dL_law_508 : decode cL_law 508 = .ok (.iload 6, 2) := by decide +kernel
theorem dL_law_510 : decode cL_law 510 = .ok (.i2l, 1) := by decide +kernel
theorem dL_law_511 : decode cL_law 511 = .ok (.lcmp, 1) := by decide +kernel
theorem dL_law_512 : decode cL_law 512 = .ok (.ifCond .eq 5, 3) := by decide +kernel
theorem dL_law_517 : decode cL_law 517 = .ok (.goto 689, 3) := by decide +kernel
theorem dL_law_520 : decode cL_law 520 = .ok (.aload_n 1, 1) := by decide +kernel
theorem dL_law_521 : decode cL_law 521 = .ok (.aload_n 0, 1) := by decide +kernel
theorem dL_law_522 : decode cL_law 522 = .ok (.iload 4, 2) := by decide +kernel
theorem dL_law_524 : decode cL_law 524 = .ok (.iconst 1, 1) := by decide +kernel
theorem dL_law_525 : decode cL_law 525 = .ok (.iadd, 1) := by decide +kernel
theorem dL_law_526 : decode cL_law 526 = .ok (.iaload, 1) := by decide +kernel
theorem dL_law_527 : decode cL_law 527 = .ok (.aload_n 0, 1) := by decide +kernel
theorem dL_law_528 : decode cL_law 528 = .ok (.iload 4, 2) := by decide +kernel
theorem dL_law_530 : decode cL_law 530 = .ok (.iconst 2, 1) := by decide +kernel
theorem dL_law_531 : decode cL_law 531 = .ok (.iadd, 1) := by decide +kernel
theorem dL_law_532 : decode cL_law 532 = .ok (.iaload, 1) := by decide +kernel
theorem dL_law_533 : decode cL_law 533 = .ok (.aload_n 3, 1) := by decide +kernel
theorem dL_law_534 : decode cL_law 534 = .ok (.invokestatic 67, 3) := by decide +kernel
set_option maxRecDepth 50000 in
theorem lRL_67 : Cond.methodLink RL 67 yL_sum ∈ qw_good := qw_g 1231 rfl rfl
theorem dL_law_537 : decode cL_law 537 = .ok (.istore 5, 2) := by decide +kernel
theorem dL_law_539 : decode cL_law 539 = .ok (.aload_n 2, 1) := by decide +kernel
theorem dL_law_540 : decode cL_law 540 = .ok (.aload_n 0, 1) := by decide +kernel
theorem dL_law_541 : decode cL_law 541 = .ok (.iload 4, 2) := by decide +kernel
theorem dL_law_543 : decode cL_law 543 = .ok (.iconst 1, 1) := by decide +kernel
theorem dL_law_544 : decode cL_law 544 = .ok (.iadd, 1) := by decide +kernel
theorem dL_law_545 : decode cL_law 545 = .ok (.iaload, 1) := by decide +kernel
theorem dL_law_546 : decode cL_law 546 = .ok (.aload_n 0, 1) := by decide +kernel
theorem dL_law_547 : decode cL_law 547 = .ok (.iload 4, 2) := by decide +kernel
theorem dL_law_549 : decode cL_law 549 = .ok (.iconst 2, 1) := by decide +kernel
theorem dL_law_550 : decode cL_law 550 = .ok (.iadd, 1) := by decide +kernel
theorem dL_law_551 : decode cL_law 551 = .ok (.iaload, 1) := by decide +kernel
theorem dL_law_552 : decode cL_law 552 = .ok (.invokevirtual 69, 3) := by decide +kernel
set_option maxRecDepth 50000 in
theorem lRL_69 : Cond.methodLink RL 69 yX12_sum ∈ qw_good := qw_g 1644 rfl rfl
theorem dL_law_555 : decode cL_law 555 = .ok (.istore 6, 2) := by decide +kernel
theorem dL_law_557 : decode cL_law 557 = .ok (.aload_n 2, 1) := by decide +kernel
theorem dL_law_558 : decode cL_law 558 = .ok (.invokevirtual 57, 3) := by decide +kernel
theorem dL_law_561 : decode cL_law 561 = .ok (.iload 5, 2) := by decide +kernel
theorem dL_law_563 : decode cL_law 563 = .ok (.if_icmp .eq 5, 3) := by decide +kernel
theorem dL_law_568 : decode cL_law 568 = .ok (.iload 5, 2) := by decide +kernel
theorem dL_law_570 : decode cL_law 570 = .ok (.ifCond .ne 15, 3) := by decide +kernel
theorem dL_law_573 : decode cL_law 573 = .ok (.aload_n 3, 1) := by decide +kernel
theorem dL_law_574 : decode cL_law 574 = .ok (.iconst 0, 1) := by decide +kernel
theorem dL_law_575 : decode cL_law 575 = .ok (.laload, 1) := by decide +kernel
theorem dL_law_576 : decode cL_law 576 = .ok (.iload 6, 2) := by decide +kernel
theorem dL_law_578 : decode cL_law 578 = .ok (.i2l, 1) := by decide +kernel
theorem dL_law_579 : decode cL_law 579 = .ok (.lcmp, 1) := by decide +kernel
theorem dL_law_580 : decode cL_law 580 = .ok (.ifCond .eq 5, 3) := by decide +kernel
theorem dL_law_585 : decode cL_law 585 = .ok (.goto 621, 3) := by decide +kernel
set_option maxHeartbeats 4000000 in
set_option maxRecDepth 100000 in
theorem lc_0 {G : GT} {L : Nat} {xs : Nat → Int32} {i : Nat} (hi : i + 6 ≤ L) (hL : L ≤ 3072) {h : PH} (inv : Inv h) (rm : LwR h) (kk : ∀ h2, Inv h2 → Rm h h2 → LwE G L xs 1206 i h2) : LwE G L xs 180 i h := by
  refine x_aload_n (pc := 180) dL_law_180 rfl ?_
  refine x_aload_n (pc := 181) dL_law_181 rfl ?_
  refine x_iload (pc := 182) dL_law_182 rfl ?_
  refine x_iconst (v := 1) (pc := 184) dL_law_184 (by decide) ?_
  refine x_iadd (pc := 185) dL_law_185 ?_
  refine x_sld (pc := 186) dL_law_186 (sc_in 1 rfl (by omega) hL) ?_
  refine x_aload_n (pc := 187) dL_law_187 rfl ?_
  refine x_iload (pc := 188) dL_law_188 rfl ?_
  refine x_iconst (v := 2) (pc := 190) dL_law_190 (by decide) ?_
  refine x_iadd (pc := 191) dL_law_191 ?_
  refine x_sld (pc := 192) dL_law_192 (sc_in 2 rfl (by omega) hL) ?_
  refine x_aload_n (pc := 193) dL_law_193 rfl ?_
  refine x_iload (pc := 194) dL_law_194 rfl ?_
  refine x_iconst (v := 3) (pc := 196) dL_law_196 (by decide) ?_
  refine x_iadd (pc := 197) dL_law_197 ?_
  refine x_sld (pc := 198) dL_law_198 (sc_in 3 rfl (by omega) hL) ?_
  refine x_aload_n (pc := 199) dL_law_199 rfl ?_
  refine x_iload (pc := 200) dL_law_200 rfl ?_
  refine x_iconst (v := 4) (pc := 202) dL_law_202 (by decide) ?_
  refine x_iadd (pc := 203) dL_law_203 ?_
  refine x_sld (pc := 204) dL_law_204 (sc_in 4 rfl (by omega) hL) ?_
  refine x_aload_n (pc := 205) dL_law_205 rfl ?_
  refine x_iload (pc := 206) dL_law_206 rfl ?_
  refine x_iconst (v := 5) (pc := 208) dL_law_208 (by decide) ?_
  refine x_iadd (pc := 209) dL_law_209 ?_
  refine x_sld (pc := 210) dL_law_210 (sc_in 5 rfl (by omega) hL) ?_
  refine x_invV (As := [.int (xs (nI i + 1).toNatClampNeg), .int (xs (nI i + 2).toNatClampNeg), .int (xs (nI i + 3).toNatClampNeg), .int (xs (nI i + 4).toNatClampNeg), .int (xs (nI i + 5).toNatClampNeg)]) (st := []) (pc := 211) dL_law_211 lRL_32 fX11_feed vX11_feed inv.k0 rfl (Nat.le_of_ble_eq_true rfl) ⟨by decide, by decide⟩ (lw_C ⟨by have := rm.1; omega, by have := rm.2; omega⟩ (by decide) (by decide)) (sn_X11_feed G 0 0 (xs (nI i + 1).toNatClampNeg) (xs (nI i + 2).toNatClampNeg) (xs (nI i + 3).toNatClampNeg) (xs (nI i + 4).toNatClampNeg) (xs (nI i + 5).toNatClampNeg) h _ inv.k0 (op_feed inv (xs (nI i + 1).toNatClampNeg) (xs (nI i + 2).toNatClampNeg) (xs (nI i + 3).toNatClampNeg) (xs (nI i + 4).toNatClampNeg) (xs (nI i + 5).toNatClampNeg))) (k_i (fun r1 h1 hwp cx1 => ?_))
  have rm1 : qn h1 ≤ 10000 ∧ qz h1 ≤ 1000000 := ⟨by have := rm.1; have := cx1.2.1; omega, by have := rm.2; have := cx1.2.2; omega⟩
  have ok70 := inv.k70.ex cx1.1
  refine x_aload_n (pc := 214) dL_law_214 rfl ?_
  refine x_aload_n (pc := 215) dL_law_215 rfl ?_
  refine x_iload (pc := 216) dL_law_216 rfl ?_
  refine x_iconst (v := 1) (pc := 218) dL_law_218 (by decide) ?_
  refine x_iadd (pc := 219) dL_law_219 ?_
  refine x_sld (pc := 220) dL_law_220 (sc_in 1 rfl (by omega) hL) ?_
  refine x_aload_n (pc := 221) dL_law_221 rfl ?_
  refine x_iload (pc := 222) dL_law_222 rfl ?_
  refine x_iconst (v := 2) (pc := 224) dL_law_224 (by decide) ?_
  refine x_iadd (pc := 225) dL_law_225 ?_
  refine x_sld (pc := 226) dL_law_226 (sc_in 2 rfl (by omega) hL) ?_
  refine x_aload_n (pc := 227) dL_law_227 rfl ?_
  refine x_iload (pc := 228) dL_law_228 rfl ?_
  refine x_iconst (v := 3) (pc := 230) dL_law_230 (by decide) ?_
  refine x_iadd (pc := 231) dL_law_231 ?_
  refine x_sld (pc := 232) dL_law_232 (sc_in 3 rfl (by omega) hL) ?_
  refine x_aload_n (pc := 233) dL_law_233 rfl ?_
  refine x_iload (pc := 234) dL_law_234 rfl ?_
  refine x_iconst (v := 4) (pc := 236) dL_law_236 (by decide) ?_
  refine x_iadd (pc := 237) dL_law_237 ?_
  refine x_sld (pc := 238) dL_law_238 (sc_in 4 rfl (by omega) hL) ?_
  refine x_aload_n (pc := 239) dL_law_239 rfl ?_
  refine x_iload (pc := 240) dL_law_240 rfl ?_
  refine x_iconst (v := 5) (pc := 242) dL_law_242 (by decide) ?_
  refine x_iadd (pc := 243) dL_law_243 ?_
  refine x_sld (pc := 244) dL_law_244 (sc_in 5 rfl (by omega) hL) ?_
  refine x_invV (As := [.int (xs (nI i + 1).toNatClampNeg), .int (xs (nI i + 2).toNatClampNeg), .int (xs (nI i + 3).toNatClampNeg), .int (xs (nI i + 4).toNatClampNeg), .int (xs (nI i + 5).toNatClampNeg)]) (st := [.int r1]) (pc := 245) dL_law_245 lRL_36 fX12_feed vX12_feed ok70 rfl (Nat.le_of_ble_eq_true rfl) ⟨by decide, by decide⟩ (lw_C rm1 (by decide) (by decide)) (sn_X12_feed G 0 70 (xs (nI i + 1).toNatClampNeg) (xs (nI i + 2).toNatClampNeg) (xs (nI i + 3).toNatClampNeg) (xs (nI i + 4).toNatClampNeg) (xs (nI i + 5).toNatClampNeg) h1 _ ok70 hwp) (k_i (fun r2 h2 both cx2 => ?_))
  exact x_icmp_eq (tgt := 1206) (pc := 248) dL_law_248 (by decide) (fun _ => kk h2 both.2.1 both.2.2) (fun c => absurd both.1 c)

set_option maxHeartbeats 4000000 in
set_option maxRecDepth 100000 in
theorem lc_1 {G : GT} {L : Nat} {xs : Nat → Int32} {i : Nat} (hi : i + 6 ≤ L) (hL : L ≤ 3072) {h : PH} (inv : Inv h) (rm : LwR h) (kk : ∀ h2, Inv h2 → Rm h h2 → LwE G L xs 1206 i h2) : LwE G L xs 253 i h := by
  refine x_aload_n (pc := 253) dL_law_253 rfl ?_
  refine x_aload_n (pc := 254) dL_law_254 rfl ?_
  refine x_iload (pc := 255) dL_law_255 rfl ?_
  refine x_iconst (v := 1) (pc := 257) dL_law_257 (by decide) ?_
  refine x_iadd (pc := 258) dL_law_258 ?_
  refine x_sld (pc := 259) dL_law_259 (sc_in 1 rfl (by omega) hL) ?_
  refine x_invV (As := [.int (xs (nI i + 1).toNatClampNeg)]) (st := []) (pc := 260) dL_law_260 lRL_37 fX11_end vX11_end inv.k0 rfl (Nat.le_of_ble_eq_true rfl) ⟨by decide, by decide⟩ (lw_C ⟨by have := rm.1; omega, by have := rm.2; omega⟩ (by decide) (by decide)) (sn_X11_end G 0 0 (xs (nI i + 1).toNatClampNeg) h _ inv.k0 (op_end inv (xs (nI i + 1).toNatClampNeg))) (k_b (fun r1 h1 hwp _ cx1 => ?_))
  have rm1 : qn h1 ≤ 10000 ∧ qz h1 ≤ 1000000 := ⟨by have := rm.1; have := cx1.2.1; omega, by have := rm.2; have := cx1.2.2; omega⟩
  have ok70 := inv.k70.ex cx1.1
  refine x_aload_n (pc := 263) dL_law_263 rfl ?_
  refine x_aload_n (pc := 264) dL_law_264 rfl ?_
  refine x_iload (pc := 265) dL_law_265 rfl ?_
  refine x_iconst (v := 1) (pc := 267) dL_law_267 (by decide) ?_
  refine x_iadd (pc := 268) dL_law_268 ?_
  refine x_sld (pc := 269) dL_law_269 (sc_in 1 rfl (by omega) hL) ?_
  refine x_invV (As := [.int (xs (nI i + 1).toNatClampNeg)]) (st := [.int r1]) (pc := 270) dL_law_270 lRL_41 fX12_end vX12_end ok70 rfl (Nat.le_of_ble_eq_true rfl) ⟨by decide, by decide⟩ (lw_C rm1 (by decide) (by decide)) (sn_X12_end G 0 70 (xs (nI i + 1).toNatClampNeg) h1 _ ok70 hwp) (k_b (fun r2 h2 both _ cx2 => ?_))
  exact x_icmp_eq (tgt := 1206) (pc := 273) dL_law_273 (by decide) (fun _ => kk h2 both.2.1 both.2.2) (fun c => absurd both.1 c)

set_option maxHeartbeats 4000000 in
set_option maxRecDepth 100000 in
theorem lc_2 {G : GT} {L : Nat} {xs : Nat → Int32} {i : Nat} (hi : i + 6 ≤ L) (hL : L ≤ 3072) {h : PH} (inv : Inv h) (rm : LwR h) (kk : ∀ h2, Inv h2 → Rm h h2 → LwE G L xs 1206 i h2) : LwE G L xs 278 i h := by
  refine x_aload_n (pc := 278) dL_law_278 rfl ?_
  refine x_invV (As := []) (st := []) (pc := 279) dL_law_279 lRL_42 fX11_drawing vX11_drawing inv.k0 rfl (Nat.le_of_ble_eq_true rfl) ⟨by decide, by decide⟩ (lw_C ⟨by have := rm.1; omega, by have := rm.2; omega⟩ (by decide) (by decide)) (sn_X11_drawing G 0 0  h _ inv.k0 (op_drawing inv )) (k_i (fun r1 h1 hwp cx1 => ?_))
  have rm1 : qn h1 ≤ 10000 ∧ qz h1 ≤ 1000000 := ⟨by have := rm.1; have := cx1.2.1; omega, by have := rm.2; have := cx1.2.2; omega⟩
  have ok70 := inv.k70.ex cx1.1
  refine x_aload_n (pc := 282) dL_law_282 rfl ?_
  refine x_invV (As := []) (st := [.int r1]) (pc := 283) dL_law_283 lRL_46 fX12_drawing vX12_drawing ok70 rfl (Nat.le_of_ble_eq_true rfl) ⟨by decide, by decide⟩ (lw_C rm1 (by decide) (by decide)) (sn_X12_drawing G 0 70  h1 _ ok70 hwp) (k_i (fun r2 h2 both cx2 => ?_))
  exact x_icmp_eq (tgt := 1206) (pc := 286) dL_law_286 (by decide) (fun _ => kk h2 both.2.1 both.2.2) (fun c => absurd both.1 c)

set_option maxHeartbeats 4000000 in
set_option maxRecDepth 100000 in
theorem lc_3 {G : GT} {L : Nat} {xs : Nat → Int32} {i : Nat} (hi : i + 6 ≤ L) (hL : L ≤ 3072) {h : PH} (inv : Inv h) (rm : LwR h) (kk : ∀ h2, Inv h2 → Rm h h2 → LwE G L xs 1206 i h2) : LwE G L xs 291 i h := by
  refine x_aload_n (pc := 291) dL_law_291 rfl ?_
  refine x_invV (As := []) (st := []) (pc := 292) dL_law_292 lRL_47 fX11_fault vX11_fault inv.k0 rfl (Nat.le_of_ble_eq_true rfl) ⟨by decide, by decide⟩ (lw_C ⟨by have := rm.1; omega, by have := rm.2; omega⟩ (by decide) (by decide)) (sn_X11_fault G 0 0  h _ inv.k0 (op_fault inv )) (k_i (fun r1 h1 hwp cx1 => ?_))
  have rm1 : qn h1 ≤ 10000 ∧ qz h1 ≤ 1000000 := ⟨by have := rm.1; have := cx1.2.1; omega, by have := rm.2; have := cx1.2.2; omega⟩
  have ok70 := inv.k70.ex cx1.1
  refine x_aload_n (pc := 295) dL_law_295 rfl ?_
  refine x_invV (As := []) (st := [.int r1]) (pc := 296) dL_law_296 lRL_50 fX12_fault vX12_fault ok70 rfl (Nat.le_of_ble_eq_true rfl) ⟨by decide, by decide⟩ (lw_C rm1 (by decide) (by decide)) (sn_X12_fault G 0 70  h1 _ ok70 hwp) (k_i (fun r2 h2 both cx2 => ?_))
  exact x_icmp_eq (tgt := 1206) (pc := 299) dL_law_299 (by decide) (fun _ => kk h2 both.2.1 both.2.2) (fun c => absurd both.1 c)

set_option maxHeartbeats 4000000 in
set_option maxRecDepth 100000 in
theorem lc_4 {G : GT} {L : Nat} {xs : Nat → Int32} {i : Nat} (hi : i + 6 ≤ L) (hL : L ≤ 3072) {h : PH} (inv : Inv h) (rm : LwR h) (kk : ∀ h2, Inv h2 → Rm h h2 → LwE G L xs 1206 i h2) : LwE G L xs 304 i h := by
  refine x_aload_n (pc := 304) dL_law_304 rfl ?_
  refine x_aload_n (pc := 305) dL_law_305 rfl ?_
  refine x_iload (pc := 306) dL_law_306 rfl ?_
  refine x_iconst (v := 1) (pc := 308) dL_law_308 (by decide) ?_
  refine x_iadd (pc := 309) dL_law_309 ?_
  refine x_sld (pc := 310) dL_law_310 (sc_in 1 rfl (by omega) hL) ?_
  refine x_aload_n (pc := 311) dL_law_311 rfl ?_
  refine x_iload (pc := 312) dL_law_312 rfl ?_
  refine x_iconst (v := 2) (pc := 314) dL_law_314 (by decide) ?_
  refine x_iadd (pc := 315) dL_law_315 ?_
  refine x_sld (pc := 316) dL_law_316 (sc_in 2 rfl (by omega) hL) ?_
  refine x_aload_n (pc := 317) dL_law_317 rfl ?_
  rcases op_place inv (by have := rm.1; omega) (xs (nI i + 1).toNatClampNeg) (xs (nI i + 2).toNatClampNeg) with hw | hw
  · refine x_invSH (As := [.ref 0, .int (xs (nI i + 1).toNatClampNeg), .int (xs (nI i + 2).toNatClampNeg), .ref 92]) (st := []) (pc := 318) dL_law_318 lRL_51 cwL_place itRL dsL_place sL_place rfl (Nat.le_of_ble_eq_true rfl) ⟨by decide, by decide⟩ (lw_C ⟨by have := rm.1; omega, by have := rm.2; omega⟩ (by decide) (by decide)) (sn_L_place G 0 0 (xs (nI i + 1).toNatClampNeg) (xs (nI i + 2).toNatClampNeg) 92 h _ inv.k0 inv.k92 hw) ZL.th (k_i (fun r1 h1 hwp cx1 => ?_))
    have rm1 : qn h1 ≤ 10000 ∧ qz h1 ≤ 1000000 := ⟨by have := rm.1; have := cx1.2.1; omega, by have := rm.2; have := cx1.2.2; omega⟩
    have ok70 := inv.k70.ex cx1.1
    obtain ⟨r0, hwp⟩ := hwp
    refine x_istore (lv2 := [(5, .int r1), (4, .int (nI i)), (3, .ref 92), (2, .ref 70), (1, .ref 0), (0, .ref (wd 35))]) (pc := 321) dL_law_321 (by decide) rfl ?_
    refine x_aload_n (pc := 323) dL_law_323 rfl ?_
    refine x_aload_n (pc := 324) dL_law_324 rfl ?_
    refine x_iload (pc := 325) dL_law_325 rfl ?_
    refine x_iconst (v := 1) (pc := 327) dL_law_327 (by decide) ?_
    refine x_iadd (pc := 328) dL_law_328 ?_
    refine x_sld (pc := 329) dL_law_329 (sc_in 1 rfl (by omega) hL) ?_
    refine x_aload_n (pc := 330) dL_law_330 rfl ?_
    refine x_iload (pc := 331) dL_law_331 rfl ?_
    refine x_iconst (v := 2) (pc := 333) dL_law_333 (by decide) ?_
    refine x_iadd (pc := 334) dL_law_334 ?_
    refine x_sld (pc := 335) dL_law_335 (sc_in 2 rfl (by omega) hL) ?_
    refine x_invV (As := [.int (xs (nI i + 1).toNatClampNeg), .int (xs (nI i + 2).toNatClampNeg)]) (st := []) (pc := 336) dL_law_336 lRL_56 fX12_place vX12_place ok70 rfl (Nat.le_of_ble_eq_true rfl) ⟨by decide, by decide⟩ (lw_C rm1 (by decide) (by decide)) (sn_X12_place G 0 70 (xs (nI i + 1).toNatClampNeg) (xs (nI i + 2).toNatClampNeg) h1 _ ok70 hwp) (k_i (fun r2 h2 both cx2 => ?_))
    refine x_istore (lv2 := [(6, .int r2), (5, .int r1), (4, .int (nI i)), (3, .ref 92), (2, .ref 70), (1, .ref 0), (0, .ref (wd 35))]) (pc := 339) dL_law_339 (by decide) rfl ?_
    refine x_aload_n (pc := 341) dL_law_341 rfl ?_
    have ok70 := ok70.ex cx2.1
    have rm2 : qn h2 ≤ 10000 ∧ qz h2 ≤ 1000000 := ⟨by have := rm.1; have := cx1.2.1; have := cx2.2.1; omega, by have := rm.2; have := cx1.2.2; have := cx2.2.2; omega⟩
    refine x_invV (As := []) (st := []) (pc := 342) dL_law_342 lRL_57 fX12_thrown vX12_thrown ok70 rfl (Nat.le_of_ble_eq_true rfl) ⟨by decide, by decide⟩ (lw_C rm2 (by decide) (by decide)) (sn_X12_thrown G 0 70 h2 _ ok70 both) (k_i (fun r3 h3 fin cx3 => ?_))
    obtain ⟨f1, f2, inv3, rm3⟩ := fin
    refine x_iload (pc := 345) dL_law_345 rfl ?_
    refine x_icmp_eq (tgt := 352) (pc := 347) dL_law_347 (by decide) (fun _ => ?_) (fun c => absurd f1 c)
    refine x_iload (pc := 352) dL_law_352 rfl ?_
    refine x_if_ne (tgt := 369) (pc := 354) dL_law_354 (by decide) (fun c => absurd r0 c) (fun _ => ?_)
    refine x_aload_n (pc := 357) dL_law_357 rfl ?_
    refine x_iconst (v := 0) (pc := 358) dL_law_358 (by decide) ?_
    refine x_laload (pc := 359) dL_law_359 inv3.k92 (o_in inv3) ?_
    refine x_iload (pc := 360) dL_law_360 rfl ?_
    refine x_i2l (pc := 362) dL_law_362 ?_
    refine x_lcmp (pc := 363) dL_law_363 ?_
    refine x_if_eq (tgt := 369) (pc := 364) dL_law_364 (by decide) (fun _ => ?_) (fun c => absurd ((lg_cmp_eq _ _).mpr (f2 r0)) c)
    refine x_goto (tgt := 1206) (pc := 369) dL_law_369 (by decide) ?_
    exact x_sub [2, 3, 4, 5, 6] rfl (kk h3 inv3 rm3)
  · refine x_invSH (As := [.ref 0, .int (xs (nI i + 1).toNatClampNeg), .int (xs (nI i + 2).toNatClampNeg), .ref 92]) (st := []) (pc := 318) dL_law_318 lRL_51 cwL_place itRL dsL_place sL_place rfl (Nat.le_of_ble_eq_true rfl) ⟨by decide, by decide⟩ (lw_C ⟨by have := rm.1; omega, by have := rm.2; omega⟩ (by decide) (by decide)) (sx_L_place G 0 0 (xs (nI i + 1).toNatClampNeg) (xs (nI i + 2).toNatClampNeg) 92 h _ inv.k0 inv.k92 hw) ZL.th (k_i (fun r1 h1 hwp cx1 => ?_))
    have rm1 : qn h1 ≤ 10000 ∧ qz h1 ≤ 1000000 := ⟨by have := rm.1; have := cx1.2.1; omega, by have := rm.2; have := cx1.2.2; omega⟩
    have ok70 := inv.k70.ex cx1.1
    obtain ⟨r0, hwp⟩ := hwp
    refine x_istore (lv2 := [(5, .int r1), (4, .int (nI i)), (3, .ref 92), (2, .ref 70), (1, .ref 0), (0, .ref (wd 35))]) (pc := 321) dL_law_321 (by decide) rfl ?_
    refine x_aload_n (pc := 323) dL_law_323 rfl ?_
    refine x_aload_n (pc := 324) dL_law_324 rfl ?_
    refine x_iload (pc := 325) dL_law_325 rfl ?_
    refine x_iconst (v := 1) (pc := 327) dL_law_327 (by decide) ?_
    refine x_iadd (pc := 328) dL_law_328 ?_
    refine x_sld (pc := 329) dL_law_329 (sc_in 1 rfl (by omega) hL) ?_
    refine x_aload_n (pc := 330) dL_law_330 rfl ?_
    refine x_iload (pc := 331) dL_law_331 rfl ?_
    refine x_iconst (v := 2) (pc := 333) dL_law_333 (by decide) ?_
    refine x_iadd (pc := 334) dL_law_334 ?_
    refine x_sld (pc := 335) dL_law_335 (sc_in 2 rfl (by omega) hL) ?_
    refine x_invV (As := [.int (xs (nI i + 1).toNatClampNeg), .int (xs (nI i + 2).toNatClampNeg)]) (st := []) (pc := 336) dL_law_336 lRL_56 fX12_place vX12_place ok70 rfl (Nat.le_of_ble_eq_true rfl) ⟨by decide, by decide⟩ (lw_C rm1 (by decide) (by decide)) (sn_X12_place G 0 70 (xs (nI i + 1).toNatClampNeg) (xs (nI i + 2).toNatClampNeg) h1 _ ok70 hwp) (k_i (fun r2 h2 both cx2 => ?_))
    refine x_istore (lv2 := [(6, .int r2), (5, .int r1), (4, .int (nI i)), (3, .ref 92), (2, .ref 70), (1, .ref 0), (0, .ref (wd 35))]) (pc := 339) dL_law_339 (by decide) rfl ?_
    refine x_aload_n (pc := 341) dL_law_341 rfl ?_
    have ok70 := ok70.ex cx2.1
    have rm2 : qn h2 ≤ 10000 ∧ qz h2 ≤ 1000000 := ⟨by have := rm.1; have := cx1.2.1; have := cx2.2.1; omega, by have := rm.2; have := cx1.2.2; have := cx2.2.2; omega⟩
    refine x_invV (As := []) (st := []) (pc := 342) dL_law_342 lRL_57 fX12_thrown vX12_thrown ok70 rfl (Nat.le_of_ble_eq_true rfl) ⟨by decide, by decide⟩ (lw_C rm2 (by decide) (by decide)) (sn_X12_thrown G 0 70 h2 _ ok70 both) (k_i (fun r3 h3 fin cx3 => ?_))
    obtain ⟨f1, f2, inv3, rm3⟩ := fin
    refine x_iload (pc := 345) dL_law_345 rfl ?_
    refine x_icmp_eq (tgt := 352) (pc := 347) dL_law_347 (by decide) (fun _ => ?_) (fun c => absurd f1 c)
    refine x_iload (pc := 352) dL_law_352 rfl ?_
    refine x_if_ne (tgt := 369) (pc := 354) dL_law_354 (by decide) (fun _ => ?_) (fun c => absurd (r0.symm.trans c) (by decide))
    refine x_goto (tgt := 1206) (pc := 369) dL_law_369 (by decide) ?_
    exact x_sub [2, 3, 4, 5, 6] rfl (kk h3 inv3 rm3)

set_option maxHeartbeats 4000000 in
set_option maxRecDepth 100000 in
theorem lc_5 {G : GT} {L : Nat} {xs : Nat → Int32} {i : Nat} (hi : i + 6 ≤ L) (hL : L ≤ 3072) {h : PH} (inv : Inv h) (rm : LwR h) (kk : ∀ h2, Inv h2 → Rm h h2 → LwE G L xs 1206 i h2) : LwE G L xs 372 i h := by
  refine x_aload_n (pc := 372) dL_law_372 rfl ?_
  refine x_aload_n (pc := 373) dL_law_373 rfl ?_
  refine x_iload (pc := 374) dL_law_374 rfl ?_
  refine x_iconst (v := 1) (pc := 376) dL_law_376 (by decide) ?_
  refine x_iadd (pc := 377) dL_law_377 ?_
  refine x_sld (pc := 378) dL_law_378 (sc_in 1 rfl (by omega) hL) ?_
  refine x_aload_n (pc := 379) dL_law_379 rfl ?_
  refine x_iload (pc := 380) dL_law_380 rfl ?_
  refine x_iconst (v := 2) (pc := 382) dL_law_382 (by decide) ?_
  refine x_iadd (pc := 383) dL_law_383 ?_
  refine x_sld (pc := 384) dL_law_384 (sc_in 2 rfl (by omega) hL) ?_
  refine x_aload_n (pc := 385) dL_law_385 rfl ?_
  rcases op_energy inv (by have := rm.1; omega) (xs (nI i + 1).toNatClampNeg) (xs (nI i + 2).toNatClampNeg) with hw | hw
  · refine x_invSH (As := [.ref 0, .int (xs (nI i + 1).toNatClampNeg), .int (xs (nI i + 2).toNatClampNeg), .ref 92]) (st := []) (pc := 386) dL_law_386 lRL_60 cwL_energy itRL dsL_energy sL_energy rfl (Nat.le_of_ble_eq_true rfl) ⟨by decide, by decide⟩ (lw_C ⟨by have := rm.1; omega, by have := rm.2; omega⟩ (by decide) (by decide)) (sn_L_energy G 0 0 (xs (nI i + 1).toNatClampNeg) (xs (nI i + 2).toNatClampNeg) 92 h _ inv.k0 inv.k92 hw) ZL.th (k_i (fun r1 h1 hwp cx1 => ?_))
    have rm1 : qn h1 ≤ 10000 ∧ qz h1 ≤ 1000000 := ⟨by have := rm.1; have := cx1.2.1; omega, by have := rm.2; have := cx1.2.2; omega⟩
    have ok70 := inv.k70.ex cx1.1
    obtain ⟨r0, hwp⟩ := hwp
    refine x_istore (lv2 := [(5, .int r1), (4, .int (nI i)), (3, .ref 92), (2, .ref 70), (1, .ref 0), (0, .ref (wd 35))]) (pc := 389) dL_law_389 (by decide) rfl ?_
    refine x_aload_n (pc := 391) dL_law_391 rfl ?_
    refine x_aload_n (pc := 392) dL_law_392 rfl ?_
    refine x_iload (pc := 393) dL_law_393 rfl ?_
    refine x_iconst (v := 1) (pc := 395) dL_law_395 (by decide) ?_
    refine x_iadd (pc := 396) dL_law_396 ?_
    refine x_sld (pc := 397) dL_law_397 (sc_in 1 rfl (by omega) hL) ?_
    refine x_aload_n (pc := 398) dL_law_398 rfl ?_
    refine x_iload (pc := 399) dL_law_399 rfl ?_
    refine x_iconst (v := 2) (pc := 401) dL_law_401 (by decide) ?_
    refine x_iadd (pc := 402) dL_law_402 ?_
    refine x_sld (pc := 403) dL_law_403 (sc_in 2 rfl (by omega) hL) ?_
    refine x_invV (As := [.int (xs (nI i + 1).toNatClampNeg), .int (xs (nI i + 2).toNatClampNeg)]) (st := []) (pc := 404) dL_law_404 lRL_62 fX12_energy vX12_energy ok70 rfl (Nat.le_of_ble_eq_true rfl) ⟨by decide, by decide⟩ (lw_C rm1 (by decide) (by decide)) (sn_X12_energy G 0 70 (xs (nI i + 1).toNatClampNeg) (xs (nI i + 2).toNatClampNeg) h1 _ ok70 hwp) (k_i (fun r2 h2 both cx2 => ?_))
    refine x_istore (lv2 := [(6, .int r2), (5, .int r1), (4, .int (nI i)), (3, .ref 92), (2, .ref 70), (1, .ref 0), (0, .ref (wd 35))]) (pc := 407) dL_law_407 (by decide) rfl ?_
    refine x_aload_n (pc := 409) dL_law_409 rfl ?_
    have ok70 := ok70.ex cx2.1
    have rm2 : qn h2 ≤ 10000 ∧ qz h2 ≤ 1000000 := ⟨by have := rm.1; have := cx1.2.1; have := cx2.2.1; omega, by have := rm.2; have := cx1.2.2; have := cx2.2.2; omega⟩
    refine x_invV (As := []) (st := []) (pc := 410) dL_law_410 lRL_57 fX12_thrown vX12_thrown ok70 rfl (Nat.le_of_ble_eq_true rfl) ⟨by decide, by decide⟩ (lw_C rm2 (by decide) (by decide)) (sn_X12_thrown G 0 70 h2 _ ok70 both) (k_i (fun r3 h3 fin cx3 => ?_))
    obtain ⟨f1, f2, inv3, rm3⟩ := fin
    refine x_iload (pc := 413) dL_law_413 rfl ?_
    refine x_icmp_eq (tgt := 420) (pc := 415) dL_law_415 (by decide) (fun _ => ?_) (fun c => absurd f1 c)
    refine x_iload (pc := 420) dL_law_420 rfl ?_
    refine x_if_ne (tgt := 437) (pc := 422) dL_law_422 (by decide) (fun c => absurd r0 c) (fun _ => ?_)
    refine x_aload_n (pc := 425) dL_law_425 rfl ?_
    refine x_iconst (v := 0) (pc := 426) dL_law_426 (by decide) ?_
    refine x_laload (pc := 427) dL_law_427 inv3.k92 (o_in inv3) ?_
    refine x_iload (pc := 428) dL_law_428 rfl ?_
    refine x_i2l (pc := 430) dL_law_430 ?_
    refine x_lcmp (pc := 431) dL_law_431 ?_
    refine x_if_eq (tgt := 437) (pc := 432) dL_law_432 (by decide) (fun _ => ?_) (fun c => absurd ((lg_cmp_eq _ _).mpr (f2 r0)) c)
    refine x_goto (tgt := 1206) (pc := 437) dL_law_437 (by decide) ?_
    exact x_sub [2, 3, 4, 5, 6] rfl (kk h3 inv3 rm3)
  · refine x_invSH (As := [.ref 0, .int (xs (nI i + 1).toNatClampNeg), .int (xs (nI i + 2).toNatClampNeg), .ref 92]) (st := []) (pc := 386) dL_law_386 lRL_60 cwL_energy itRL dsL_energy sL_energy rfl (Nat.le_of_ble_eq_true rfl) ⟨by decide, by decide⟩ (lw_C ⟨by have := rm.1; omega, by have := rm.2; omega⟩ (by decide) (by decide)) (sx_L_energy G 0 0 (xs (nI i + 1).toNatClampNeg) (xs (nI i + 2).toNatClampNeg) 92 h _ inv.k0 inv.k92 hw) ZL.th (k_i (fun r1 h1 hwp cx1 => ?_))
    have rm1 : qn h1 ≤ 10000 ∧ qz h1 ≤ 1000000 := ⟨by have := rm.1; have := cx1.2.1; omega, by have := rm.2; have := cx1.2.2; omega⟩
    have ok70 := inv.k70.ex cx1.1
    obtain ⟨r0, hwp⟩ := hwp
    refine x_istore (lv2 := [(5, .int r1), (4, .int (nI i)), (3, .ref 92), (2, .ref 70), (1, .ref 0), (0, .ref (wd 35))]) (pc := 389) dL_law_389 (by decide) rfl ?_
    refine x_aload_n (pc := 391) dL_law_391 rfl ?_
    refine x_aload_n (pc := 392) dL_law_392 rfl ?_
    refine x_iload (pc := 393) dL_law_393 rfl ?_
    refine x_iconst (v := 1) (pc := 395) dL_law_395 (by decide) ?_
    refine x_iadd (pc := 396) dL_law_396 ?_
    refine x_sld (pc := 397) dL_law_397 (sc_in 1 rfl (by omega) hL) ?_
    refine x_aload_n (pc := 398) dL_law_398 rfl ?_
    refine x_iload (pc := 399) dL_law_399 rfl ?_
    refine x_iconst (v := 2) (pc := 401) dL_law_401 (by decide) ?_
    refine x_iadd (pc := 402) dL_law_402 ?_
    refine x_sld (pc := 403) dL_law_403 (sc_in 2 rfl (by omega) hL) ?_
    refine x_invV (As := [.int (xs (nI i + 1).toNatClampNeg), .int (xs (nI i + 2).toNatClampNeg)]) (st := []) (pc := 404) dL_law_404 lRL_62 fX12_energy vX12_energy ok70 rfl (Nat.le_of_ble_eq_true rfl) ⟨by decide, by decide⟩ (lw_C rm1 (by decide) (by decide)) (sn_X12_energy G 0 70 (xs (nI i + 1).toNatClampNeg) (xs (nI i + 2).toNatClampNeg) h1 _ ok70 hwp) (k_i (fun r2 h2 both cx2 => ?_))
    refine x_istore (lv2 := [(6, .int r2), (5, .int r1), (4, .int (nI i)), (3, .ref 92), (2, .ref 70), (1, .ref 0), (0, .ref (wd 35))]) (pc := 407) dL_law_407 (by decide) rfl ?_
    refine x_aload_n (pc := 409) dL_law_409 rfl ?_
    have ok70 := ok70.ex cx2.1
    have rm2 : qn h2 ≤ 10000 ∧ qz h2 ≤ 1000000 := ⟨by have := rm.1; have := cx1.2.1; have := cx2.2.1; omega, by have := rm.2; have := cx1.2.2; have := cx2.2.2; omega⟩
    refine x_invV (As := []) (st := []) (pc := 410) dL_law_410 lRL_57 fX12_thrown vX12_thrown ok70 rfl (Nat.le_of_ble_eq_true rfl) ⟨by decide, by decide⟩ (lw_C rm2 (by decide) (by decide)) (sn_X12_thrown G 0 70 h2 _ ok70 both) (k_i (fun r3 h3 fin cx3 => ?_))
    obtain ⟨f1, f2, inv3, rm3⟩ := fin
    refine x_iload (pc := 413) dL_law_413 rfl ?_
    refine x_icmp_eq (tgt := 420) (pc := 415) dL_law_415 (by decide) (fun _ => ?_) (fun c => absurd f1 c)
    refine x_iload (pc := 420) dL_law_420 rfl ?_
    refine x_if_ne (tgt := 437) (pc := 422) dL_law_422 (by decide) (fun _ => ?_) (fun c => absurd (r0.symm.trans c) (by decide))
    refine x_goto (tgt := 1206) (pc := 437) dL_law_437 (by decide) ?_
    exact x_sub [2, 3, 4, 5, 6] rfl (kk h3 inv3 rm3)

set_option maxHeartbeats 4000000 in
set_option maxRecDepth 100000 in
theorem lc_6 {G : GT} {L : Nat} {xs : Nat → Int32} {i : Nat} (hi : i + 6 ≤ L) (hL : L ≤ 3072) {h : PH} (inv : Inv h) (rm : LwR h) (kk : ∀ h2, Inv h2 → Rm h h2 → LwE G L xs 1206 i h2) : LwE G L xs 440 i h := by
  refine x_aload_n (pc := 440) dL_law_440 rfl ?_
  refine x_aload_n (pc := 441) dL_law_441 rfl ?_
  refine x_iload (pc := 442) dL_law_442 rfl ?_
  refine x_iconst (v := 1) (pc := 444) dL_law_444 (by decide) ?_
  refine x_iadd (pc := 445) dL_law_445 ?_
  refine x_sld (pc := 446) dL_law_446 (sc_in 1 rfl (by omega) hL) ?_
  refine x_aload_n (pc := 447) dL_law_447 rfl ?_
  refine x_iload (pc := 448) dL_law_448 rfl ?_
  refine x_iconst (v := 2) (pc := 450) dL_law_450 (by decide) ?_
  refine x_iadd (pc := 451) dL_law_451 ?_
  refine x_sld (pc := 452) dL_law_452 (sc_in 2 rfl (by omega) hL) ?_
  refine x_aload_n (pc := 453) dL_law_453 rfl ?_
  refine x_iload (pc := 454) dL_law_454 rfl ?_
  refine x_iconst (v := 3) (pc := 456) dL_law_456 (by decide) ?_
  refine x_iadd (pc := 457) dL_law_457 ?_
  refine x_sld (pc := 458) dL_law_458 (sc_in 3 rfl (by omega) hL) ?_
  refine x_aload_n (pc := 459) dL_law_459 rfl ?_
  rcases op_gives inv (by have := rm.1; omega) (xs (nI i + 1).toNatClampNeg) (xs (nI i + 2).toNatClampNeg) (xs (nI i + 3).toNatClampNeg) with hw | hw
  · refine x_invSH (As := [.ref 0, .int (xs (nI i + 1).toNatClampNeg), .int (xs (nI i + 2).toNatClampNeg), .int (xs (nI i + 3).toNatClampNeg), .ref 92]) (st := []) (pc := 460) dL_law_460 lRL_63 cwL_gives itRL dsL_gives sL_gives rfl (Nat.le_of_ble_eq_true rfl) ⟨by decide, by decide⟩ (lw_C ⟨by have := rm.1; omega, by have := rm.2; omega⟩ (by decide) (by decide)) (sn_L_gives G 0 0 (xs (nI i + 1).toNatClampNeg) (xs (nI i + 2).toNatClampNeg) (xs (nI i + 3).toNatClampNeg) 92 h _ inv.k0 inv.k92 hw) ZL.th (k_i (fun r1 h1 hwp cx1 => ?_))
    have rm1 : qn h1 ≤ 10000 ∧ qz h1 ≤ 1000000 := ⟨by have := rm.1; have := cx1.2.1; omega, by have := rm.2; have := cx1.2.2; omega⟩
    have ok70 := inv.k70.ex cx1.1
    obtain ⟨r0, hwp⟩ := hwp
    refine x_istore (lv2 := [(5, .int r1), (4, .int (nI i)), (3, .ref 92), (2, .ref 70), (1, .ref 0), (0, .ref (wd 35))]) (pc := 463) dL_law_463 (by decide) rfl ?_
    refine x_aload_n (pc := 465) dL_law_465 rfl ?_
    refine x_aload_n (pc := 466) dL_law_466 rfl ?_
    refine x_iload (pc := 467) dL_law_467 rfl ?_
    refine x_iconst (v := 1) (pc := 469) dL_law_469 (by decide) ?_
    refine x_iadd (pc := 470) dL_law_470 ?_
    refine x_sld (pc := 471) dL_law_471 (sc_in 1 rfl (by omega) hL) ?_
    refine x_aload_n (pc := 472) dL_law_472 rfl ?_
    refine x_iload (pc := 473) dL_law_473 rfl ?_
    refine x_iconst (v := 2) (pc := 475) dL_law_475 (by decide) ?_
    refine x_iadd (pc := 476) dL_law_476 ?_
    refine x_sld (pc := 477) dL_law_477 (sc_in 2 rfl (by omega) hL) ?_
    refine x_aload_n (pc := 478) dL_law_478 rfl ?_
    refine x_iload (pc := 479) dL_law_479 rfl ?_
    refine x_iconst (v := 3) (pc := 481) dL_law_481 (by decide) ?_
    refine x_iadd (pc := 482) dL_law_482 ?_
    refine x_sld (pc := 483) dL_law_483 (sc_in 3 rfl (by omega) hL) ?_
    refine x_invV (As := [.int (xs (nI i + 1).toNatClampNeg), .int (xs (nI i + 2).toNatClampNeg), .int (xs (nI i + 3).toNatClampNeg)]) (st := []) (pc := 484) dL_law_484 lRL_66 fX12_gives vX12_gives ok70 rfl (Nat.le_of_ble_eq_true rfl) ⟨by decide, by decide⟩ (lw_C rm1 (by decide) (by decide)) (sn_X12_gives G 0 70 (xs (nI i + 1).toNatClampNeg) (xs (nI i + 2).toNatClampNeg) (xs (nI i + 3).toNatClampNeg) h1 _ ok70 hwp) (k_i (fun r2 h2 both cx2 => ?_))
    refine x_istore (lv2 := [(6, .int r2), (5, .int r1), (4, .int (nI i)), (3, .ref 92), (2, .ref 70), (1, .ref 0), (0, .ref (wd 35))]) (pc := 487) dL_law_487 (by decide) rfl ?_
    refine x_aload_n (pc := 489) dL_law_489 rfl ?_
    have ok70 := ok70.ex cx2.1
    have rm2 : qn h2 ≤ 10000 ∧ qz h2 ≤ 1000000 := ⟨by have := rm.1; have := cx1.2.1; have := cx2.2.1; omega, by have := rm.2; have := cx1.2.2; have := cx2.2.2; omega⟩
    refine x_invV (As := []) (st := []) (pc := 490) dL_law_490 lRL_57 fX12_thrown vX12_thrown ok70 rfl (Nat.le_of_ble_eq_true rfl) ⟨by decide, by decide⟩ (lw_C rm2 (by decide) (by decide)) (sn_X12_thrown G 0 70 h2 _ ok70 both) (k_i (fun r3 h3 fin cx3 => ?_))
    obtain ⟨f1, f2, inv3, rm3⟩ := fin
    refine x_iload (pc := 493) dL_law_493 rfl ?_
    refine x_icmp_eq (tgt := 500) (pc := 495) dL_law_495 (by decide) (fun _ => ?_) (fun c => absurd f1 c)
    refine x_iload (pc := 500) dL_law_500 rfl ?_
    refine x_if_ne (tgt := 517) (pc := 502) dL_law_502 (by decide) (fun c => absurd r0 c) (fun _ => ?_)
    refine x_aload_n (pc := 505) dL_law_505 rfl ?_
    refine x_iconst (v := 0) (pc := 506) dL_law_506 (by decide) ?_
    refine x_laload (pc := 507) dL_law_507 inv3.k92 (o_in inv3) ?_
    refine x_iload (pc := 508) dL_law_508 rfl ?_
    refine x_i2l (pc := 510) dL_law_510 ?_
    refine x_lcmp (pc := 511) dL_law_511 ?_
    refine x_if_eq (tgt := 517) (pc := 512) dL_law_512 (by decide) (fun _ => ?_) (fun c => absurd ((lg_cmp_eq _ _).mpr (f2 r0)) c)
    refine x_goto (tgt := 1206) (pc := 517) dL_law_517 (by decide) ?_
    exact x_sub [2, 3, 4, 5, 6] rfl (kk h3 inv3 rm3)
  · refine x_invSH (As := [.ref 0, .int (xs (nI i + 1).toNatClampNeg), .int (xs (nI i + 2).toNatClampNeg), .int (xs (nI i + 3).toNatClampNeg), .ref 92]) (st := []) (pc := 460) dL_law_460 lRL_63 cwL_gives itRL dsL_gives sL_gives rfl (Nat.le_of_ble_eq_true rfl) ⟨by decide, by decide⟩ (lw_C ⟨by have := rm.1; omega, by have := rm.2; omega⟩ (by decide) (by decide)) (sx_L_gives G 0 0 (xs (nI i + 1).toNatClampNeg) (xs (nI i + 2).toNatClampNeg) (xs (nI i + 3).toNatClampNeg) 92 h _ inv.k0 inv.k92 hw) ZL.th (k_i (fun r1 h1 hwp cx1 => ?_))
    have rm1 : qn h1 ≤ 10000 ∧ qz h1 ≤ 1000000 := ⟨by have := rm.1; have := cx1.2.1; omega, by have := rm.2; have := cx1.2.2; omega⟩
    have ok70 := inv.k70.ex cx1.1
    obtain ⟨r0, hwp⟩ := hwp
    refine x_istore (lv2 := [(5, .int r1), (4, .int (nI i)), (3, .ref 92), (2, .ref 70), (1, .ref 0), (0, .ref (wd 35))]) (pc := 463) dL_law_463 (by decide) rfl ?_
    refine x_aload_n (pc := 465) dL_law_465 rfl ?_
    refine x_aload_n (pc := 466) dL_law_466 rfl ?_
    refine x_iload (pc := 467) dL_law_467 rfl ?_
    refine x_iconst (v := 1) (pc := 469) dL_law_469 (by decide) ?_
    refine x_iadd (pc := 470) dL_law_470 ?_
    refine x_sld (pc := 471) dL_law_471 (sc_in 1 rfl (by omega) hL) ?_
    refine x_aload_n (pc := 472) dL_law_472 rfl ?_
    refine x_iload (pc := 473) dL_law_473 rfl ?_
    refine x_iconst (v := 2) (pc := 475) dL_law_475 (by decide) ?_
    refine x_iadd (pc := 476) dL_law_476 ?_
    refine x_sld (pc := 477) dL_law_477 (sc_in 2 rfl (by omega) hL) ?_
    refine x_aload_n (pc := 478) dL_law_478 rfl ?_
    refine x_iload (pc := 479) dL_law_479 rfl ?_
    refine x_iconst (v := 3) (pc := 481) dL_law_481 (by decide) ?_
    refine x_iadd (pc := 482) dL_law_482 ?_
    refine x_sld (pc := 483) dL_law_483 (sc_in 3 rfl (by omega) hL) ?_
    refine x_invV (As := [.int (xs (nI i + 1).toNatClampNeg), .int (xs (nI i + 2).toNatClampNeg), .int (xs (nI i + 3).toNatClampNeg)]) (st := []) (pc := 484) dL_law_484 lRL_66 fX12_gives vX12_gives ok70 rfl (Nat.le_of_ble_eq_true rfl) ⟨by decide, by decide⟩ (lw_C rm1 (by decide) (by decide)) (sn_X12_gives G 0 70 (xs (nI i + 1).toNatClampNeg) (xs (nI i + 2).toNatClampNeg) (xs (nI i + 3).toNatClampNeg) h1 _ ok70 hwp) (k_i (fun r2 h2 both cx2 => ?_))
    refine x_istore (lv2 := [(6, .int r2), (5, .int r1), (4, .int (nI i)), (3, .ref 92), (2, .ref 70), (1, .ref 0), (0, .ref (wd 35))]) (pc := 487) dL_law_487 (by decide) rfl ?_
    refine x_aload_n (pc := 489) dL_law_489 rfl ?_
    have ok70 := ok70.ex cx2.1
    have rm2 : qn h2 ≤ 10000 ∧ qz h2 ≤ 1000000 := ⟨by have := rm.1; have := cx1.2.1; have := cx2.2.1; omega, by have := rm.2; have := cx1.2.2; have := cx2.2.2; omega⟩
    refine x_invV (As := []) (st := []) (pc := 490) dL_law_490 lRL_57 fX12_thrown vX12_thrown ok70 rfl (Nat.le_of_ble_eq_true rfl) ⟨by decide, by decide⟩ (lw_C rm2 (by decide) (by decide)) (sn_X12_thrown G 0 70 h2 _ ok70 both) (k_i (fun r3 h3 fin cx3 => ?_))
    obtain ⟨f1, f2, inv3, rm3⟩ := fin
    refine x_iload (pc := 493) dL_law_493 rfl ?_
    refine x_icmp_eq (tgt := 500) (pc := 495) dL_law_495 (by decide) (fun _ => ?_) (fun c => absurd f1 c)
    refine x_iload (pc := 500) dL_law_500 rfl ?_
    refine x_if_ne (tgt := 517) (pc := 502) dL_law_502 (by decide) (fun _ => ?_) (fun c => absurd (r0.symm.trans c) (by decide))
    refine x_goto (tgt := 1206) (pc := 517) dL_law_517 (by decide) ?_
    exact x_sub [2, 3, 4, 5, 6] rfl (kk h3 inv3 rm3)

set_option maxHeartbeats 4000000 in
set_option maxRecDepth 100000 in
theorem lc_7 {G : GT} {L : Nat} {xs : Nat → Int32} {i : Nat} (hi : i + 6 ≤ L) (hL : L ≤ 3072) {h : PH} (inv : Inv h) (rm : LwR h) (kk : ∀ h2, Inv h2 → Rm h h2 → LwE G L xs 1206 i h2) : LwE G L xs 520 i h := by
  refine x_aload_n (pc := 520) dL_law_520 rfl ?_
  refine x_aload_n (pc := 521) dL_law_521 rfl ?_
  refine x_iload (pc := 522) dL_law_522 rfl ?_
  refine x_iconst (v := 1) (pc := 524) dL_law_524 (by decide) ?_
  refine x_iadd (pc := 525) dL_law_525 ?_
  refine x_sld (pc := 526) dL_law_526 (sc_in 1 rfl (by omega) hL) ?_
  refine x_aload_n (pc := 527) dL_law_527 rfl ?_
  refine x_iload (pc := 528) dL_law_528 rfl ?_
  refine x_iconst (v := 2) (pc := 530) dL_law_530 (by decide) ?_
  refine x_iadd (pc := 531) dL_law_531 ?_
  refine x_sld (pc := 532) dL_law_532 (sc_in 2 rfl (by omega) hL) ?_
  refine x_aload_n (pc := 533) dL_law_533 rfl ?_
  rcases op_sum inv (by have := rm.1; omega) (xs (nI i + 1).toNatClampNeg) (xs (nI i + 2).toNatClampNeg) with hw | hw
  · refine x_invSH (As := [.ref 0, .int (xs (nI i + 1).toNatClampNeg), .int (xs (nI i + 2).toNatClampNeg), .ref 92]) (st := []) (pc := 534) dL_law_534 lRL_67 cwL_sum itRL dsL_sum sL_sum rfl (Nat.le_of_ble_eq_true rfl) ⟨by decide, by decide⟩ (lw_C ⟨by have := rm.1; omega, by have := rm.2; omega⟩ (by decide) (by decide)) (sn_L_sum G 0 0 (xs (nI i + 1).toNatClampNeg) (xs (nI i + 2).toNatClampNeg) 92 h _ inv.k0 inv.k92 hw) ZL.th (k_i (fun r1 h1 hwp cx1 => ?_))
    have rm1 : qn h1 ≤ 10000 ∧ qz h1 ≤ 1000000 := ⟨by have := rm.1; have := cx1.2.1; omega, by have := rm.2; have := cx1.2.2; omega⟩
    have ok70 := inv.k70.ex cx1.1
    obtain ⟨r0, hwp⟩ := hwp
    refine x_istore (lv2 := [(5, .int r1), (4, .int (nI i)), (3, .ref 92), (2, .ref 70), (1, .ref 0), (0, .ref (wd 35))]) (pc := 537) dL_law_537 (by decide) rfl ?_
    refine x_aload_n (pc := 539) dL_law_539 rfl ?_
    refine x_aload_n (pc := 540) dL_law_540 rfl ?_
    refine x_iload (pc := 541) dL_law_541 rfl ?_
    refine x_iconst (v := 1) (pc := 543) dL_law_543 (by decide) ?_
    refine x_iadd (pc := 544) dL_law_544 ?_
    refine x_sld (pc := 545) dL_law_545 (sc_in 1 rfl (by omega) hL) ?_
    refine x_aload_n (pc := 546) dL_law_546 rfl ?_
    refine x_iload (pc := 547) dL_law_547 rfl ?_
    refine x_iconst (v := 2) (pc := 549) dL_law_549 (by decide) ?_
    refine x_iadd (pc := 550) dL_law_550 ?_
    refine x_sld (pc := 551) dL_law_551 (sc_in 2 rfl (by omega) hL) ?_
    refine x_invV (As := [.int (xs (nI i + 1).toNatClampNeg), .int (xs (nI i + 2).toNatClampNeg)]) (st := []) (pc := 552) dL_law_552 lRL_69 fX12_sum vX12_sum ok70 rfl (Nat.le_of_ble_eq_true rfl) ⟨by decide, by decide⟩ (lw_C rm1 (by decide) (by decide)) (sn_X12_sum G 0 70 (xs (nI i + 1).toNatClampNeg) (xs (nI i + 2).toNatClampNeg) h1 _ ok70 hwp) (k_i (fun r2 h2 both cx2 => ?_))
    refine x_istore (lv2 := [(6, .int r2), (5, .int r1), (4, .int (nI i)), (3, .ref 92), (2, .ref 70), (1, .ref 0), (0, .ref (wd 35))]) (pc := 555) dL_law_555 (by decide) rfl ?_
    refine x_aload_n (pc := 557) dL_law_557 rfl ?_
    have ok70 := ok70.ex cx2.1
    have rm2 : qn h2 ≤ 10000 ∧ qz h2 ≤ 1000000 := ⟨by have := rm.1; have := cx1.2.1; have := cx2.2.1; omega, by have := rm.2; have := cx1.2.2; have := cx2.2.2; omega⟩
    refine x_invV (As := []) (st := []) (pc := 558) dL_law_558 lRL_57 fX12_thrown vX12_thrown ok70 rfl (Nat.le_of_ble_eq_true rfl) ⟨by decide, by decide⟩ (lw_C rm2 (by decide) (by decide)) (sn_X12_thrown G 0 70 h2 _ ok70 both) (k_i (fun r3 h3 fin cx3 => ?_))
    obtain ⟨f1, f2, inv3, rm3⟩ := fin
    refine x_iload (pc := 561) dL_law_561 rfl ?_
    refine x_icmp_eq (tgt := 568) (pc := 563) dL_law_563 (by decide) (fun _ => ?_) (fun c => absurd f1 c)
    refine x_iload (pc := 568) dL_law_568 rfl ?_
    refine x_if_ne (tgt := 585) (pc := 570) dL_law_570 (by decide) (fun c => absurd r0 c) (fun _ => ?_)
    refine x_aload_n (pc := 573) dL_law_573 rfl ?_
    refine x_iconst (v := 0) (pc := 574) dL_law_574 (by decide) ?_
    refine x_laload (pc := 575) dL_law_575 inv3.k92 (o_in inv3) ?_
    refine x_iload (pc := 576) dL_law_576 rfl ?_
    refine x_i2l (pc := 578) dL_law_578 ?_
    refine x_lcmp (pc := 579) dL_law_579 ?_
    refine x_if_eq (tgt := 585) (pc := 580) dL_law_580 (by decide) (fun _ => ?_) (fun c => absurd ((lg_cmp_eq _ _).mpr (f2 r0)) c)
    refine x_goto (tgt := 1206) (pc := 585) dL_law_585 (by decide) ?_
    exact x_sub [2, 3, 4, 5, 6] rfl (kk h3 inv3 rm3)
  · refine x_invSH (As := [.ref 0, .int (xs (nI i + 1).toNatClampNeg), .int (xs (nI i + 2).toNatClampNeg), .ref 92]) (st := []) (pc := 534) dL_law_534 lRL_67 cwL_sum itRL dsL_sum sL_sum rfl (Nat.le_of_ble_eq_true rfl) ⟨by decide, by decide⟩ (lw_C ⟨by have := rm.1; omega, by have := rm.2; omega⟩ (by decide) (by decide)) (sx_L_sum G 0 0 (xs (nI i + 1).toNatClampNeg) (xs (nI i + 2).toNatClampNeg) 92 h _ inv.k0 inv.k92 hw) ZL.th (k_i (fun r1 h1 hwp cx1 => ?_))
    have rm1 : qn h1 ≤ 10000 ∧ qz h1 ≤ 1000000 := ⟨by have := rm.1; have := cx1.2.1; omega, by have := rm.2; have := cx1.2.2; omega⟩
    have ok70 := inv.k70.ex cx1.1
    obtain ⟨r0, hwp⟩ := hwp
    refine x_istore (lv2 := [(5, .int r1), (4, .int (nI i)), (3, .ref 92), (2, .ref 70), (1, .ref 0), (0, .ref (wd 35))]) (pc := 537) dL_law_537 (by decide) rfl ?_
    refine x_aload_n (pc := 539) dL_law_539 rfl ?_
    refine x_aload_n (pc := 540) dL_law_540 rfl ?_
    refine x_iload (pc := 541) dL_law_541 rfl ?_
    refine x_iconst (v := 1) (pc := 543) dL_law_543 (by decide) ?_
    refine x_iadd (pc := 544) dL_law_544 ?_
    refine x_sld (pc := 545) dL_law_545 (sc_in 1 rfl (by omega) hL) ?_
    refine x_aload_n (pc := 546) dL_law_546 rfl ?_
    refine x_iload (pc := 547) dL_law_547 rfl ?_
    refine x_iconst (v := 2) (pc := 549) dL_law_549 (by decide) ?_
    refine x_iadd (pc := 550) dL_law_550 ?_
    refine x_sld (pc := 551) dL_law_551 (sc_in 2 rfl (by omega) hL) ?_
    refine x_invV (As := [.int (xs (nI i + 1).toNatClampNeg), .int (xs (nI i + 2).toNatClampNeg)]) (st := []) (pc := 552) dL_law_552 lRL_69 fX12_sum vX12_sum ok70 rfl (Nat.le_of_ble_eq_true rfl) ⟨by decide, by decide⟩ (lw_C rm1 (by decide) (by decide)) (sn_X12_sum G 0 70 (xs (nI i + 1).toNatClampNeg) (xs (nI i + 2).toNatClampNeg) h1 _ ok70 hwp) (k_i (fun r2 h2 both cx2 => ?_))
    refine x_istore (lv2 := [(6, .int r2), (5, .int r1), (4, .int (nI i)), (3, .ref 92), (2, .ref 70), (1, .ref 0), (0, .ref (wd 35))]) (pc := 555) dL_law_555 (by decide) rfl ?_
    refine x_aload_n (pc := 557) dL_law_557 rfl ?_
    have ok70 := ok70.ex cx2.1
    have rm2 : qn h2 ≤ 10000 ∧ qz h2 ≤ 1000000 := ⟨by have := rm.1; have := cx1.2.1; have := cx2.2.1; omega, by have := rm.2; have := cx1.2.2; have := cx2.2.2; omega⟩
    refine x_invV (As := []) (st := []) (pc := 558) dL_law_558 lRL_57 fX12_thrown vX12_thrown ok70 rfl (Nat.le_of_ble_eq_true rfl) ⟨by decide, by decide⟩ (lw_C rm2 (by decide) (by decide)) (sn_X12_thrown G 0 70 h2 _ ok70 both) (k_i (fun r3 h3 fin cx3 => ?_))
    obtain ⟨f1, f2, inv3, rm3⟩ := fin
    refine x_iload (pc := 561) dL_law_561 rfl ?_
    refine x_icmp_eq (tgt := 568) (pc := 563) dL_law_563 (by decide) (fun _ => ?_) (fun c => absurd f1 c)
    refine x_iload (pc := 568) dL_law_568 rfl ?_
    refine x_if_ne (tgt := 585) (pc := 570) dL_law_570 (by decide) (fun _ => ?_) (fun c => absurd (r0.symm.trans c) (by decide))
    refine x_goto (tgt := 1206) (pc := 585) dL_law_585 (by decide) ?_
    exact x_sub [2, 3, 4, 5, 6] rfl (kk h3 inv3 rm3)
