theorem dL_law_124 : decode cL_law 124 = .ok (.if_icmp .ge 195, 3) := by decide +kernel
theorem dL_law_127 : decode cL_law 127 = .ok (.iload 16, 2) := by decide +kernel
theorem dL_law_129 : decode cL_law 129 = .ok (.iload 9, 2) := by decide +kernel
theorem dL_law_131 : decode cL_law 131 = .ok (.if_icmp .ne 111, 3) := by decide +kernel
theorem dL_law_134 : decode cL_law 134 = .ok (.aload_n 1, 1) := by decide +kernel
theorem dL_law_135 : decode cL_law 135 = .ok (.iload 9, 2) := by decide +kernel
theorem dL_law_137 : decode cL_law 137 = .ok (.iconst (-1), 1) := by decide +kernel
theorem dL_law_138 : decode cL_law 138 = .ok (.invokevirtual 25, 3) := by decide +kernel
theorem dL_law_141 : decode cL_law 141 = .ok (.iload 15, 2) := by decide +kernel
theorem dL_law_143 : decode cL_law 143 = .ok (.if_icmp .eq 5, 3) := by decide +kernel
theorem dL_law_146 : decode cL_law 146 = .ok (.iconst 0, 1) := by decide +kernel
theorem dL_law_147 : decode cL_law 147 = .ok (.ireturn, 1) := by decide +kernel
theorem dL_law_148 : decode cL_law 148 = .ok (.iconst 0, 1) := by decide +kernel
theorem dL_law_149 : decode cL_law 149 = .ok (.istore 17, 2) := by decide +kernel
theorem dL_law_151 : decode cL_law 151 = .ok (.iload 17, 2) := by decide +kernel
theorem dL_law_153 : decode cL_law 153 = .ok (.aload_n 2, 1) := by decide +kernel
theorem dL_law_154 : decode cL_law 154 = .ok (.iconst 0, 1) := by decide +kernel
theorem dL_law_155 : decode cL_law 155 = .ok (.iaload, 1) := by decide +kernel
theorem dL_law_156 : decode cL_law 156 = .ok (.if_icmp .ge 86, 3) := by decide +kernel
theorem dL_law_159 : decode cL_law 159 = .ok (.aload_n 1, 1) := by decide +kernel
theorem dL_law_160 : decode cL_law 160 = .ok (.iload 9, 2) := by decide +kernel
theorem dL_law_162 : decode cL_law 162 = .ok (.iload 17, 2) := by decide +kernel
theorem dL_law_164 : decode cL_law 164 = .ok (.invokevirtual 25, 3) := by decide +kernel
theorem dL_law_167 : decode cL_law 167 = .ok (.aload 11, 2) := by decide +kernel
theorem dL_law_169 : decode cL_law 169 = .ok (.iconst 2, 1) := by decide +kernel
theorem dL_law_170 : decode cL_law 170 = .ok (.iload 17, 2) := by decide +kernel
theorem dL_law_172 : decode cL_law 172 = .ok (.imul, 1) := by decide +kernel
theorem dL_law_173 : decode cL_law 173 = .ok (.iaload, 1) := by decide +kernel
theorem dL_law_174 : decode cL_law 174 = .ok (.if_icmp .eq 5, 3) := by decide +kernel
theorem dL_law_177 : decode cL_law 177 = .ok (.iconst 0, 1) := by decide +kernel
theorem dL_law_178 : decode cL_law 178 = .ok (.ireturn, 1) := by decide +kernel
theorem dL_law_179 : decode cL_law 179 = .ok (.iconst 0, 1) := by decide +kernel
theorem dL_law_180 : decode cL_law 180 = .ok (.istore 18, 2) := by decide +kernel
theorem dL_law_182 : decode cL_law 182 = .ok (.iload 18, 2) := by decide +kernel
theorem dL_law_184 : decode cL_law 184 = .ok (.aload_n 2, 1) := by decide +kernel
theorem dL_law_185 : decode cL_law 185 = .ok (.iconst 0, 1) := by decide +kernel
theorem dL_law_186 : decode cL_law 186 = .ok (.iaload, 1) := by decide +kernel
theorem dL_law_187 : decode cL_law 187 = .ok (.if_icmp .ge 49, 3) := by decide +kernel
theorem dL_law_190 : decode cL_law 190 = .ok (.iload 17, 2) := by decide +kernel
theorem dL_law_192 : decode cL_law 192 = .ok (.iload 18, 2) := by decide +kernel
theorem dL_law_194 : decode cL_law 194 = .ok (.if_icmp .eq 36, 3) := by decide +kernel
theorem dL_law_197 : decode cL_law 197 = .ok (.aload_n 1, 1) := by decide +kernel
theorem dL_law_198 : decode cL_law 198 = .ok (.iload 9, 2) := by decide +kernel
theorem dL_law_200 : decode cL_law 200 = .ok (.bipush 10, 2) := by decide +kernel
theorem dL_law_202 : decode cL_law 202 = .ok (.iload 17, 2) := by decide +kernel
theorem dL_law_204 : decode cL_law 204 = .ok (.imul, 1) := by decide +kernel
theorem dL_law_205 : decode cL_law 205 = .ok (.iload 18, 2) := by decide +kernel
theorem dL_law_207 : decode cL_law 207 = .ok (.iadd, 1) := by decide +kernel
theorem dL_law_208 : decode cL_law 208 = .ok (.invokevirtual 29, 3) := by decide +kernel
theorem dL_law_211 : decode cL_law 211 = .ok (.aload 12, 2) := by decide +kernel
theorem dL_law_213 : decode cL_law 213 = .ok (.bipush 8, 2) := by decide +kernel
theorem dL_law_215 : decode cL_law 215 = .ok (.iload 17, 2) := by decide +kernel
theorem dL_law_217 : decode cL_law 217 = .ok (.imul, 1) := by decide +kernel
theorem dL_law_218 : decode cL_law 218 = .ok (.iload 18, 2) := by decide +kernel
theorem dL_law_220 : decode cL_law 220 = .ok (.iadd, 1) := by decide +kernel
theorem dL_law_221 : decode cL_law 221 = .ok (.iaload, 1) := by decide +kernel
theorem dL_law_222 : decode cL_law 222 = .ok (.bipush 100, 2) := by decide +kernel
theorem dL_law_224 : decode cL_law 224 = .ok (.iadd, 1) := by decide +kernel
theorem dL_law_225 : decode cL_law 225 = .ok (.if_icmp .eq 5, 3) := by decide +kernel
theorem dL_law_228 : decode cL_law 228 = .ok (.iconst 0, 1) := by decide +kernel
theorem dL_law_229 : decode cL_law 229 = .ok (.ireturn, 1) := by decide +kernel
theorem dL_law_230 : decode cL_law 230 = .ok (.iinc 18 1, 3) := by decide +kernel
theorem dL_law_233 : decode cL_law 233 = .ok (.goto (-51), 3) := by decide +kernel
theorem dL_law_236 : decode cL_law 236 = .ok (.iinc 17 1, 3) := by decide +kernel
theorem dL_law_239 : decode cL_law 239 = .ok (.goto (-88), 3) := by decide +kernel
theorem dL_law_242 : decode cL_law 242 = .ok (.iload 15, 2) := by decide +kernel
theorem dL_law_244 : decode cL_law 244 = .ok (.aload 10, 2) := by decide +kernel
theorem dL_law_246 : decode cL_law 246 = .ok (.aload 11, 2) := by decide +kernel
theorem dL_law_248 : decode cL_law 248 = .ok (.aload 12, 2) := by decide +kernel
theorem dL_law_250 : decode cL_law 250 = .ok (.aload 5, 2) := by decide +kernel
theorem dL_law_252 : decode cL_law 252 = .ok (.aload 7, 2) := by decide +kernel
theorem dL_law_254 : decode cL_law 254 = .ok (.invokestatic 32, 3) := by decide +kernel
theorem dL_law_257 : decode cL_law 257 = .ok (.iadd, 1) := by decide +kernel
theorem dL_law_258 : decode cL_law 258 = .ok (.istore 15, 2) := by decide +kernel
theorem dL_law_260 : decode cL_law 260 = .ok (.iconst 0, 1) := by decide +kernel
theorem dL_law_261 : decode cL_law 261 = .ok (.istore 17, 2) := by decide +kernel
theorem dL_law_263 : decode cL_law 263 = .ok (.iload 17, 2) := by decide +kernel
theorem dL_law_265 : decode cL_law 265 = .ok (.aload_n 2, 1) := by decide +kernel
theorem dL_law_266 : decode cL_law 266 = .ok (.iconst 0, 1) := by decide +kernel
theorem dL_law_267 : decode cL_law 267 = .ok (.iaload, 1) := by decide +kernel
theorem dL_law_268 : decode cL_law 268 = .ok (.if_icmp .ge 45, 3) := by decide +kernel
theorem dL_law_271 : decode cL_law 271 = .ok (.aload 7, 2) := by decide +kernel
theorem dL_law_273 : decode cL_law 273 = .ok (.iload 17, 2) := by decide +kernel
theorem dL_law_275 : decode cL_law 275 = .ok (.iaload, 1) := by decide +kernel
theorem dL_law_276 : decode cL_law 276 = .ok (.bipush 8, 2) := by decide +kernel
theorem dL_law_278 : decode cL_law 278 = .ok (.if_icmp .ne 14, 3) := by decide +kernel
theorem dL_law_281 : decode cL_law 281 = .ok (.iload 14, 2) := by decide +kernel
theorem dL_law_283 : decode cL_law 283 = .ok (.iconst 1, 1) := by decide +kernel
theorem dL_law_284 : decode cL_law 284 = .ok (.iload 17, 2) := by decide +kernel
theorem dL_law_286 : decode cL_law 286 = .ok (.ishl, 1) := by decide +kernel
theorem dL_law_287 : decode cL_law 287 = .ok (.iconst (-1), 1) := by decide +kernel
theorem dL_law_288 : decode cL_law 288 = .ok (.ixor, 1) := by decide +kernel
theorem dL_law_289 : decode cL_law 289 = .ok (.iand, 1) := by decide +kernel
theorem dL_law_290 : decode cL_law 290 = .ok (.istore 14, 2) := by decide +kernel
theorem dL_law_292 : decode cL_law 292 = .ok (.aload 13, 2) := by decide +kernel
theorem dL_law_294 : decode cL_law 294 = .ok (.iload 17, 2) := by decide +kernel
theorem dL_law_296 : decode cL_law 296 = .ok (.dup2, 1) := by decide +kernel
theorem dL_law_297 : decode cL_law 297 = .ok (.iaload, 1) := by decide +kernel
theorem dL_law_298 : decode cL_law 298 = .ok (.iload 14, 2) := by decide +kernel
theorem dL_law_300 : decode cL_law 300 = .ok (.iload 17, 2) := by decide +kernel
theorem dL_law_302 : decode cL_law 302 = .ok (.ishr, 1) := by decide +kernel
theorem dL_law_303 : decode cL_law 303 = .ok (.iconst 1, 1) := by decide +kernel
theorem dL_law_304 : decode cL_law 304 = .ok (.iand, 1) := by decide +kernel
theorem dL_law_305 : decode cL_law 305 = .ok (.iadd, 1) := by decide +kernel
theorem dL_law_306 : decode cL_law 306 = .ok (.iastore, 1) := by decide +kernel
theorem dL_law_307 : decode cL_law 307 = .ok (.iinc 17 1, 3) := by decide +kernel
theorem dL_law_310 : decode cL_law 310 = .ok (.goto (-47), 3) := by decide +kernel
theorem dL_law_313 : decode cL_law 313 = .ok (.iinc 16 1, 3) := by decide +kernel
theorem dL_law_316 : decode cL_law 316 = .ok (.goto (-196), 3) := by decide +kernel
theorem dL_law_319 : decode cL_law 319 = .ok (.aload_n 1, 1) := by decide +kernel
theorem dL_law_320 : decode cL_law 320 = .ok (.bipush 40, 2) := by decide +kernel
theorem dL_law_322 : decode cL_law 322 = .ok (.iconst (-1), 1) := by decide +kernel
theorem dL_law_323 : decode cL_law 323 = .ok (.invokevirtual 25, 3) := by decide +kernel
theorem dL_law_326 : decode cL_law 326 = .ok (.iload 15, 2) := by decide +kernel
theorem dL_law_328 : decode cL_law 328 = .ok (.if_icmp .ne 36, 3) := by decide +kernel
theorem dL_law_331 : decode cL_law 331 = .ok (.aload_n 1, 1) := by decide +kernel
theorem dL_law_332 : decode cL_law 332 = .ok (.bipush 41, 2) := by decide +kernel
theorem dL_law_334 : decode cL_law 334 = .ok (.iconst (-1), 1) := by decide +kernel
theorem dL_law_335 : decode cL_law 335 = .ok (.invokevirtual 25, 3) := by decide +kernel
theorem dL_law_338 : decode cL_law 338 = .ok (.iconst (-1), 1) := by decide +kernel
theorem dL_law_339 : decode cL_law 339 = .ok (.if_icmp .ne 25, 3) := by decide +kernel
theorem dL_law_342 : decode cL_law 342 = .ok (.aload_n 1, 1) := by decide +kernel
theorem dL_law_343 : decode cL_law 343 = .ok (.iconst 0, 1) := by decide +kernel
theorem dL_law_344 : decode cL_law 344 = .ok (.aload_n 2, 1) := by decide +kernel
theorem dL_law_345 : decode cL_law 345 = .ok (.iconst 0, 1) := by decide +kernel
theorem dL_law_346 : decode cL_law 346 = .ok (.iaload, 1) := by decide +kernel
theorem dL_law_347 : decode cL_law 347 = .ok (.invokevirtual 25, 3) := by decide +kernel
theorem dL_law_350 : decode cL_law 350 = .ok (.iconst (-1), 1) := by decide +kernel
theorem dL_law_351 : decode cL_law 351 = .ok (.if_icmp .ne 13, 3) := by decide +kernel
theorem dL_law_354 : decode cL_law 354 = .ok (.aload_n 1, 1) := by decide +kernel
theorem dL_law_355 : decode cL_law 355 = .ok (.iconst (-1), 1) := by decide +kernel
theorem dL_law_356 : decode cL_law 356 = .ok (.iconst (-1), 1) := by decide +kernel
theorem dL_law_357 : decode cL_law 357 = .ok (.invokevirtual 25, 3) := by decide +kernel
theorem dL_law_360 : decode cL_law 360 = .ok (.iconst (-1), 1) := by decide +kernel
theorem dL_law_361 : decode cL_law 361 = .ok (.if_icmp .eq 5, 3) := by decide +kernel
theorem dL_law_364 : decode cL_law 364 = .ok (.iconst 0, 1) := by decide +kernel
theorem dL_law_365 : decode cL_law 365 = .ok (.ireturn, 1) := by decide +kernel
theorem dL_law_366 : decode cL_law 366 = .ok (.iconst 0, 1) := by decide +kernel
theorem dL_law_367 : decode cL_law 367 = .ok (.istore 16, 2) := by decide +kernel
theorem dL_law_369 : decode cL_law 369 = .ok (.iload 16, 2) := by decide +kernel
theorem dL_law_371 : decode cL_law 371 = .ok (.aload_n 2, 1) := by decide +kernel
theorem dL_law_372 : decode cL_law 372 = .ok (.iconst 0, 1) := by decide +kernel
theorem dL_law_373 : decode cL_law 373 = .ok (.iaload, 1) := by decide +kernel
theorem dL_law_374 : decode cL_law 374 = .ok (.if_icmp .ge 25, 3) := by decide +kernel
theorem dL_law_377 : decode cL_law 377 = .ok (.aload_n 1, 1) := by decide +kernel
theorem dL_law_378 : decode cL_law 378 = .ok (.iload 16, 2) := by decide +kernel
theorem dL_law_380 : decode cL_law 380 = .ok (.invokevirtual 36, 3) := by decide +kernel
theorem dL_law_383 : decode cL_law 383 = .ok (.aload 13, 2) := by decide +kernel
theorem dL_law_385 : decode cL_law 385 = .ok (.iload 16, 2) := by decide +kernel
theorem dL_law_387 : decode cL_law 387 = .ok (.iaload, 1) := by decide +kernel
theorem dL_law_388 : decode cL_law 388 = .ok (.if_icmp .eq 5, 3) := by decide +kernel
theorem dL_law_391 : decode cL_law 391 = .ok (.iconst 0, 1) := by decide +kernel
theorem dL_law_392 : decode cL_law 392 = .ok (.ireturn, 1) := by decide +kernel
theorem dL_law_393 : decode cL_law 393 = .ok (.iinc 16 1, 3) := by decide +kernel
theorem dL_law_396 : decode cL_law 396 = .ok (.goto (-27), 3) := by decide +kernel
theorem dL_law_399 : decode cL_law 399 = .ok (.iconst 0, 1) := by decide +kernel
theorem dL_law_400 : decode cL_law 400 = .ok (.istore 16, 2) := by decide +kernel
theorem dL_law_402 : decode cL_law 402 = .ok (.iload 16, 2) := by decide +kernel
theorem dL_law_404 : decode cL_law 404 = .ok (.bipush 7, 2) := by decide +kernel
theorem dL_law_406 : decode cL_law 406 = .ok (.if_icmp .ge 569, 3) := by decide +kernel
theorem dL_law_409 : decode cL_law 409 = .ok (.aload_n 0, 1) := by decide +kernel
theorem dL_law_410 : decode cL_law 410 = .ok (.bipush 61, 2) := by decide +kernel
theorem dL_law_412 : decode cL_law 412 = .ok (.bipush 7, 2) := by decide +kernel
theorem dL_law_414 : decode cL_law 414 = .ok (.iload 8, 2) := by decide +kernel
theorem dL_law_416 : decode cL_law 416 = .ok (.imul, 1) := by decide +kernel
theorem dL_law_417 : decode cL_law 417 = .ok (.iadd, 1) := by decide +kernel
theorem dL_law_418 : decode cL_law 418 = .ok (.iload 16, 2) := by decide +kernel
theorem dL_law_420 : decode cL_law 420 = .ok (.iadd, 1) := by decide +kernel
theorem dL_law_421 : decode cL_law 421 = .ok (.invokestatic 17, 3) := by decide +kernel
theorem dL_law_424 : decode cL_law 424 = .ok (.istore 17, 2) := by decide +kernel
theorem dL_law_426 : decode cL_law 426 = .ok (.iload 17, 2) := by decide +kernel
theorem dL_law_428 : decode cL_law 428 = .ok (.iconst 1, 1) := by decide +kernel
theorem dL_law_429 : decode cL_law 429 = .ok (.iushr, 1) := by decide +kernel
theorem dL_law_430 : decode cL_law 430 = .ok (.bipush 6, 2) := by decide +kernel
theorem dL_law_432 : decode cL_law 432 = .ok (.irem, 1) := by decide +kernel
theorem dL_law_433 : decode cL_law 433 = .ok (.istore 18, 2) := by decide +kernel
theorem dL_law_435 : decode cL_law 435 = .ok (.aload_n 2, 1) := by decide +kernel
theorem dL_law_436 : decode cL_law 436 = .ok (.iconst 0, 1) := by decide +kernel
theorem dL_law_437 : decode cL_law 437 = .ok (.iaload, 1) := by decide +kernel
theorem dL_law_438 : decode cL_law 438 = .ok (.ifCond .ne 7, 3) := by decide +kernel
theorem dL_law_441 : decode cL_law 441 = .ok (.iconst 0, 1) := by decide +kernel
theorem dL_law_442 : decode cL_law 442 = .ok (.goto 11, 3) := by decide +kernel
theorem dL_law_445 : decode cL_law 445 = .ok (.iload 17, 2) := by decide +kernel
theorem dL_law_447 : decode cL_law 447 = .ok (.iconst 5, 1) := by decide +kernel
theorem dL_law_448 : decode cL_law 448 = .ok (.iushr, 1) := by decide +kernel
theorem dL_law_449 : decode cL_law 449 = .ok (.aload_n 2, 1) := by decide +kernel
theorem dL_law_450 : decode cL_law 450 = .ok (.iconst 0, 1) := by decide +kernel
theorem dL_law_451 : decode cL_law 451 = .ok (.iaload, 1) := by decide +kernel
theorem dL_law_452 : decode cL_law 452 = .ok (.irem, 1) := by decide +kernel
theorem dL_law_453 : decode cL_law 453 = .ok (.istore 19, 2) := by decide +kernel
theorem dL_law_455 : decode cL_law 455 = .ok (.aload_n 2, 1) := by decide +kernel
theorem dL_law_456 : decode cL_law 456 = .ok (.iconst 0, 1) := by decide +kernel
theorem dL_law_457 : decode cL_law 457 = .ok (.iaload, 1) := by decide +kernel
theorem dL_law_458 : decode cL_law 458 = .ok (.iconst 2, 1) := by decide +kernel
theorem dL_law_459 : decode cL_law 459 = .ok (.if_icmp .ge 7, 3) := by decide +kernel
theorem dL_law_462 : decode cL_law 462 = .ok (.iconst 0, 1) := by decide +kernel
theorem dL_law_463 : decode cL_law 463 = .ok (.goto 23, 3) := by decide +kernel
theorem dL_law_466 : decode cL_law 466 = .ok (.iload 19, 2) := by decide +kernel
theorem dL_law_468 : decode cL_law 468 = .ok (.iconst 1, 1) := by decide +kernel
theorem dL_law_469 : decode cL_law 469 = .ok (.iadd, 1) := by decide +kernel
theorem dL_law_470 : decode cL_law 470 = .ok (.iload 17, 2) := by decide +kernel
theorem dL_law_472 : decode cL_law 472 = .ok (.bipush 9, 2) := by decide +kernel
theorem dL_law_474 : decode cL_law 474 = .ok (.iushr, 1) := by decide +kernel
theorem dL_law_475 : decode cL_law 475 = .ok (.aload_n 2, 1) := by decide +kernel
theorem dL_law_476 : decode cL_law 476 = .ok (.iconst 0, 1) := by decide +kernel
theorem dL_law_477 : decode cL_law 477 = .ok (.iaload, 1) := by decide +kernel
theorem dL_law_478 : decode cL_law 478 = .ok (.iconst 1, 1) := by decide +kernel
theorem dL_law_479 : decode cL_law 479 = .ok (.isub, 1) := by decide +kernel
theorem dL_law_480 : decode cL_law 480 = .ok (.irem, 1) := by decide +kernel
theorem dL_law_481 : decode cL_law 481 = .ok (.iadd, 1) := by decide +kernel
theorem dL_law_482 : decode cL_law 482 = .ok (.aload_n 2, 1) := by decide +kernel
theorem dL_law_483 : decode cL_law 483 = .ok (.iconst 0, 1) := by decide +kernel
theorem dL_law_484 : decode cL_law 484 = .ok (.iaload, 1) := by decide +kernel
theorem dL_law_485 : decode cL_law 485 = .ok (.irem, 1) := by decide +kernel
theorem dL_law_486 : decode cL_law 486 = .ok (.istore 20, 2) := by decide +kernel
theorem dL_law_488 : decode cL_law 488 = .ok (.iload 18, 2) := by decide +kernel
theorem dL_law_490 : decode cL_law 490 = .ok (.iconst 3, 1) := by decide +kernel
theorem dL_law_491 : decode cL_law 491 = .ok (.if_icmp .lt 10, 3) := by decide +kernel
theorem dL_law_494 : decode cL_law 494 = .ok (.aload_n 2, 1) := by decide +kernel
theorem dL_law_495 : decode cL_law 495 = .ok (.iconst 0, 1) := by decide +kernel
theorem dL_law_496 : decode cL_law 496 = .ok (.iaload, 1) := by decide +kernel
theorem dL_law_497 : decode cL_law 497 = .ok (.iconst 3, 1) := by decide +kernel
theorem dL_law_498 : decode cL_law 498 = .ok (.if_icmp .ge 98, 3) := by decide +kernel
theorem dL_law_501 : decode cL_law 501 = .ok (.aload_n 2, 1) := by decide +kernel
theorem dL_law_502 : decode cL_law 502 = .ok (.aload_n 3, 1) := by decide +kernel
theorem dL_law_503 : decode cL_law 503 = .ok (.aload 4, 2) := by decide +kernel
theorem dL_law_505 : decode cL_law 505 = .ok (.aload 5, 2) := by decide +kernel
theorem dL_law_507 : decode cL_law 507 = .ok (.aload 7, 2) := by decide +kernel
theorem dL_law_509 : decode cL_law 509 = .ok (.invokestatic 32, 3) := by decide +kernel
theorem dL_law_512 : decode cL_law 512 = .ok (.istore 21, 2) := by decide +kernel
theorem dL_law_514 : decode cL_law 514 = .ok (.aload 6, 2) := by decide +kernel
theorem dL_law_516 : decode cL_law 516 = .ok (.iconst 0, 1) := by decide +kernel
theorem dL_law_517 : decode cL_law 517 = .ok (.dup2, 1) := by decide +kernel
theorem dL_law_518 : decode cL_law 518 = .ok (.iaload, 1) := by decide +kernel
theorem dL_law_519 : decode cL_law 519 = .ok (.iconst 1, 1) := by decide +kernel
theorem dL_law_520 : decode cL_law 520 = .ok (.iadd, 1) := by decide +kernel
theorem dL_law_521 : decode cL_law 521 = .ok (.iastore, 1) := by decide +kernel
theorem dL_law_522 : decode cL_law 522 = .ok (.aload 6, 2) := by decide +kernel
theorem dL_law_524 : decode cL_law 524 = .ok (.iconst 1, 1) := by decide +kernel
theorem dL_law_525 : decode cL_law 525 = .ok (.dup2, 1) := by decide +kernel
theorem dL_law_526 : decode cL_law 526 = .ok (.iaload, 1) := by decide +kernel
theorem dL_law_527 : decode cL_law 527 = .ok (.iload 21, 2) := by decide +kernel
theorem dL_law_529 : decode cL_law 529 = .ok (.iadd, 1) := by decide +kernel
theorem dL_law_530 : decode cL_law 530 = .ok (.iastore, 1) := by decide +kernel
theorem dL_law_531 : decode cL_law 531 = .ok (.aload 6, 2) := by decide +kernel
theorem dL_law_533 : decode cL_law 533 = .ok (.iconst 2, 1) := by decide +kernel
theorem dL_law_534 : decode cL_law 534 = .ok (.dup2, 1) := by decide +kernel
theorem dL_law_535 : decode cL_law 535 = .ok (.iaload, 1) := by decide +kernel
theorem dL_law_536 : decode cL_law 536 = .ok (.aload_n 2, 1) := by decide +kernel
theorem dL_law_537 : decode cL_law 537 = .ok (.iconst 0, 1) := by decide +kernel
theorem dL_law_538 : decode cL_law 538 = .ok (.iaload, 1) := by decide +kernel
theorem dL_law_539 : decode cL_law 539 = .ok (.iload 21, 2) := by decide +kernel
theorem dL_law_541 : decode cL_law 541 = .ok (.isub, 1) := by decide +kernel
theorem dL_law_542 : decode cL_law 542 = .ok (.iadd, 1) := by decide +kernel
theorem dL_law_543 : decode cL_law 543 = .ok (.iastore, 1) := by decide +kernel
theorem dL_law_544 : decode cL_law 544 = .ok (.aload_n 1, 1) := by decide +kernel
theorem dL_law_545 : decode cL_law 545 = .ok (.invokevirtual 40, 3) := by decide +kernel
theorem dL_law_548 : decode cL_law 548 = .ok (.iload 21, 2) := by decide +kernel
theorem dL_law_550 : decode cL_law 550 = .ok (.if_icmp .ne 41, 3) := by decide +kernel
theorem dL_law_553 : decode cL_law 553 = .ok (.aload_n 1, 1) := by decide +kernel
theorem dL_law_554 : decode cL_law 554 = .ok (.iconst 0, 1) := by decide +kernel
theorem dL_law_555 : decode cL_law 555 = .ok (.iconst 5, 1) := by decide +kernel
theorem dL_law_556 : decode cL_law 556 = .ok (.invokevirtual 43, 3) := by decide +kernel
theorem dL_law_559 : decode cL_law 559 = .ok (.aload_n 2, 1) := by decide +kernel
theorem dL_law_560 : decode cL_law 560 = .ok (.iconst 4, 1) := by decide +kernel
theorem dL_law_561 : decode cL_law 561 = .ok (.iaload, 1) := by decide +kernel
theorem dL_law_562 : decode cL_law 562 = .ok (.if_icmp .ne 29, 3) := by decide +kernel
theorem dL_law_565 : decode cL_law 565 = .ok (.aload_n 1, 1) := by decide +kernel
theorem dL_law_566 : decode cL_law 566 = .ok (.iconst (-1), 1) := by decide +kernel
theorem dL_law_567 : decode cL_law 567 = .ok (.invokevirtual 46, 3) := by decide +kernel
theorem dL_law_570 : decode cL_law 570 = .ok (.bipush 8, 2) := by decide +kernel
theorem dL_law_572 : decode cL_law 572 = .ok (.iload 21, 2) := by decide +kernel
theorem dL_law_574 : decode cL_law 574 = .ok (.imul, 1) := by decide +kernel
theorem dL_law_575 : decode cL_law 575 = .ok (.if_icmp .lt 16, 3) := by decide +kernel
theorem dL_law_578 : decode cL_law 578 = .ok (.aload_n 1, 1) := by decide +kernel
theorem dL_law_579 : decode cL_law 579 = .ok (.iconst (-1), 1) := by decide +kernel
theorem dL_law_580 : decode cL_law 580 = .ok (.invokevirtual 46, 3) := by decide +kernel
theorem dL_law_583 : decode cL_law 583 = .ok (.bipush 9, 2) := by decide +kernel
theorem dL_law_585 : decode cL_law 585 = .ok (.iload 21, 2) := by decide +kernel
theorem dL_law_587 : decode cL_law 587 = .ok (.imul, 1) := by decide +kernel
theorem dL_law_588 : decode cL_law 588 = .ok (.if_icmp .le 5, 3) := by decide +kernel
theorem dL_law_591 : decode cL_law 591 = .ok (.iconst 0, 1) := by decide +kernel
theorem dL_law_592 : decode cL_law 592 = .ok (.ireturn, 1) := by decide +kernel
theorem dL_law_593 : decode cL_law 593 = .ok (.goto 376, 3) := by decide +kernel
theorem dL_law_596 : decode cL_law 596 = .ok (.iload 18, 2) := by decide +kernel
theorem dL_law_598 : decode cL_law 598 = .ok (.iconst 3, 1) := by decide +kernel
theorem dL_law_599 : decode cL_law 599 = .ok (.if_icmp .ne 108, 3) := by decide +kernel
theorem dL_law_602 : decode cL_law 602 = .ok (.iconst 1, 1) := by decide +kernel
theorem dL_law_603 : decode cL_law 603 = .ok (.iload 17, 2) := by decide +kernel
theorem dL_law_605 : decode cL_law 605 = .ok (.bipush 13, 2) := by decide +kernel
theorem dL_law_607 : decode cL_law 607 = .ok (.iushr, 1) := by decide +kernel
theorem dL_law_608 : decode cL_law 608 = .ok (.bipush 9, 2) := by decide +kernel
theorem dL_law_610 : decode cL_law 610 = .ok (.irem, 1) := by decide +kernel
theorem dL_law_611 : decode cL_law 611 = .ok (.iadd, 1) := by decide +kernel
theorem dL_law_612 : decode cL_law 612 = .ok (.istore 21, 2) := by decide +kernel
theorem dL_law_614 : decode cL_law 614 = .ok (.aload 4, 2) := by decide +kernel
theorem dL_law_616 : decode cL_law 616 = .ok (.bipush 8, 2) := by decide +kernel
theorem dL_law_618 : decode cL_law 618 = .ok (.iload 20, 2) := by decide +kernel
theorem dL_law_620 : decode cL_law 620 = .ok (.imul, 1) := by decide +kernel
theorem dL_law_621 : decode cL_law 621 = .ok (.iload 19, 2) := by decide +kernel
theorem dL_law_623 : decode cL_law 623 = .ok (.iadd, 1) := by decide +kernel
theorem dL_law_624 : decode cL_law 624 = .ok (.aload 4, 2) := by decide +kernel
theorem dL_law_626 : decode cL_law 626 = .ok (.bipush 8, 2) := by decide +kernel
theorem dL_law_628 : decode cL_law 628 = .ok (.iload 20, 2) := by decide +kernel
theorem dL_law_630 : decode cL_law 630 = .ok (.imul, 1) := by decide +kernel
theorem dL_law_631 : decode cL_law 631 = .ok (.iload 19, 2) := by decide +kernel
theorem dL_law_633 : decode cL_law 633 = .ok (.iadd, 1) := by decide +kernel
theorem dL_law_634 : decode cL_law 634 = .ok (.iaload, 1) := by decide +kernel
theorem dL_law_635 : decode cL_law 635 = .ok (.iload 21, 2) := by decide +kernel
theorem dL_law_637 : decode cL_law 637 = .ok (.isub, 1) := by decide +kernel
theorem dL_law_638 : decode cL_law 638 = .ok (.bipush (-9), 2) := by decide +kernel
theorem dL_law_640 : decode cL_law 640 = .ok (.if_icmp .ge 8, 3) := by decide +kernel
theorem dL_law_643 : decode cL_law 643 = .ok (.bipush (-9), 2) := by decide +kernel
theorem dL_law_645 : decode cL_law 645 = .ok (.goto 17, 3) := by decide +kernel
theorem dL_law_648 : decode cL_law 648 = .ok (.aload 4, 2) := by decide +kernel
theorem dL_law_650 : decode cL_law 650 = .ok (.bipush 8, 2) := by decide +kernel
theorem dL_law_652 : decode cL_law 652 = .ok (.iload 20, 2) := by decide +kernel
theorem dL_law_654 : decode cL_law 654 = .ok (.imul, 1) := by decide +kernel
theorem dL_law_655 : decode cL_law 655 = .ok (.iload 19, 2) := by decide +kernel
theorem dL_law_657 : decode cL_law 657 = .ok (.iadd, 1) := by decide +kernel
theorem dL_law_658 : decode cL_law 658 = .ok (.iaload, 1) := by decide +kernel
theorem dL_law_659 : decode cL_law 659 = .ok (.iload 21, 2) := by decide +kernel
theorem dL_law_661 : decode cL_law 661 = .ok (.isub, 1) := by decide +kernel
theorem dL_law_662 : decode cL_law 662 = .ok (.iastore, 1) := by decide +kernel
theorem dL_law_663 : decode cL_law 663 = .ok (.aload 6, 2) := by decide +kernel
theorem dL_law_665 : decode cL_law 665 = .ok (.iconst 3, 1) := by decide +kernel
theorem dL_law_666 : decode cL_law 666 = .ok (.dup2, 1) := by decide +kernel
theorem dL_law_667 : decode cL_law 667 = .ok (.iaload, 1) := by decide +kernel
theorem dL_law_668 : decode cL_law 668 = .ok (.iconst 1, 1) := by decide +kernel
theorem dL_law_669 : decode cL_law 669 = .ok (.iadd, 1) := by decide +kernel
theorem dL_law_670 : decode cL_law 670 = .ok (.iastore, 1) := by decide +kernel
theorem dL_law_671 : decode cL_law 671 = .ok (.aload_n 1, 1) := by decide +kernel
theorem dL_law_672 : decode cL_law 672 = .ok (.bipush 10, 2) := by decide +kernel
theorem dL_law_674 : decode cL_law 674 = .ok (.iload 19, 2) := by decide +kernel
theorem dL_law_676 : decode cL_law 676 = .ok (.imul, 1) := by decide +kernel
theorem dL_law_677 : decode cL_law 677 = .ok (.iload 20, 2) := by decide +kernel
theorem dL_law_679 : decode cL_law 679 = .ok (.iadd, 1) := by decide +kernel
theorem dL_law_680 : decode cL_law 680 = .ok (.iload 21, 2) := by decide +kernel
theorem dL_law_682 : decode cL_law 682 = .ok (.invokevirtual 49, 3) := by decide +kernel
theorem dL_law_685 : decode cL_law 685 = .ok (.aload 4, 2) := by decide +kernel
theorem dL_law_687 : decode cL_law 687 = .ok (.bipush 8, 2) := by decide +kernel
theorem dL_law_689 : decode cL_law 689 = .ok (.iload 20, 2) := by decide +kernel
theorem dL_law_691 : decode cL_law 691 = .ok (.imul, 1) := by decide +kernel
theorem dL_law_692 : decode cL_law 692 = .ok (.iload 19, 2) := by decide +kernel
theorem dL_law_694 : decode cL_law 694 = .ok (.iadd, 1) := by decide +kernel
theorem dL_law_695 : decode cL_law 695 = .ok (.iaload, 1) := by decide +kernel
theorem dL_law_696 : decode cL_law 696 = .ok (.bipush 100, 2) := by decide +kernel
theorem dL_law_698 : decode cL_law 698 = .ok (.iadd, 1) := by decide +kernel
theorem dL_law_699 : decode cL_law 699 = .ok (.if_icmp .eq 5, 3) := by decide +kernel
theorem dL_law_702 : decode cL_law 702 = .ok (.iconst 0, 1) := by decide +kernel
theorem dL_law_703 : decode cL_law 703 = .ok (.ireturn, 1) := by decide +kernel
theorem dL_law_704 : decode cL_law 704 = .ok (.goto 265, 3) := by decide +kernel
theorem dL_law_707 : decode cL_law 707 = .ok (.iload 18, 2) := by decide +kernel
theorem dL_law_709 : decode cL_law 709 = .ok (.iconst 4, 1) := by decide +kernel
theorem dL_law_710 : decode cL_law 710 = .ok (.if_icmp .ne 150, 3) := by decide +kernel
theorem dL_law_713 : decode cL_law 713 = .ok (.iload 17, 2) := by decide +kernel
theorem dL_law_715 : decode cL_law 715 = .ok (.bipush 13, 2) := by decide +kernel
theorem dL_law_717 : decode cL_law 717 = .ok (.iushr, 1) := by decide +kernel
theorem dL_law_718 : decode cL_law 718 = .ok (.aload_n 2, 1) := by decide +kernel
theorem dL_law_719 : decode cL_law 719 = .ok (.iconst 0, 1) := by decide +kernel
theorem dL_law_720 : decode cL_law 720 = .ok (.iaload, 1) := by decide +kernel
theorem dL_law_721 : decode cL_law 721 = .ok (.irem, 1) := by decide +kernel
theorem dL_law_722 : decode cL_law 722 = .ok (.istore 21, 2) := by decide +kernel
theorem dL_law_724 : decode cL_law 724 = .ok (.iload 21, 2) := by decide +kernel
theorem dL_law_726 : decode cL_law 726 = .ok (.iload 19, 2) := by decide +kernel
theorem dL_law_728 : decode cL_law 728 = .ok (.if_icmp .eq 14, 3) := by decide +kernel
theorem dL_law_731 : decode cL_law 731 = .ok (.iload 21, 2) := by decide +kernel
theorem dL_law_733 : decode cL_law 733 = .ok (.iload 20, 2) := by decide +kernel
theorem dL_law_735 : decode cL_law 735 = .ok (.if_icmp .eq 7, 3) := by decide +kernel
theorem dL_law_738 : decode cL_law 738 = .ok (.iconst 1, 1) := by decide +kernel
theorem dL_law_739 : decode cL_law 739 = .ok (.goto 4, 3) := by decide +kernel
theorem dL_law_742 : decode cL_law 742 = .ok (.iconst 0, 1) := by decide +kernel
theorem dL_law_743 : decode cL_law 743 = .ok (.istore 22, 2) := by decide +kernel
theorem dL_law_745 : decode cL_law 745 = .ok (.iload 22, 2) := by decide +kernel
theorem dL_law_747 : decode cL_law 747 = .ok (.ifCond .ne 7, 3) := by decide +kernel
theorem dL_law_750 : decode cL_law 750 = .ok (.iconst (-1), 1) := by decide +kernel
theorem dL_law_751 : decode cL_law 751 = .ok (.goto 36, 3) := by decide +kernel
theorem dL_law_754 : decode cL_law 754 = .ok (.aload 4, 2) := by decide +kernel
theorem dL_law_756 : decode cL_law 756 = .ok (.bipush 8, 2) := by decide +kernel
theorem dL_law_758 : decode cL_law 758 = .ok (.iload 20, 2) := by decide +kernel
theorem dL_law_760 : decode cL_law 760 = .ok (.imul, 1) := by decide +kernel
theorem dL_law_761 : decode cL_law 761 = .ok (.iload 21, 2) := by decide +kernel
theorem dL_law_763 : decode cL_law 763 = .ok (.iadd, 1) := by decide +kernel
theorem dL_law_764 : decode cL_law 764 = .ok (.iaload, 1) := by decide +kernel
theorem dL_law_765 : decode cL_law 765 = .ok (.ifCond .ge 20, 3) := by decide +kernel
theorem dL_law_768 : decode cL_law 768 = .ok (.aload 4, 2) := by decide +kernel
theorem dL_law_770 : decode cL_law 770 = .ok (.bipush 8, 2) := by decide +kernel
theorem dL_law_772 : decode cL_law 772 = .ok (.iload 20, 2) := by decide +kernel
theorem dL_law_774 : decode cL_law 774 = .ok (.imul, 1) := by decide +kernel
theorem dL_law_775 : decode cL_law 775 = .ok (.iload 21, 2) := by decide +kernel
theorem dL_law_777 : decode cL_law 777 = .ok (.iadd, 1) := by decide +kernel
theorem dL_law_778 : decode cL_law 778 = .ok (.iaload, 1) := by decide +kernel
theorem dL_law_779 : decode cL_law 779 = .ok (.bipush 100, 2) := by decide +kernel
theorem dL_law_781 : decode cL_law 781 = .ok (.iadd, 1) := by decide +kernel
theorem dL_law_782 : decode cL_law 782 = .ok (.goto 5, 3) := by decide +kernel
theorem dL_law_785 : decode cL_law 785 = .ok (.bipush (-5), 2) := by decide +kernel
theorem dL_law_787 : decode cL_law 787 = .ok (.istore 23, 2) := by decide +kernel
theorem dL_law_789 : decode cL_law 789 = .ok (.aload_n 1, 1) := by decide +kernel
theorem dL_law_790 : decode cL_law 790 = .ok (.bipush 10, 2) := by decide +kernel
theorem dL_law_792 : decode cL_law 792 = .ok (.iload 19, 2) := by decide +kernel
theorem dL_law_794 : decode cL_law 794 = .ok (.imul, 1) := by decide +kernel
theorem dL_law_795 : decode cL_law 795 = .ok (.iload 20, 2) := by decide +kernel
theorem dL_law_797 : decode cL_law 797 = .ok (.iadd, 1) := by decide +kernel
theorem dL_law_798 : decode cL_law 798 = .ok (.iload 21, 2) := by decide +kernel
theorem dL_law_800 : decode cL_law 800 = .ok (.invokevirtual 52, 3) := by decide +kernel
theorem dL_law_803 : decode cL_law 803 = .ok (.iload 23, 2) := by decide +kernel
theorem dL_law_805 : decode cL_law 805 = .ok (.if_icmp .eq 5, 3) := by decide +kernel
theorem dL_law_808 : decode cL_law 808 = .ok (.iconst 0, 1) := by decide +kernel
theorem dL_law_809 : decode cL_law 809 = .ok (.ireturn, 1) := by decide +kernel
theorem dL_law_810 : decode cL_law 810 = .ok (.iload 23, 2) := by decide +kernel
theorem dL_law_812 : decode cL_law 812 = .ok (.ifCond .le 45, 3) := by decide +kernel
theorem dL_law_815 : decode cL_law 815 = .ok (.aload 4, 2) := by decide +kernel
theorem dL_law_817 : decode cL_law 817 = .ok (.bipush 8, 2) := by decide +kernel
theorem dL_law_819 : decode cL_law 819 = .ok (.iload 19, 2) := by decide +kernel
theorem dL_law_821 : decode cL_law 821 = .ok (.imul, 1) := by decide +kernel
theorem dL_law_822 : decode cL_law 822 = .ok (.iload 21, 2) := by decide +kernel
theorem dL_law_824 : decode cL_law 824 = .ok (.iadd, 1) := by decide +kernel
theorem dL_law_825 : decode cL_law 825 = .ok (.aload 4, 2) := by decide +kernel
theorem dL_law_827 : decode cL_law 827 = .ok (.bipush 8, 2) := by decide +kernel
theorem dL_law_829 : decode cL_law 829 = .ok (.iload 20, 2) := by decide +kernel
theorem dL_law_831 : decode cL_law 831 = .ok (.imul, 1) := by decide +kernel
theorem dL_law_832 : decode cL_law 832 = .ok (.iload 21, 2) := by decide +kernel
theorem dL_law_834 : decode cL_law 834 = .ok (.iadd, 1) := by decide +kernel
theorem dL_law_835 : decode cL_law 835 = .ok (.iaload, 1) := by decide +kernel
theorem dL_law_836 : decode cL_law 836 = .ok (.iastore, 1) := by decide +kernel
theorem dL_law_837 : decode cL_law 837 = .ok (.aload 4, 2) := by decide +kernel
theorem dL_law_839 : decode cL_law 839 = .ok (.bipush 8, 2) := by decide +kernel
theorem dL_law_841 : decode cL_law 841 = .ok (.iload 20, 2) := by decide +kernel
theorem dL_law_843 : decode cL_law 843 = .ok (.imul, 1) := by decide +kernel
theorem dL_law_844 : decode cL_law 844 = .ok (.iload 21, 2) := by decide +kernel
theorem dL_law_846 : decode cL_law 846 = .ok (.iadd, 1) := by decide +kernel
theorem dL_law_847 : decode cL_law 847 = .ok (.iconst 0, 1) := by decide +kernel
theorem dL_law_848 : decode cL_law 848 = .ok (.iastore, 1) := by decide +kernel
theorem dL_law_849 : decode cL_law 849 = .ok (.aload 6, 2) := by decide +kernel
theorem dL_law_851 : decode cL_law 851 = .ok (.iconst 4, 1) := by decide +kernel
theorem dL_law_852 : decode cL_law 852 = .ok (.dup2, 1) := by decide +kernel
theorem dL_law_853 : decode cL_law 853 = .ok (.iaload, 1) := by decide +kernel
theorem dL_law_854 : decode cL_law 854 = .ok (.iconst 1, 1) := by decide +kernel
theorem dL_law_855 : decode cL_law 855 = .ok (.iadd, 1) := by decide +kernel
theorem dL_law_856 : decode cL_law 856 = .ok (.iastore, 1) := by decide +kernel
theorem dL_law_857 : decode cL_law 857 = .ok (.goto 112, 3) := by decide +kernel
theorem dL_law_860 : decode cL_law 860 = .ok (.iconst 1, 1) := by decide +kernel
theorem dL_law_861 : decode cL_law 861 = .ok (.iload 17, 2) := by decide +kernel
theorem dL_law_863 : decode cL_law 863 = .ok (.bipush 13, 2) := by decide +kernel
theorem dL_law_865 : decode cL_law 865 = .ok (.iushr, 1) := by decide +kernel
theorem dL_law_866 : decode cL_law 866 = .ok (.bipush 99, 2) := by decide +kernel
theorem dL_law_868 : decode cL_law 868 = .ok (.irem, 1) := by decide +kernel
theorem dL_law_869 : decode cL_law 869 = .ok (.iadd, 1) := by decide +kernel
theorem dL_law_870 : decode cL_law 870 = .ok (.istore 21, 2) := by decide +kernel
theorem dL_law_872 : decode cL_law 872 = .ok (.aload_n 3, 1) := by decide +kernel
theorem dL_law_873 : decode cL_law 873 = .ok (.iconst 2, 1) := by decide +kernel
theorem dL_law_874 : decode cL_law 874 = .ok (.iload 19, 2) := by decide +kernel
theorem dL_law_876 : decode cL_law 876 = .ok (.imul, 1) := by decide +kernel
theorem dL_law_877 : decode cL_law 877 = .ok (.aload_n 3, 1) := by decide +kernel
theorem dL_law_878 : decode cL_law 878 = .ok (.iconst 2, 1) := by decide +kernel
theorem dL_law_879 : decode cL_law 879 = .ok (.iload 19, 2) := by decide +kernel
theorem dL_law_881 : decode cL_law 881 = .ok (.imul, 1) := by decide +kernel
theorem dL_law_882 : decode cL_law 882 = .ok (.iaload, 1) := by decide +kernel
theorem dL_law_883 : decode cL_law 883 = .ok (.iload 21, 2) := by decide +kernel
theorem dL_law_885 : decode cL_law 885 = .ok (.iadd, 1) := by decide +kernel
theorem dL_law_886 : decode cL_law 886 = .ok (.bipush 99, 2) := by decide +kernel
theorem dL_law_888 : decode cL_law 888 = .ok (.if_icmp .le 8, 3) := by decide +kernel
theorem dL_law_891 : decode cL_law 891 = .ok (.bipush 99, 2) := by decide +kernel
theorem dL_law_893 : decode cL_law 893 = .ok (.goto 12, 3) := by decide +kernel
theorem dL_law_896 : decode cL_law 896 = .ok (.aload_n 3, 1) := by decide +kernel
theorem dL_law_897 : decode cL_law 897 = .ok (.iconst 2, 1) := by decide +kernel
theorem dL_law_898 : decode cL_law 898 = .ok (.iload 19, 2) := by decide +kernel
theorem dL_law_900 : decode cL_law 900 = .ok (.imul, 1) := by decide +kernel
theorem dL_law_901 : decode cL_law 901 = .ok (.iaload, 1) := by decide +kernel
theorem dL_law_902 : decode cL_law 902 = .ok (.iload 21, 2) := by decide +kernel
theorem dL_law_904 : decode cL_law 904 = .ok (.iadd, 1) := by decide +kernel
theorem dL_law_905 : decode cL_law 905 = .ok (.iastore, 1) := by decide +kernel
theorem dL_law_906 : decode cL_law 906 = .ok (.aload_n 3, 1) := by decide +kernel
theorem dL_law_907 : decode cL_law 907 = .ok (.iconst 2, 1) := by decide +kernel
theorem dL_law_908 : decode cL_law 908 = .ok (.iload 20, 2) := by decide +kernel
theorem dL_law_910 : decode cL_law 910 = .ok (.imul, 1) := by decide +kernel
theorem dL_law_911 : decode cL_law 911 = .ok (.aload_n 3, 1) := by decide +kernel
theorem dL_law_912 : decode cL_law 912 = .ok (.iconst 2, 1) := by decide +kernel
theorem dL_law_913 : decode cL_law 913 = .ok (.iload 20, 2) := by decide +kernel
theorem dL_law_915 : decode cL_law 915 = .ok (.imul, 1) := by decide +kernel
theorem dL_law_916 : decode cL_law 916 = .ok (.iaload, 1) := by decide +kernel
theorem dL_law_917 : decode cL_law 917 = .ok (.iload 21, 2) := by decide +kernel
theorem dL_law_919 : decode cL_law 919 = .ok (.if_icmp .le 15, 3) := by decide +kernel
theorem dL_law_922 : decode cL_law 922 = .ok (.aload_n 3, 1) := by decide +kernel
theorem dL_law_923 : decode cL_law 923 = .ok (.iconst 2, 1) := by decide +kernel
theorem dL_law_924 : decode cL_law 924 = .ok (.iload 20, 2) := by decide +kernel
theorem dL_law_926 : decode cL_law 926 = .ok (.imul, 1) := by decide +kernel
theorem dL_law_927 : decode cL_law 927 = .ok (.iaload, 1) := by decide +kernel
theorem dL_law_928 : decode cL_law 928 = .ok (.iload 21, 2) := by decide +kernel
theorem dL_law_930 : decode cL_law 930 = .ok (.isub, 1) := by decide +kernel
theorem dL_law_931 : decode cL_law 931 = .ok (.goto 4, 3) := by decide +kernel
theorem dL_law_934 : decode cL_law 934 = .ok (.iconst 0, 1) := by decide +kernel
theorem dL_law_935 : decode cL_law 935 = .ok (.iastore, 1) := by decide +kernel
theorem dL_law_936 : decode cL_law 936 = .ok (.aload 6, 2) := by decide +kernel
theorem dL_law_938 : decode cL_law 938 = .ok (.iconst 5, 1) := by decide +kernel
theorem dL_law_939 : decode cL_law 939 = .ok (.dup2, 1) := by decide +kernel
theorem dL_law_940 : decode cL_law 940 = .ok (.iaload, 1) := by decide +kernel
theorem dL_law_941 : decode cL_law 941 = .ok (.iconst 1, 1) := by decide +kernel
theorem dL_law_942 : decode cL_law 942 = .ok (.iadd, 1) := by decide +kernel
theorem dL_law_943 : decode cL_law 943 = .ok (.iastore, 1) := by decide +kernel
theorem dL_law_944 : decode cL_law 944 = .ok (.aload_n 1, 1) := by decide +kernel
theorem dL_law_945 : decode cL_law 945 = .ok (.bipush 10, 2) := by decide +kernel
theorem dL_law_947 : decode cL_law 947 = .ok (.iload 19, 2) := by decide +kernel
theorem dL_law_949 : decode cL_law 949 = .ok (.imul, 1) := by decide +kernel
theorem dL_law_950 : decode cL_law 950 = .ok (.iload 20, 2) := by decide +kernel
theorem dL_law_952 : decode cL_law 952 = .ok (.iadd, 1) := by decide +kernel
theorem dL_law_953 : decode cL_law 953 = .ok (.iload 21, 2) := by decide +kernel
theorem dL_law_955 : decode cL_law 955 = .ok (.invokevirtual 55, 3) := by decide +kernel
theorem dL_law_958 : decode cL_law 958 = .ok (.aload_n 3, 1) := by decide +kernel
theorem dL_law_959 : decode cL_law 959 = .ok (.iconst 2, 1) := by decide +kernel
theorem dL_law_960 : decode cL_law 960 = .ok (.iload 19, 2) := by decide +kernel
theorem dL_law_962 : decode cL_law 962 = .ok (.imul, 1) := by decide +kernel
theorem dL_law_963 : decode cL_law 963 = .ok (.iaload, 1) := by decide +kernel
theorem dL_law_964 : decode cL_law 964 = .ok (.if_icmp .eq 5, 3) := by decide +kernel
theorem dL_law_967 : decode cL_law 967 = .ok (.iconst 0, 1) := by decide +kernel
theorem dL_law_968 : decode cL_law 968 = .ok (.ireturn, 1) := by decide +kernel
theorem dL_law_969 : decode cL_law 969 = .ok (.iinc 16 1, 3) := by decide +kernel
theorem dL_law_972 : decode cL_law 972 = .ok (.goto (-570), 3) := by decide +kernel
theorem dL_law_975 : decode cL_law 975 = .ok (.iconst 0, 1) := by decide +kernel
theorem dL_law_976 : decode cL_law 976 = .ok (.istore 16, 2) := by decide +kernel
theorem dL_law_978 : decode cL_law 978 = .ok (.iload 16, 2) := by decide +kernel
theorem dL_law_980 : decode cL_law 980 = .ok (.bipush 6, 2) := by decide +kernel
theorem dL_law_982 : decode cL_law 982 = .ok (.if_icmp .ge 25, 3) := by decide +kernel
theorem dL_law_985 : decode cL_law 985 = .ok (.aload_n 1, 1) := by decide +kernel
theorem dL_law_986 : decode cL_law 986 = .ok (.iload 16, 2) := by decide +kernel
theorem dL_law_988 : decode cL_law 988 = .ok (.invokevirtual 58, 3) := by decide +kernel
theorem dL_law_991 : decode cL_law 991 = .ok (.aload 6, 2) := by decide +kernel
theorem dL_law_993 : decode cL_law 993 = .ok (.iload 16, 2) := by decide +kernel
theorem dL_law_995 : decode cL_law 995 = .ok (.iaload, 1) := by decide +kernel
theorem dL_law_996 : decode cL_law 996 = .ok (.if_icmp .eq 5, 3) := by decide +kernel
theorem dL_law_999 : decode cL_law 999 = .ok (.iconst 0, 1) := by decide +kernel
theorem dL_law_1000 : decode cL_law 1000 = .ok (.ireturn, 1) := by decide +kernel
theorem dL_law_1001 : decode cL_law 1001 = .ok (.iinc 16 1, 3) := by decide +kernel
theorem dL_law_1004 : decode cL_law 1004 = .ok (.goto (-26), 3) := by decide +kernel
theorem dL_law_1007 : decode cL_law 1007 = .ok (.iconst 0, 1) := by decide +kernel
theorem dL_law_1008 : decode cL_law 1008 = .ok (.istore 16, 2) := by decide +kernel
theorem dL_law_1010 : decode cL_law 1010 = .ok (.iconst 0, 1) := by decide +kernel
theorem dL_law_1011 : decode cL_law 1011 = .ok (.istore 17, 2) := by decide +kernel
theorem dL_law_1013 : decode cL_law 1013 = .ok (.iload 17, 2) := by decide +kernel
theorem dL_law_1015 : decode cL_law 1015 = .ok (.aload_n 2, 1) := by decide +kernel
theorem dL_law_1016 : decode cL_law 1016 = .ok (.iconst 0, 1) := by decide +kernel
theorem dL_law_1017 : decode cL_law 1017 = .ok (.iaload, 1) := by decide +kernel
theorem dL_law_1018 : decode cL_law 1018 = .ok (.if_icmp .ge 124, 3) := by decide +kernel
theorem dL_law_1021 : decode cL_law 1021 = .ok (.aload_n 1, 1) := by decide +kernel
theorem dL_law_1022 : decode cL_law 1022 = .ok (.iload 17, 2) := by decide +kernel
theorem dL_law_1024 : decode cL_law 1024 = .ok (.iconst 0, 1) := by decide +kernel
theorem dL_law_1025 : decode cL_law 1025 = .ok (.invokevirtual 43, 3) := by decide +kernel
theorem dL_law_1028 : decode cL_law 1028 = .ok (.aload_n 3, 1) := by decide +kernel
theorem dL_law_1029 : decode cL_law 1029 = .ok (.iconst 2, 1) := by decide +kernel
theorem dL_law_1030 : decode cL_law 1030 = .ok (.iload 17, 2) := by decide +kernel
theorem dL_law_1032 : decode cL_law 1032 = .ok (.imul, 1) := by decide +kernel
theorem dL_law_1033 : decode cL_law 1033 = .ok (.iaload, 1) := by decide +kernel
theorem dL_law_1034 : decode cL_law 1034 = .ok (.if_icmp .ne 21, 3) := by decide +kernel
theorem dL_law_1037 : decode cL_law 1037 = .ok (.aload_n 1, 1) := by decide +kernel
theorem dL_law_1038 : decode cL_law 1038 = .ok (.iload 17, 2) := by decide +kernel
theorem dL_law_1040 : decode cL_law 1040 = .ok (.iconst 1, 1) := by decide +kernel
theorem dL_law_1041 : decode cL_law 1041 = .ok (.invokevirtual 43, 3) := by decide +kernel
theorem dL_law_1044 : decode cL_law 1044 = .ok (.aload_n 3, 1) := by decide +kernel
theorem dL_law_1045 : decode cL_law 1045 = .ok (.iconst 2, 1) := by decide +kernel
theorem dL_law_1046 : decode cL_law 1046 = .ok (.iload 17, 2) := by decide +kernel
theorem dL_law_1048 : decode cL_law 1048 = .ok (.imul, 1) := by decide +kernel
theorem dL_law_1049 : decode cL_law 1049 = .ok (.iconst 1, 1) := by decide +kernel
theorem dL_law_1050 : decode cL_law 1050 = .ok (.iadd, 1) := by decide +kernel
theorem dL_law_1051 : decode cL_law 1051 = .ok (.iaload, 1) := by decide +kernel
theorem dL_law_1052 : decode cL_law 1052 = .ok (.if_icmp .eq 5, 3) := by decide +kernel
theorem dL_law_1055 : decode cL_law 1055 = .ok (.iconst 0, 1) := by decide +kernel
theorem dL_law_1056 : decode cL_law 1056 = .ok (.ireturn, 1) := by decide +kernel
theorem dL_law_1057 : decode cL_law 1057 = .ok (.iconst 0, 1) := by decide +kernel
theorem dL_law_1058 : decode cL_law 1058 = .ok (.istore 18, 2) := by decide +kernel
theorem dL_law_1060 : decode cL_law 1060 = .ok (.iload 18, 2) := by decide +kernel
theorem dL_law_1062 : decode cL_law 1062 = .ok (.aload_n 2, 1) := by decide +kernel
theorem dL_law_1063 : decode cL_law 1063 = .ok (.iconst 0, 1) := by decide +kernel
theorem dL_law_1064 : decode cL_law 1064 = .ok (.iaload, 1) := by decide +kernel
theorem dL_law_1065 : decode cL_law 1065 = .ok (.if_icmp .ge 71, 3) := by decide +kernel
theorem dL_law_1068 : decode cL_law 1068 = .ok (.iload 17, 2) := by decide +kernel
theorem dL_law_1070 : decode cL_law 1070 = .ok (.iload 18, 2) := by decide +kernel
theorem dL_law_1072 : decode cL_law 1072 = .ok (.if_icmp .eq 34, 3) := by decide +kernel
theorem dL_law_1075 : decode cL_law 1075 = .ok (.aload_n 1, 1) := by decide +kernel
theorem dL_law_1076 : decode cL_law 1076 = .ok (.bipush 10, 2) := by decide +kernel
theorem dL_law_1078 : decode cL_law 1078 = .ok (.iload 17, 2) := by decide +kernel
theorem dL_law_1080 : decode cL_law 1080 = .ok (.imul, 1) := by decide +kernel
theorem dL_law_1081 : decode cL_law 1081 = .ok (.iload 18, 2) := by decide +kernel
theorem dL_law_1083 : decode cL_law 1083 = .ok (.iadd, 1) := by decide +kernel
theorem dL_law_1084 : decode cL_law 1084 = .ok (.invokevirtual 61, 3) := by decide +kernel
theorem dL_law_1087 : decode cL_law 1087 = .ok (.aload 4, 2) := by decide +kernel
theorem dL_law_1089 : decode cL_law 1089 = .ok (.bipush 8, 2) := by decide +kernel
theorem dL_law_1091 : decode cL_law 1091 = .ok (.iload 17, 2) := by decide +kernel
theorem dL_law_1093 : decode cL_law 1093 = .ok (.imul, 1) := by decide +kernel
theorem dL_law_1094 : decode cL_law 1094 = .ok (.iload 18, 2) := by decide +kernel
theorem dL_law_1096 : decode cL_law 1096 = .ok (.iadd, 1) := by decide +kernel
theorem dL_law_1097 : decode cL_law 1097 = .ok (.iaload, 1) := by decide +kernel
theorem dL_law_1098 : decode cL_law 1098 = .ok (.bipush 100, 2) := by decide +kernel
theorem dL_law_1100 : decode cL_law 1100 = .ok (.iadd, 1) := by decide +kernel
theorem dL_law_1101 : decode cL_law 1101 = .ok (.if_icmp .eq 5, 3) := by decide +kernel
theorem dL_law_1104 : decode cL_law 1104 = .ok (.iconst 0, 1) := by decide +kernel
theorem dL_law_1105 : decode cL_law 1105 = .ok (.ireturn, 1) := by decide +kernel
theorem dL_law_1106 : decode cL_law 1106 = .ok (.iload 16, 2) := by decide +kernel
theorem dL_law_1108 : decode cL_law 1108 = .ok (.aload 4, 2) := by decide +kernel
theorem dL_law_1110 : decode cL_law 1110 = .ok (.bipush 8, 2) := by decide +kernel
theorem dL_law_1112 : decode cL_law 1112 = .ok (.iload 17, 2) := by decide +kernel
theorem dL_law_1114 : decode cL_law 1114 = .ok (.imul, 1) := by decide +kernel
theorem dL_law_1115 : decode cL_law 1115 = .ok (.iload 18, 2) := by decide +kernel
theorem dL_law_1117 : decode cL_law 1117 = .ok (.iadd, 1) := by decide +kernel
theorem dL_law_1118 : decode cL_law 1118 = .ok (.iaload, 1) := by decide +kernel
theorem dL_law_1119 : decode cL_law 1119 = .ok (.ifCond .ge 7, 3) := by decide +kernel
theorem dL_law_1122 : decode cL_law 1122 = .ok (.iconst 1, 1) := by decide +kernel
theorem dL_law_1123 : decode cL_law 1123 = .ok (.goto 4, 3) := by decide +kernel
theorem dL_law_1126 : decode cL_law 1126 = .ok (.iconst 0, 1) := by decide +kernel
theorem dL_law_1127 : decode cL_law 1127 = .ok (.iadd, 1) := by decide +kernel
theorem dL_law_1128 : decode cL_law 1128 = .ok (.istore 16, 2) := by decide +kernel
theorem dL_law_1130 : decode cL_law 1130 = .ok (.iinc 18 1, 3) := by decide +kernel
theorem dL_law_1133 : decode cL_law 1133 = .ok (.goto (-73), 3) := by decide +kernel
theorem dL_law_1136 : decode cL_law 1136 = .ok (.iinc 17 1, 3) := by decide +kernel
theorem dL_law_1139 : decode cL_law 1139 = .ok (.goto (-126), 3) := by decide +kernel
theorem dL_law_1142 : decode cL_law 1142 = .ok (.aload_n 1, 1) := by decide +kernel
theorem dL_law_1143 : decode cL_law 1143 = .ok (.iconst 5, 1) := by decide +kernel
theorem dL_law_1144 : decode cL_law 1144 = .ok (.invokevirtual 64, 3) := by decide +kernel
theorem dL_law_1147 : decode cL_law 1147 = .ok (.iload 16, 2) := by decide +kernel
theorem dL_law_1149 : decode cL_law 1149 = .ok (.if_icmp .eq 5, 3) := by decide +kernel
theorem dL_law_1152 : decode cL_law 1152 = .ok (.iconst 0, 1) := by decide +kernel
theorem dL_law_1153 : decode cL_law 1153 = .ok (.ireturn, 1) := by decide +kernel
theorem dL_law_1154 : decode cL_law 1154 = .ok (.iinc 8 1, 3) := by decide +kernel
theorem dL_law_1157 : decode cL_law 1157 = .ok (.goto (-1095), 3) := by decide +kernel
theorem dL_law_1160 : decode cL_law 1160 = .ok (.aload_n 1, 1) := by decide +kernel
theorem dL_law_1161 : decode cL_law 1161 = .ok (.iconst 0, 1) := by decide +kernel
theorem dL_law_1162 : decode cL_law 1162 = .ok (.invokevirtual 61, 3) := by decide +kernel
theorem dL_law_1165 : decode cL_law 1165 = .ok (.iconst (-1), 1) := by decide +kernel
theorem dL_law_1166 : decode cL_law 1166 = .ok (.if_icmp .ne 81, 3) := by decide +kernel
theorem dL_law_1169 : decode cL_law 1169 = .ok (.aload_n 1, 1) := by decide +kernel
theorem dL_law_1170 : decode cL_law 1170 = .ok (.aload_n 2, 1) := by decide +kernel
theorem dL_law_1171 : decode cL_law 1171 = .ok (.iconst 0, 1) := by decide +kernel
theorem dL_law_1172 : decode cL_law 1172 = .ok (.iaload, 1) := by decide +kernel
theorem dL_law_1173 : decode cL_law 1173 = .ok (.invokevirtual 61, 3) := by decide +kernel
theorem dL_law_1176 : decode cL_law 1176 = .ok (.iconst (-1), 1) := by decide +kernel
theorem dL_law_1177 : decode cL_law 1177 = .ok (.if_icmp .ne 70, 3) := by decide +kernel
theorem dL_law_1180 : decode cL_law 1180 = .ok (.aload_n 1, 1) := by decide +kernel
theorem dL_law_1181 : decode cL_law 1181 = .ok (.aload_n 2, 1) := by decide +kernel
theorem dL_law_1182 : decode cL_law 1182 = .ok (.iconst 0, 1) := by decide +kernel
theorem dL_law_1183 : decode cL_law 1183 = .ok (.iaload, 1) := by decide +kernel
theorem dL_law_1184 : decode cL_law 1184 = .ok (.invokevirtual 36, 3) := by decide +kernel
theorem dL_law_1187 : decode cL_law 1187 = .ok (.iconst (-1), 1) := by decide +kernel
theorem dL_law_1188 : decode cL_law 1188 = .ok (.if_icmp .ne 59, 3) := by decide +kernel
theorem dL_law_1191 : decode cL_law 1191 = .ok (.aload_n 1, 1) := by decide +kernel
theorem dL_law_1192 : decode cL_law 1192 = .ok (.bipush 11, 2) := by decide +kernel
theorem dL_law_1194 : decode cL_law 1194 = .ok (.iconst 1, 1) := by decide +kernel
theorem dL_law_1195 : decode cL_law 1195 = .ok (.invokevirtual 49, 3) := by decide +kernel
theorem dL_law_1198 : decode cL_law 1198 = .ok (.iconst (-1), 1) := by decide +kernel
theorem dL_law_1199 : decode cL_law 1199 = .ok (.if_icmp .ne 48, 3) := by decide +kernel
theorem dL_law_1202 : decode cL_law 1202 = .ok (.aload_n 1, 1) := by decide +kernel
theorem dL_law_1203 : decode cL_law 1203 = .ok (.iconst 1, 1) := by decide +kernel
theorem dL_law_1204 : decode cL_law 1204 = .ok (.iconst 0, 1) := by decide +kernel
theorem dL_law_1205 : decode cL_law 1205 = .ok (.invokevirtual 49, 3) := by decide +kernel
theorem dL_law_1208 : decode cL_law 1208 = .ok (.iconst (-1), 1) := by decide +kernel
theorem dL_law_1209 : decode cL_law 1209 = .ok (.if_icmp .ne 38, 3) := by decide +kernel
theorem dL_law_1212 : decode cL_law 1212 = .ok (.aload_n 1, 1) := by decide +kernel
theorem dL_law_1213 : decode cL_law 1213 = .ok (.iconst 1, 1) := by decide +kernel
theorem dL_law_1214 : decode cL_law 1214 = .ok (.bipush 100, 2) := by decide +kernel
theorem dL_law_1216 : decode cL_law 1216 = .ok (.invokevirtual 55, 3) := by decide +kernel
theorem dL_law_1219 : decode cL_law 1219 = .ok (.iconst (-1), 1) := by decide +kernel
theorem dL_law_1220 : decode cL_law 1220 = .ok (.if_icmp .ne 27, 3) := by decide +kernel
theorem dL_law_1223 : decode cL_law 1223 = .ok (.aload_n 1, 1) := by decide +kernel
theorem dL_law_1224 : decode cL_law 1224 = .ok (.iconst 0, 1) := by decide +kernel
theorem dL_law_1225 : decode cL_law 1225 = .ok (.iconst 1, 1) := by decide +kernel
theorem dL_law_1226 : decode cL_law 1226 = .ok (.invokevirtual 52, 3) := by decide +kernel
theorem dL_law_1229 : decode cL_law 1229 = .ok (.iconst (-1), 1) := by decide +kernel
theorem dL_law_1230 : decode cL_law 1230 = .ok (.if_icmp .ne 17, 3) := by decide +kernel
theorem dL_law_1233 : decode cL_law 1233 = .ok (.aload_n 1, 1) := by decide +kernel
theorem dL_law_1234 : decode cL_law 1234 = .ok (.bipush 6, 2) := by decide +kernel
theorem dL_law_1236 : decode cL_law 1236 = .ok (.invokevirtual 58, 3) := by decide +kernel
theorem dL_law_1239 : decode cL_law 1239 = .ok (.iconst (-1), 1) := by decide +kernel
theorem dL_law_1240 : decode cL_law 1240 = .ok (.if_icmp .ne 7, 3) := by decide +kernel
theorem dL_law_1243 : decode cL_law 1243 = .ok (.iconst 1, 1) := by decide +kernel
theorem dL_law_1244 : decode cL_law 1244 = .ok (.goto 4, 3) := by decide +kernel
theorem dL_law_1247 : decode cL_law 1247 = .ok (.iconst 0, 1) := by decide +kernel
theorem dL_law_1248 : decode cL_law 1248 = .ok (.ireturn, 1) := by decide +kernel
theorem dL_three_0 : decode cL_three 0 = .ok (.aload_n 0, 1) := by decide +kernel
theorem dL_three_1 : decode cL_three 1 = .ok (.iload_n 1, 1) := by decide +kernel
theorem dL_three_2 : decode cL_three 2 = .ok (.invokevirtual 67, 3) := by decide +kernel
theorem dL_three_5 : decode cL_three 5 = .ok (.ifCond .le 23, 3) := by decide +kernel
theorem dL_three_8 : decode cL_three 8 = .ok (.aload_n 0, 1) := by decide +kernel
theorem dL_three_9 : decode cL_three 9 = .ok (.iload_n 2, 1) := by decide +kernel
theorem dL_three_10 : decode cL_three 10 = .ok (.invokevirtual 67, 3) := by decide +kernel
theorem dL_three_13 : decode cL_three 13 = .ok (.ifCond .le 15, 3) := by decide +kernel
theorem dL_three_16 : decode cL_three 16 = .ok (.aload_n 0, 1) := by decide +kernel
theorem dL_three_17 : decode cL_three 17 = .ok (.iload_n 3, 1) := by decide +kernel
theorem dL_three_18 : decode cL_three 18 = .ok (.invokevirtual 67, 3) := by decide +kernel
theorem dL_three_21 : decode cL_three 21 = .ok (.ifCond .le 7, 3) := by decide +kernel
theorem dL_three_24 : decode cL_three 24 = .ok (.iconst 1, 1) := by decide +kernel
theorem dL_three_25 : decode cL_three 25 = .ok (.goto 4, 3) := by decide +kernel
theorem dL_three_28 : decode cL_three 28 = .ok (.iconst 0, 1) := by decide +kernel
theorem dL_three_29 : decode cL_three 29 = .ok (.ireturn, 1) := by decide +kernel
theorem dL_bazaar_0 : decode cL_bazaar 0 = .ok (.aload_n 1, 1) := by decide +kernel
theorem dL_bazaar_1 : decode cL_bazaar 1 = .ok (.iconst 0, 1) := by decide +kernel
theorem dL_bazaar_2 : decode cL_bazaar 2 = .ok (.invokestatic 17, 3) := by decide +kernel
theorem dL_bazaar_5 : decode cL_bazaar 5 = .ok (.istore 8, 2) := by decide +kernel
theorem dL_bazaar_7 : decode cL_bazaar 7 = .ok (.aload_n 2, 1) := by decide +kernel
theorem dL_bazaar_8 : decode cL_bazaar 8 = .ok (.iconst 0, 1) := by decide +kernel
theorem dL_bazaar_9 : decode cL_bazaar 9 = .ok (.iload 6, 2) := by decide +kernel
theorem dL_bazaar_11 : decode cL_bazaar 11 = .ok (.iload 8, 2) := by decide +kernel
theorem dL_bazaar_13 : decode cL_bazaar 13 = .ok (.iconst 1, 1) := by decide +kernel
theorem dL_bazaar_14 : decode cL_bazaar 14 = .ok (.iushr, 1) := by decide +kernel
theorem dL_bazaar_15 : decode cL_bazaar 15 = .ok (.iload 7, 2) := by decide +kernel
theorem dL_bazaar_17 : decode cL_bazaar 17 = .ok (.iload 6, 2) := by decide +kernel
theorem dL_bazaar_19 : decode cL_bazaar 19 = .ok (.isub, 1) := by decide +kernel
theorem dL_bazaar_20 : decode cL_bazaar 20 = .ok (.iconst 1, 1) := by decide +kernel
theorem dL_bazaar_21 : decode cL_bazaar 21 = .ok (.iadd, 1) := by decide +kernel
theorem dL_bazaar_22 : decode cL_bazaar 22 = .ok (.irem, 1) := by decide +kernel
theorem dL_bazaar_23 : decode cL_bazaar 23 = .ok (.iadd, 1) := by decide +kernel
theorem dL_bazaar_24 : decode cL_bazaar 24 = .ok (.iastore, 1) := by decide +kernel
theorem dL_bazaar_25 : decode cL_bazaar 25 = .ok (.aload_n 2, 1) := by decide +kernel
theorem dL_bazaar_26 : decode cL_bazaar 26 = .ok (.iconst 1, 1) := by decide +kernel
theorem dL_bazaar_27 : decode cL_bazaar 27 = .ok (.iload 8, 2) := by decide +kernel
theorem dL_bazaar_29 : decode cL_bazaar 29 = .ok (.iconst 5, 1) := by decide +kernel
theorem dL_bazaar_30 : decode cL_bazaar 30 = .ok (.iushr, 1) := by decide +kernel
theorem dL_bazaar_31 : decode cL_bazaar 31 = .ok (.iconst 3, 1) := by decide +kernel
theorem dL_bazaar_32 : decode cL_bazaar 32 = .ok (.iand, 1) := by decide +kernel
theorem dL_bazaar_33 : decode cL_bazaar 33 = .ok (.iastore, 1) := by decide +kernel
theorem dL_bazaar_34 : decode cL_bazaar 34 = .ok (.aload_n 2, 1) := by decide +kernel
theorem dL_bazaar_35 : decode cL_bazaar 35 = .ok (.iconst 2, 1) := by decide +kernel
theorem dL_bazaar_36 : decode cL_bazaar 36 = .ok (.iload 8, 2) := by decide +kernel
theorem dL_bazaar_38 : decode cL_bazaar 38 = .ok (.bipush 7, 2) := by decide +kernel
theorem dL_bazaar_40 : decode cL_bazaar 40 = .ok (.iushr, 1) := by decide +kernel
theorem dL_bazaar_41 : decode cL_bazaar 41 = .ok (.bipush 10, 2) := by decide +kernel
theorem dL_bazaar_43 : decode cL_bazaar 43 = .ok (.irem, 1) := by decide +kernel
theorem dL_bazaar_44 : decode cL_bazaar 44 = .ok (.iastore, 1) := by decide +kernel
theorem dL_bazaar_45 : decode cL_bazaar 45 = .ok (.aload_n 2, 1) := by decide +kernel
theorem dL_bazaar_46 : decode cL_bazaar 46 = .ok (.iconst 3, 1) := by decide +kernel
theorem dL_bazaar_47 : decode cL_bazaar 47 = .ok (.iload 8, 2) := by decide +kernel
theorem dL_bazaar_49 : decode cL_bazaar 49 = .ok (.bipush 11, 2) := by decide +kernel
theorem dL_bazaar_51 : decode cL_bazaar 51 = .ok (.iushr, 1) := by decide +kernel
theorem dL_bazaar_52 : decode cL_bazaar 52 = .ok (.bipush 21, 2) := by decide +kernel
theorem dL_bazaar_54 : decode cL_bazaar 54 = .ok (.irem, 1) := by decide +kernel
theorem dL_bazaar_55 : decode cL_bazaar 55 = .ok (.iastore, 1) := by decide +kernel
theorem dL_bazaar_56 : decode cL_bazaar 56 = .ok (.aload_n 2, 1) := by decide +kernel
theorem dL_bazaar_57 : decode cL_bazaar 57 = .ok (.iconst 4, 1) := by decide +kernel
theorem dL_bazaar_58 : decode cL_bazaar 58 = .ok (.iload 8, 2) := by decide +kernel
theorem dL_bazaar_60 : decode cL_bazaar 60 = .ok (.bipush 16, 2) := by decide +kernel
theorem dL_bazaar_62 : decode cL_bazaar 62 = .ok (.iushr, 1) := by decide +kernel
theorem dL_bazaar_63 : decode cL_bazaar 63 = .ok (.iconst 1, 1) := by decide +kernel
theorem dL_bazaar_64 : decode cL_bazaar 64 = .ok (.iand, 1) := by decide +kernel
theorem dL_bazaar_65 : decode cL_bazaar 65 = .ok (.ifCond .ne 7, 3) := by decide +kernel
theorem dL_bazaar_68 : decode cL_bazaar 68 = .ok (.iconst 0, 1) := by decide +kernel
theorem dL_bazaar_69 : decode cL_bazaar 69 = .ok (.goto 11, 3) := by decide +kernel
theorem dL_bazaar_72 : decode cL_bazaar 72 = .ok (.iload 8, 2) := by decide +kernel
theorem dL_bazaar_74 : decode cL_bazaar 74 = .ok (.bipush 17, 2) := by decide +kernel
theorem dL_bazaar_76 : decode cL_bazaar 76 = .ok (.iushr, 1) := by decide +kernel
theorem dL_bazaar_77 : decode cL_bazaar 77 = .ok (.bipush 100, 2) := by decide +kernel
theorem dL_bazaar_79 : decode cL_bazaar 79 = .ok (.irem, 1) := by decide +kernel
theorem dL_bazaar_80 : decode cL_bazaar 80 = .ok (.iastore, 1) := by decide +kernel
theorem dL_bazaar_81 : decode cL_bazaar 81 = .ok (.aload_n 0, 1) := by decide +kernel
theorem dL_bazaar_82 : decode cL_bazaar 82 = .ok (.iconst 0, 1) := by decide +kernel
theorem dL_bazaar_83 : decode cL_bazaar 83 = .ok (.iconst 2, 1) := by decide +kernel
theorem dL_bazaar_84 : decode cL_bazaar 84 = .ok (.aload_n 2, 1) := by decide +kernel
theorem dL_bazaar_85 : decode cL_bazaar 85 = .ok (.iconst 1, 1) := by decide +kernel
theorem dL_bazaar_86 : decode cL_bazaar 86 = .ok (.iaload, 1) := by decide +kernel
theorem dL_bazaar_87 : decode cL_bazaar 87 = .ok (.invokevirtual 70, 3) := by decide +kernel
theorem dL_bazaar_90 : decode cL_bazaar 90 = .ok (.iconst 1, 1) := by decide +kernel
theorem dL_bazaar_91 : decode cL_bazaar 91 = .ok (.if_icmp .ne 41, 3) := by decide +kernel
theorem dL_bazaar_94 : decode cL_bazaar 94 = .ok (.aload_n 0, 1) := by decide +kernel
theorem dL_bazaar_95 : decode cL_bazaar 95 = .ok (.iconst 0, 1) := by decide +kernel
theorem dL_bazaar_96 : decode cL_bazaar 96 = .ok (.iconst 3, 1) := by decide +kernel
theorem dL_bazaar_97 : decode cL_bazaar 97 = .ok (.aload_n 2, 1) := by decide +kernel
theorem dL_bazaar_98 : decode cL_bazaar 98 = .ok (.iconst 2, 1) := by decide +kernel
theorem dL_bazaar_99 : decode cL_bazaar 99 = .ok (.iaload, 1) := by decide +kernel
theorem dL_bazaar_100 : decode cL_bazaar 100 = .ok (.invokevirtual 70, 3) := by decide +kernel
theorem dL_bazaar_103 : decode cL_bazaar 103 = .ok (.ifCond .ne 29, 3) := by decide +kernel
theorem dL_bazaar_106 : decode cL_bazaar 106 = .ok (.aload_n 0, 1) := by decide +kernel
theorem dL_bazaar_107 : decode cL_bazaar 107 = .ok (.iconst 0, 1) := by decide +kernel
theorem dL_bazaar_108 : decode cL_bazaar 108 = .ok (.iconst 4, 1) := by decide +kernel
theorem dL_bazaar_109 : decode cL_bazaar 109 = .ok (.aload_n 2, 1) := by decide +kernel
theorem dL_bazaar_110 : decode cL_bazaar 110 = .ok (.iconst 3, 1) := by decide +kernel
theorem dL_bazaar_111 : decode cL_bazaar 111 = .ok (.iaload, 1) := by decide +kernel
theorem dL_bazaar_112 : decode cL_bazaar 112 = .ok (.invokevirtual 70, 3) := by decide +kernel
theorem dL_bazaar_115 : decode cL_bazaar 115 = .ok (.bipush 6, 2) := by decide +kernel
theorem dL_bazaar_117 : decode cL_bazaar 117 = .ok (.if_icmp .ne 15, 3) := by decide +kernel
theorem dL_bazaar_120 : decode cL_bazaar 120 = .ok (.aload_n 0, 1) := by decide +kernel
theorem dL_bazaar_121 : decode cL_bazaar 121 = .ok (.iconst 0, 1) := by decide +kernel
theorem dL_bazaar_122 : decode cL_bazaar 122 = .ok (.iconst 5, 1) := by decide +kernel
theorem dL_bazaar_123 : decode cL_bazaar 123 = .ok (.aload_n 2, 1) := by decide +kernel
theorem dL_bazaar_124 : decode cL_bazaar 124 = .ok (.iconst 4, 1) := by decide +kernel
theorem dL_bazaar_125 : decode cL_bazaar 125 = .ok (.iaload, 1) := by decide +kernel
theorem dL_bazaar_126 : decode cL_bazaar 126 = .ok (.invokevirtual 70, 3) := by decide +kernel
theorem dL_bazaar_129 : decode cL_bazaar 129 = .ok (.ifCond .eq 5, 3) := by decide +kernel
theorem dL_bazaar_132 : decode cL_bazaar 132 = .ok (.iconst 0, 1) := by decide +kernel
theorem dL_bazaar_133 : decode cL_bazaar 133 = .ok (.ireturn, 1) := by decide +kernel
theorem dL_bazaar_134 : decode cL_bazaar 134 = .ok (.iconst 0, 1) := by decide +kernel
theorem dL_bazaar_135 : decode cL_bazaar 135 = .ok (.istore 9, 2) := by decide +kernel
theorem dL_bazaar_137 : decode cL_bazaar 137 = .ok (.iload 9, 2) := by decide +kernel
theorem dL_bazaar_139 : decode cL_bazaar 139 = .ok (.aload_n 2, 1) := by decide +kernel
theorem dL_bazaar_140 : decode cL_bazaar 140 = .ok (.iconst 0, 1) := by decide +kernel
theorem dL_bazaar_141 : decode cL_bazaar 141 = .ok (.iaload, 1) := by decide +kernel
theorem dL_bazaar_142 : decode cL_bazaar 142 = .ok (.if_icmp .ge 73, 3) := by decide +kernel
theorem dL_bazaar_145 : decode cL_bazaar 145 = .ok (.aload_n 1, 1) := by decide +kernel
theorem dL_bazaar_146 : decode cL_bazaar 146 = .ok (.iconst 1, 1) := by decide +kernel
theorem dL_bazaar_147 : decode cL_bazaar 147 = .ok (.iload 9, 2) := by decide +kernel
theorem dL_bazaar_149 : decode cL_bazaar 149 = .ok (.iadd, 1) := by decide +kernel
theorem dL_bazaar_150 : decode cL_bazaar 150 = .ok (.invokestatic 17, 3) := by decide +kernel
theorem dL_bazaar_153 : decode cL_bazaar 153 = .ok (.istore 10, 2) := by decide +kernel
theorem dL_bazaar_155 : decode cL_bazaar 155 = .ok (.aload_n 3, 1) := by decide +kernel
theorem dL_bazaar_156 : decode cL_bazaar 156 = .ok (.iconst 2, 1) := by decide +kernel
theorem dL_bazaar_157 : decode cL_bazaar 157 = .ok (.iload 9, 2) := by decide +kernel
theorem dL_bazaar_159 : decode cL_bazaar 159 = .ok (.imul, 1) := by decide +kernel
theorem dL_bazaar_160 : decode cL_bazaar 160 = .ok (.iload 10, 2) := by decide +kernel
theorem dL_bazaar_162 : decode cL_bazaar 162 = .ok (.iconst 1, 1) := by decide +kernel
theorem dL_bazaar_163 : decode cL_bazaar 163 = .ok (.iushr, 1) := by decide +kernel
theorem dL_bazaar_164 : decode cL_bazaar 164 = .ok (.bipush 100, 2) := by decide +kernel
theorem dL_bazaar_166 : decode cL_bazaar 166 = .ok (.irem, 1) := by decide +kernel
theorem dL_bazaar_167 : decode cL_bazaar 167 = .ok (.iastore, 1) := by decide +kernel
theorem dL_bazaar_168 : decode cL_bazaar 168 = .ok (.aload_n 3, 1) := by decide +kernel
theorem dL_bazaar_169 : decode cL_bazaar 169 = .ok (.iconst 2, 1) := by decide +kernel
theorem dL_bazaar_170 : decode cL_bazaar 170 = .ok (.iload 9, 2) := by decide +kernel
theorem dL_bazaar_172 : decode cL_bazaar 172 = .ok (.imul, 1) := by decide +kernel
theorem dL_bazaar_173 : decode cL_bazaar 173 = .ok (.iconst 1, 1) := by decide +kernel
theorem dL_bazaar_174 : decode cL_bazaar 174 = .ok (.iadd, 1) := by decide +kernel
theorem dL_bazaar_175 : decode cL_bazaar 175 = .ok (.iload 10, 2) := by decide +kernel
theorem dL_bazaar_177 : decode cL_bazaar 177 = .ok (.bipush 8, 2) := by decide +kernel
theorem dL_bazaar_179 : decode cL_bazaar 179 = .ok (.iushr, 1) := by decide +kernel
theorem dL_bazaar_180 : decode cL_bazaar 180 = .ok (.bipush 10, 2) := by decide +kernel
theorem dL_bazaar_182 : decode cL_bazaar 182 = .ok (.irem, 1) := by decide +kernel
theorem dL_bazaar_183 : decode cL_bazaar 183 = .ok (.iastore, 1) := by decide +kernel
theorem dL_bazaar_184 : decode cL_bazaar 184 = .ok (.aload_n 0, 1) := by decide +kernel
theorem dL_bazaar_185 : decode cL_bazaar 185 = .ok (.aload_n 3, 1) := by decide +kernel
theorem dL_bazaar_186 : decode cL_bazaar 186 = .ok (.iconst 2, 1) := by decide +kernel
theorem dL_bazaar_187 : decode cL_bazaar 187 = .ok (.iload 9, 2) := by decide +kernel
theorem dL_bazaar_189 : decode cL_bazaar 189 = .ok (.imul, 1) := by decide +kernel
theorem dL_bazaar_190 : decode cL_bazaar 190 = .ok (.iaload, 1) := by decide +kernel
theorem dL_bazaar_191 : decode cL_bazaar 191 = .ok (.aload_n 3, 1) := by decide +kernel
theorem dL_bazaar_192 : decode cL_bazaar 192 = .ok (.iconst 2, 1) := by decide +kernel
theorem dL_bazaar_193 : decode cL_bazaar 193 = .ok (.iload 9, 2) := by decide +kernel
theorem dL_bazaar_195 : decode cL_bazaar 195 = .ok (.imul, 1) := by decide +kernel
theorem dL_bazaar_196 : decode cL_bazaar 196 = .ok (.iconst 1, 1) := by decide +kernel
theorem dL_bazaar_197 : decode cL_bazaar 197 = .ok (.iadd, 1) := by decide +kernel
theorem dL_bazaar_198 : decode cL_bazaar 198 = .ok (.iaload, 1) := by decide +kernel
theorem dL_bazaar_199 : decode cL_bazaar 199 = .ok (.invokevirtual 74, 3) := by decide +kernel
theorem dL_bazaar_202 : decode cL_bazaar 202 = .ok (.iload 9, 2) := by decide +kernel
theorem dL_bazaar_204 : decode cL_bazaar 204 = .ok (.if_icmp .eq 5, 3) := by decide +kernel
theorem dL_bazaar_207 : decode cL_bazaar 207 = .ok (.iconst 0, 1) := by decide +kernel
theorem dL_bazaar_208 : decode cL_bazaar 208 = .ok (.ireturn, 1) := by decide +kernel
theorem dL_bazaar_209 : decode cL_bazaar 209 = .ok (.iinc 9 1, 3) := by decide +kernel
theorem dL_bazaar_212 : decode cL_bazaar 212 = .ok (.goto (-75), 3) := by decide +kernel
theorem dL_bazaar_215 : decode cL_bazaar 215 = .ok (.iconst 0, 1) := by decide +kernel
theorem dL_bazaar_216 : decode cL_bazaar 216 = .ok (.istore 9, 2) := by decide +kernel
theorem dL_bazaar_218 : decode cL_bazaar 218 = .ok (.iload 9, 2) := by decide +kernel
theorem dL_bazaar_220 : decode cL_bazaar 220 = .ok (.aload_n 2, 1) := by decide +kernel
theorem dL_bazaar_221 : decode cL_bazaar 221 = .ok (.iconst 0, 1) := by decide +kernel
theorem dL_bazaar_222 : decode cL_bazaar 222 = .ok (.iaload, 1) := by decide +kernel
theorem dL_bazaar_223 : decode cL_bazaar 223 = .ok (.if_icmp .ge 123, 3) := by decide +kernel
theorem dL_bazaar_226 : decode cL_bazaar 226 = .ok (.iconst 0, 1) := by decide +kernel
theorem dL_bazaar_227 : decode cL_bazaar 227 = .ok (.istore 10, 2) := by decide +kernel
theorem dL_bazaar_229 : decode cL_bazaar 229 = .ok (.iload 10, 2) := by decide +kernel
theorem dL_bazaar_231 : decode cL_bazaar 231 = .ok (.aload_n 2, 1) := by decide +kernel
theorem dL_bazaar_232 : decode cL_bazaar 232 = .ok (.iconst 0, 1) := by decide +kernel
theorem dL_bazaar_233 : decode cL_bazaar 233 = .ok (.iaload, 1) := by decide +kernel
theorem dL_bazaar_234 : decode cL_bazaar 234 = .ok (.if_icmp .ge 106, 3) := by decide +kernel
theorem dL_bazaar_237 : decode cL_bazaar 237 = .ok (.iload 9, 2) := by decide +kernel
theorem dL_bazaar_239 : decode cL_bazaar 239 = .ok (.iload 10, 2) := by decide +kernel
theorem dL_bazaar_241 : decode cL_bazaar 241 = .ok (.if_icmp .ne 6, 3) := by decide +kernel
theorem dL_bazaar_244 : decode cL_bazaar 244 = .ok (.goto 90, 3) := by decide +kernel
theorem dL_bazaar_247 : decode cL_bazaar 247 = .ok (.aload_n 1, 1) := by decide +kernel
theorem dL_bazaar_248 : decode cL_bazaar 248 = .ok (.bipush 9, 2) := by decide +kernel
theorem dL_bazaar_250 : decode cL_bazaar 250 = .ok (.bipush 8, 2) := by decide +kernel
theorem dL_bazaar_252 : decode cL_bazaar 252 = .ok (.iload 9, 2) := by decide +kernel
theorem dL_bazaar_254 : decode cL_bazaar 254 = .ok (.imul, 1) := by decide +kernel
theorem dL_bazaar_255 : decode cL_bazaar 255 = .ok (.iload 10, 2) := by decide +kernel
theorem dL_bazaar_257 : decode cL_bazaar 257 = .ok (.iadd, 1) := by decide +kernel
theorem dL_bazaar_258 : decode cL_bazaar 258 = .ok (.bipush 48, 2) := by decide +kernel
theorem dL_bazaar_260 : decode cL_bazaar 260 = .ok (.irem, 1) := by decide +kernel
theorem dL_bazaar_261 : decode cL_bazaar 261 = .ok (.iadd, 1) := by decide +kernel
theorem dL_bazaar_262 : decode cL_bazaar 262 = .ok (.invokestatic 17, 3) := by decide +kernel
theorem dL_bazaar_265 : decode cL_bazaar 265 = .ok (.iconst 1, 1) := by decide +kernel
theorem dL_bazaar_266 : decode cL_bazaar 266 = .ok (.iload 9, 2) := by decide +kernel
theorem dL_bazaar_268 : decode cL_bazaar 268 = .ok (.iadd, 1) := by decide +kernel
theorem dL_bazaar_269 : decode cL_bazaar 269 = .ok (.iushr, 1) := by decide +kernel
theorem dL_bazaar_270 : decode cL_bazaar 270 = .ok (.istore 11, 2) := by decide +kernel
theorem dL_bazaar_272 : decode cL_bazaar 272 = .ok (.aload 4, 2) := by decide +kernel
theorem dL_bazaar_274 : decode cL_bazaar 274 = .ok (.bipush 8, 2) := by decide +kernel
theorem dL_bazaar_276 : decode cL_bazaar 276 = .ok (.iload 9, 2) := by decide +kernel
theorem dL_bazaar_278 : decode cL_bazaar 278 = .ok (.imul, 1) := by decide +kernel
theorem dL_bazaar_279 : decode cL_bazaar 279 = .ok (.iload 10, 2) := by decide +kernel
theorem dL_bazaar_281 : decode cL_bazaar 281 = .ok (.iadd, 1) := by decide +kernel
theorem dL_bazaar_282 : decode cL_bazaar 282 = .ok (.iload 11, 2) := by decide +kernel
theorem dL_bazaar_284 : decode cL_bazaar 284 = .ok (.iconst 5, 1) := by decide +kernel
theorem dL_bazaar_285 : decode cL_bazaar 285 = .ok (.irem, 1) := by decide +kernel
theorem dL_bazaar_286 : decode cL_bazaar 286 = .ok (.ifCond .ne 7, 3) := by decide +kernel
theorem dL_bazaar_289 : decode cL_bazaar 289 = .ok (.iconst 0, 1) := by decide +kernel
theorem dL_bazaar_290 : decode cL_bazaar 290 = .ok (.goto 13, 3) := by decide +kernel
theorem dL_bazaar_293 : decode cL_bazaar 293 = .ok (.iload 11, 2) := by decide +kernel
theorem dL_bazaar_295 : decode cL_bazaar 295 = .ok (.iconst 3, 1) := by decide +kernel
theorem dL_bazaar_296 : decode cL_bazaar 296 = .ok (.iushr, 1) := by decide +kernel
theorem dL_bazaar_297 : decode cL_bazaar 297 = .ok (.bipush 19, 2) := by decide +kernel
theorem dL_bazaar_299 : decode cL_bazaar 299 = .ok (.irem, 1) := by decide +kernel
theorem dL_bazaar_300 : decode cL_bazaar 300 = .ok (.bipush 9, 2) := by decide +kernel
theorem dL_bazaar_302 : decode cL_bazaar 302 = .ok (.isub, 1) := by decide +kernel
theorem dL_bazaar_303 : decode cL_bazaar 303 = .ok (.iastore, 1) := by decide +kernel
theorem dL_bazaar_304 : decode cL_bazaar 304 = .ok (.aload_n 0, 1) := by decide +kernel
theorem dL_bazaar_305 : decode cL_bazaar 305 = .ok (.bipush 10, 2) := by decide +kernel
theorem dL_bazaar_307 : decode cL_bazaar 307 = .ok (.iload 9, 2) := by decide +kernel
theorem dL_bazaar_309 : decode cL_bazaar 309 = .ok (.imul, 1) := by decide +kernel
theorem dL_bazaar_310 : decode cL_bazaar 310 = .ok (.iload 10, 2) := by decide +kernel
theorem dL_bazaar_312 : decode cL_bazaar 312 = .ok (.iadd, 1) := by decide +kernel
theorem dL_bazaar_313 : decode cL_bazaar 313 = .ok (.aload 4, 2) := by decide +kernel
theorem dL_bazaar_315 : decode cL_bazaar 315 = .ok (.bipush 8, 2) := by decide +kernel
theorem dL_bazaar_317 : decode cL_bazaar 317 = .ok (.iload 9, 2) := by decide +kernel
theorem dL_bazaar_319 : decode cL_bazaar 319 = .ok (.imul, 1) := by decide +kernel
theorem dL_bazaar_320 : decode cL_bazaar 320 = .ok (.iload 10, 2) := by decide +kernel
theorem dL_bazaar_322 : decode cL_bazaar 322 = .ok (.iadd, 1) := by decide +kernel
theorem dL_bazaar_323 : decode cL_bazaar 323 = .ok (.iaload, 1) := by decide +kernel
theorem dL_bazaar_324 : decode cL_bazaar 324 = .ok (.invokevirtual 77, 3) := by decide +kernel
theorem dL_bazaar_327 : decode cL_bazaar 327 = .ok (.bipush 100, 2) := by decide +kernel
theorem dL_bazaar_329 : decode cL_bazaar 329 = .ok (.if_icmp .eq 5, 3) := by decide +kernel
theorem dL_bazaar_332 : decode cL_bazaar 332 = .ok (.iconst 0, 1) := by decide +kernel
theorem dL_bazaar_333 : decode cL_bazaar 333 = .ok (.ireturn, 1) := by decide +kernel
theorem dL_bazaar_334 : decode cL_bazaar 334 = .ok (.iinc 10 1, 3) := by decide +kernel
theorem dL_bazaar_337 : decode cL_bazaar 337 = .ok (.goto (-108), 3) := by decide +kernel
theorem dL_bazaar_340 : decode cL_bazaar 340 = .ok (.iinc 9 1, 3) := by decide +kernel
theorem dL_bazaar_343 : decode cL_bazaar 343 = .ok (.goto (-125), 3) := by decide +kernel
theorem dL_bazaar_346 : decode cL_bazaar 346 = .ok (.aload_n 1, 1) := by decide +kernel
theorem dL_bazaar_347 : decode cL_bazaar 347 = .ok (.bipush 57, 2) := by decide +kernel
theorem dL_bazaar_349 : decode cL_bazaar 349 = .ok (.invokestatic 17, 3) := by decide +kernel
theorem dL_bazaar_352 : decode cL_bazaar 352 = .ok (.istore 9, 2) := by decide +kernel
theorem dL_bazaar_354 : decode cL_bazaar 354 = .ok (.aload 5, 2) := by decide +kernel
theorem dL_bazaar_356 : decode cL_bazaar 356 = .ok (.iconst 0, 1) := by decide +kernel
theorem dL_bazaar_357 : decode cL_bazaar 357 = .ok (.iconst (-1), 1) := by decide +kernel
theorem dL_bazaar_358 : decode cL_bazaar 358 = .ok (.iastore, 1) := by decide +kernel
theorem dL_bazaar_359 : decode cL_bazaar 359 = .ok (.iload 9, 2) := by decide +kernel
theorem dL_bazaar_361 : decode cL_bazaar 361 = .ok (.iconst 1, 1) := by decide +kernel
theorem dL_bazaar_362 : decode cL_bazaar 362 = .ok (.iand, 1) := by decide +kernel
theorem dL_bazaar_363 : decode cL_bazaar 363 = .ok (.ifCond .ne 5, 3) := by decide +kernel
theorem dL_bazaar_366 : decode cL_bazaar 366 = .ok (.iconst 1, 1) := by decide +kernel
theorem dL_bazaar_367 : decode cL_bazaar 367 = .ok (.ireturn, 1) := by decide +kernel
theorem dL_bazaar_368 : decode cL_bazaar 368 = .ok (.iconst 0, 1) := by decide +kernel
theorem dL_bazaar_369 : decode cL_bazaar 369 = .ok (.istore 10, 2) := by decide +kernel
theorem dL_bazaar_371 : decode cL_bazaar 371 = .ok (.iload 10, 2) := by decide +kernel
theorem dL_bazaar_373 : decode cL_bazaar 373 = .ok (.iconst 3, 1) := by decide +kernel
theorem dL_bazaar_374 : decode cL_bazaar 374 = .ok (.if_icmp .ge 28, 3) := by decide +kernel
theorem dL_bazaar_377 : decode cL_bazaar 377 = .ok (.aload 5, 2) := by decide +kernel
theorem dL_bazaar_379 : decode cL_bazaar 379 = .ok (.iload 10, 2) := by decide +kernel
theorem dL_bazaar_381 : decode cL_bazaar 381 = .ok (.iconst 1, 1) := by decide +kernel
theorem dL_bazaar_382 : decode cL_bazaar 382 = .ok (.iload 9, 2) := by decide +kernel
theorem dL_bazaar_384 : decode cL_bazaar 384 = .ok (.iconst 1, 1) := by decide +kernel
theorem dL_bazaar_385 : decode cL_bazaar 385 = .ok (.iconst 4, 1) := by decide +kernel
theorem dL_bazaar_386 : decode cL_bazaar 386 = .ok (.iload 10, 2) := by decide +kernel
theorem dL_bazaar_388 : decode cL_bazaar 388 = .ok (.imul, 1) := by decide +kernel
theorem dL_bazaar_389 : decode cL_bazaar 389 = .ok (.iadd, 1) := by decide +kernel
theorem dL_bazaar_390 : decode cL_bazaar 390 = .ok (.iushr, 1) := by decide +kernel
theorem dL_bazaar_391 : decode cL_bazaar 391 = .ok (.bipush 9, 2) := by decide +kernel
theorem dL_bazaar_393 : decode cL_bazaar 393 = .ok (.irem, 1) := by decide +kernel
theorem dL_bazaar_394 : decode cL_bazaar 394 = .ok (.iadd, 1) := by decide +kernel
theorem dL_bazaar_395 : decode cL_bazaar 395 = .ok (.iastore, 1) := by decide +kernel
theorem dL_bazaar_396 : decode cL_bazaar 396 = .ok (.iinc 10 1, 3) := by decide +kernel
theorem dL_bazaar_399 : decode cL_bazaar 399 = .ok (.goto (-28), 3) := by decide +kernel
theorem dL_bazaar_402 : decode cL_bazaar 402 = .ok (.aload_n 0, 1) := by decide +kernel
theorem dL_bazaar_403 : decode cL_bazaar 403 = .ok (.bipush 104, 2) := by decide +kernel
theorem dL_bazaar_405 : decode cL_bazaar 405 = .ok (.bipush 97, 2) := by decide +kernel
theorem dL_bazaar_407 : decode cL_bazaar 407 = .ok (.bipush 116, 2) := by decide +kernel
theorem dL_bazaar_409 : decode cL_bazaar 409 = .ok (.invokestatic 80, 3) := by decide +kernel
theorem dL_bazaar_412 : decode cL_bazaar 412 = .ok (.ifCond .eq 183, 3) := by decide +kernel
theorem dL_bazaar_415 : decode cL_bazaar 415 = .ok (.aload_n 0, 1) := by decide +kernel
theorem dL_bazaar_416 : decode cL_bazaar 416 = .ok (.bipush 101, 2) := by decide +kernel
theorem dL_bazaar_418 : decode cL_bazaar 418 = .ok (.bipush 42, 2) := by decide +kernel
theorem dL_bazaar_420 : decode cL_bazaar 420 = .ok (.bipush 48, 2) := by decide +kernel
theorem dL_bazaar_422 : decode cL_bazaar 422 = .ok (.aload 5, 2) := by decide +kernel
theorem dL_bazaar_424 : decode cL_bazaar 424 = .ok (.iconst 0, 1) := by decide +kernel
theorem dL_bazaar_425 : decode cL_bazaar 425 = .ok (.iaload, 1) := by decide +kernel
theorem dL_bazaar_426 : decode cL_bazaar 426 = .ok (.iadd, 1) := by decide +kernel
theorem dL_bazaar_427 : decode cL_bazaar 427 = .ok (.invokestatic 80, 3) := by decide +kernel
theorem dL_bazaar_430 : decode cL_bazaar 430 = .ok (.ifCond .eq 165, 3) := by decide +kernel
theorem dL_bazaar_433 : decode cL_bazaar 433 = .ok (.aload_n 0, 1) := by decide +kernel
theorem dL_bazaar_434 : decode cL_bazaar 434 = .ok (.bipush 43, 2) := by decide +kernel
theorem dL_bazaar_436 : decode cL_bazaar 436 = .ok (.bipush 119, 2) := by decide +kernel
theorem dL_bazaar_438 : decode cL_bazaar 438 = .ok (.bipush 97, 2) := by decide +kernel
theorem dL_bazaar_440 : decode cL_bazaar 440 = .ok (.invokestatic 80, 3) := by decide +kernel
theorem dL_bazaar_443 : decode cL_bazaar 443 = .ok (.ifCond .eq 152, 3) := by decide +kernel
theorem dL_bazaar_446 : decode cL_bazaar 446 = .ok (.aload_n 0, 1) := by decide +kernel
theorem dL_bazaar_447 : decode cL_bazaar 447 = .ok (.bipush 110, 2) := by decide +kernel
theorem dL_bazaar_449 : decode cL_bazaar 449 = .ok (.bipush 116, 2) := by decide +kernel
theorem dL_bazaar_451 : decode cL_bazaar 451 = .ok (.bipush 45, 2) := by decide +kernel
theorem dL_bazaar_453 : decode cL_bazaar 453 = .ok (.invokestatic 80, 3) := by decide +kernel
theorem dL_bazaar_456 : decode cL_bazaar 456 = .ok (.ifCond .eq 139, 3) := by decide +kernel
theorem dL_bazaar_459 : decode cL_bazaar 459 = .ok (.aload_n 0, 1) := by decide +kernel
theorem dL_bazaar_460 : decode cL_bazaar 460 = .ok (.bipush 108, 2) := by decide +kernel
theorem dL_bazaar_462 : decode cL_bazaar 462 = .ok (.bipush 111, 2) := by decide +kernel
theorem dL_bazaar_464 : decode cL_bazaar 464 = .ok (.bipush 118, 2) := by decide +kernel
theorem dL_bazaar_466 : decode cL_bazaar 466 = .ok (.invokestatic 80, 3) := by decide +kernel
theorem dL_bazaar_469 : decode cL_bazaar 469 = .ok (.ifCond .eq 126, 3) := by decide +kernel
theorem dL_bazaar_472 : decode cL_bazaar 472 = .ok (.aload_n 0, 1) := by decide +kernel
theorem dL_bazaar_473 : decode cL_bazaar 473 = .ok (.bipush 101, 2) := by decide +kernel
theorem dL_bazaar_475 : decode cL_bazaar 475 = .ok (.bipush 47, 2) := by decide +kernel
theorem dL_bazaar_477 : decode cL_bazaar 477 = .ok (.bipush 48, 2) := by decide +kernel
theorem dL_bazaar_479 : decode cL_bazaar 479 = .ok (.aload 5, 2) := by decide +kernel
theorem dL_bazaar_481 : decode cL_bazaar 481 = .ok (.iconst 1, 1) := by decide +kernel
theorem dL_bazaar_482 : decode cL_bazaar 482 = .ok (.iaload, 1) := by decide +kernel
theorem dL_bazaar_483 : decode cL_bazaar 483 = .ok (.iadd, 1) := by decide +kernel
theorem dL_bazaar_484 : decode cL_bazaar 484 = .ok (.invokestatic 80, 3) := by decide +kernel
theorem dL_bazaar_487 : decode cL_bazaar 487 = .ok (.ifCond .eq 108, 3) := by decide +kernel
theorem dL_bazaar_490 : decode cL_bazaar 490 = .ok (.aload_n 0, 1) := by decide +kernel
theorem dL_bazaar_491 : decode cL_bazaar 491 = .ok (.bipush 43, 2) := by decide +kernel
theorem dL_bazaar_493 : decode cL_bazaar 493 = .ok (.bipush 104, 2) := by decide +kernel
theorem dL_bazaar_495 : decode cL_bazaar 495 = .ok (.bipush 117, 2) := by decide +kernel
theorem dL_bazaar_497 : decode cL_bazaar 497 = .ok (.invokestatic 80, 3) := by decide +kernel
theorem dL_bazaar_500 : decode cL_bazaar 500 = .ok (.ifCond .eq 95, 3) := by decide +kernel
theorem dL_bazaar_503 : decode cL_bazaar 503 = .ok (.aload_n 0, 1) := by decide +kernel
theorem dL_bazaar_504 : decode cL_bazaar 504 = .ok (.bipush 110, 2) := by decide +kernel
theorem dL_bazaar_506 : decode cL_bazaar 506 = .ok (.bipush 103, 2) := by decide +kernel
theorem dL_bazaar_508 : decode cL_bazaar 508 = .ok (.bipush 101, 2) := by decide +kernel
theorem dL_bazaar_510 : decode cL_bazaar 510 = .ok (.invokestatic 80, 3) := by decide +kernel
theorem dL_bazaar_513 : decode cL_bazaar 513 = .ok (.ifCond .eq 82, 3) := by decide +kernel
theorem dL_bazaar_516 : decode cL_bazaar 516 = .ok (.aload_n 0, 1) := by decide +kernel
theorem dL_bazaar_517 : decode cL_bazaar 517 = .ok (.bipush 114, 2) := by decide +kernel
theorem dL_bazaar_519 : decode cL_bazaar 519 = .ok (.bipush 47, 2) := by decide +kernel
theorem dL_bazaar_521 : decode cL_bazaar 521 = .ok (.bipush 48, 2) := by decide +kernel
theorem dL_bazaar_523 : decode cL_bazaar 523 = .ok (.aload 5, 2) := by decide +kernel
theorem dL_bazaar_525 : decode cL_bazaar 525 = .ok (.iconst 2, 1) := by decide +kernel
theorem dL_bazaar_526 : decode cL_bazaar 526 = .ok (.iaload, 1) := by decide +kernel
theorem dL_bazaar_527 : decode cL_bazaar 527 = .ok (.iadd, 1) := by decide +kernel
theorem dL_bazaar_528 : decode cL_bazaar 528 = .ok (.invokestatic 80, 3) := by decide +kernel
theorem dL_bazaar_531 : decode cL_bazaar 531 = .ok (.ifCond .eq 64, 3) := by decide +kernel
theorem dL_bazaar_534 : decode cL_bazaar 534 = .ok (.aload_n 0, 1) := by decide +kernel
theorem dL_bazaar_535 : decode cL_bazaar 535 = .ok (.bipush 43, 2) := by decide +kernel
theorem dL_bazaar_537 : decode cL_bazaar 537 = .ok (.bipush 100, 2) := by decide +kernel
theorem dL_bazaar_539 : decode cL_bazaar 539 = .ok (.bipush 97, 2) := by decide +kernel
theorem dL_bazaar_541 : decode cL_bazaar 541 = .ok (.invokestatic 80, 3) := by decide +kernel
theorem dL_bazaar_544 : decode cL_bazaar 544 = .ok (.ifCond .eq 51, 3) := by decide +kernel
theorem dL_bazaar_547 : decode cL_bazaar 547 = .ok (.aload_n 0, 1) := by decide +kernel
theorem dL_bazaar_548 : decode cL_bazaar 548 = .ok (.bipush 121, 2) := by decide +kernel
theorem dL_bazaar_550 : decode cL_bazaar 550 = .ok (.bipush 37, 2) := by decide +kernel
theorem dL_bazaar_552 : decode cL_bazaar 552 = .ok (.bipush 51, 2) := by decide +kernel
theorem dL_bazaar_554 : decode cL_bazaar 554 = .ok (.invokestatic 80, 3) := by decide +kernel
theorem dL_bazaar_557 : decode cL_bazaar 557 = .ok (.ifCond .eq 38, 3) := by decide +kernel
theorem dL_bazaar_560 : decode cL_bazaar 560 = .ok (.aload_n 0, 1) := by decide +kernel
theorem dL_bazaar_561 : decode cL_bazaar 561 = .ok (.bipush 45, 2) := by decide +kernel
theorem dL_bazaar_563 : decode cL_bazaar 563 = .ok (.bipush 100, 2) := by decide +kernel
theorem dL_bazaar_565 : decode cL_bazaar 565 = .ok (.bipush 111, 2) := by decide +kernel
theorem dL_bazaar_567 : decode cL_bazaar 567 = .ok (.invokestatic 80, 3) := by decide +kernel
theorem dL_bazaar_570 : decode cL_bazaar 570 = .ok (.ifCond .eq 25, 3) := by decide +kernel
theorem dL_bazaar_573 : decode cL_bazaar 573 = .ok (.aload_n 0, 1) := by decide +kernel
theorem dL_bazaar_574 : decode cL_bazaar 574 = .ok (.bipush 110, 2) := by decide +kernel
theorem dL_bazaar_576 : decode cL_bazaar 576 = .ok (.invokevirtual 67, 3) := by decide +kernel
theorem dL_bazaar_579 : decode cL_bazaar 579 = .ok (.ifCond .le 16, 3) := by decide +kernel
theorem dL_bazaar_582 : decode cL_bazaar 582 = .ok (.aload_n 0, 1) := by decide +kernel
theorem dL_bazaar_583 : decode cL_bazaar 583 = .ok (.bipush 101, 2) := by decide +kernel
theorem dL_bazaar_585 : decode cL_bazaar 585 = .ok (.invokevirtual 67, 3) := by decide +kernel
theorem dL_bazaar_588 : decode cL_bazaar 588 = .ok (.ifCond .le 7, 3) := by decide +kernel
theorem dL_bazaar_591 : decode cL_bazaar 591 = .ok (.iconst 1, 1) := by decide +kernel
theorem dL_bazaar_592 : decode cL_bazaar 592 = .ok (.goto 4, 3) := by decide +kernel
theorem dL_bazaar_595 : decode cL_bazaar 595 = .ok (.iconst 0, 1) := by decide +kernel
theorem dL_bazaar_596 : decode cL_bazaar 596 = .ok (.istore 10, 2) := by decide +kernel
theorem dL_bazaar_598 : decode cL_bazaar 598 = .ok (.iload 10, 2) := by decide +kernel
theorem dL_bazaar_600 : decode cL_bazaar 600 = .ok (.ifCond .eq 15, 3) := by decide +kernel
theorem dL_bazaar_603 : decode cL_bazaar 603 = .ok (.aload_n 0, 1) := by decide +kernel
theorem dL_bazaar_604 : decode cL_bazaar 604 = .ok (.invokevirtual 84, 3) := by decide +kernel
theorem dL_bazaar_607 : decode cL_bazaar 607 = .ok (.iconst 1, 1) := by decide +kernel
theorem dL_bazaar_608 : decode cL_bazaar 608 = .ok (.if_icmp .ne 7, 3) := by decide +kernel
theorem dL_bazaar_611 : decode cL_bazaar 611 = .ok (.iconst 1, 1) := by decide +kernel
theorem dL_bazaar_612 : decode cL_bazaar 612 = .ok (.goto 4, 3) := by decide +kernel
theorem dL_bazaar_615 : decode cL_bazaar 615 = .ok (.iconst 0, 1) := by decide +kernel
theorem dL_bazaar_616 : decode cL_bazaar 616 = .ok (.ireturn, 1) := by decide +kernel
theorem dL_friend_0 : decode cL_friend 0 = .ok (.iconst (-1), 1) := by decide +kernel
theorem dL_friend_1 : decode cL_friend 1 = .ok (.istore_n 3, 1) := by decide +kernel
theorem dL_friend_2 : decode cL_friend 2 = .ok (.iconst 0, 1) := by decide +kernel
theorem dL_friend_3 : decode cL_friend 3 = .ok (.istore 4, 2) := by decide +kernel
theorem dL_friend_5 : decode cL_friend 5 = .ok (.iload 4, 2) := by decide +kernel
theorem dL_friend_7 : decode cL_friend 7 = .ok (.aload_n 0, 1) := by decide +kernel
theorem dL_friend_8 : decode cL_friend 8 = .ok (.iconst 0, 1) := by decide +kernel
theorem dL_friend_9 : decode cL_friend 9 = .ok (.iaload, 1) := by decide +kernel
theorem dL_friend_10 : decode cL_friend 10 = .ok (.if_icmp .ge 48, 3) := by decide +kernel
theorem dL_friend_13 : decode cL_friend 13 = .ok (.aload_n 1, 1) := by decide +kernel
theorem dL_friend_14 : decode cL_friend 14 = .ok (.bipush 8, 2) := by decide +kernel
theorem dL_friend_16 : decode cL_friend 16 = .ok (.iload 4, 2) := by decide +kernel
theorem dL_friend_18 : decode cL_friend 18 = .ok (.imul, 1) := by decide +kernel
theorem dL_friend_19 : decode cL_friend 19 = .ok (.iload_n 2, 1) := by decide +kernel
theorem dL_friend_20 : decode cL_friend 20 = .ok (.iadd, 1) := by decide +kernel
theorem dL_friend_21 : decode cL_friend 21 = .ok (.iaload, 1) := by decide +kernel
theorem dL_friend_22 : decode cL_friend 22 = .ok (.ifCond .le 30, 3) := by decide +kernel
theorem dL_friend_25 : decode cL_friend 25 = .ok (.iload_n 3, 1) := by decide +kernel
theorem dL_friend_26 : decode cL_friend 26 = .ok (.ifCond .lt 23, 3) := by decide +kernel
theorem dL_friend_29 : decode cL_friend 29 = .ok (.aload_n 1, 1) := by decide +kernel
theorem dL_friend_30 : decode cL_friend 30 = .ok (.bipush 8, 2) := by decide +kernel
theorem dL_friend_32 : decode cL_friend 32 = .ok (.iload 4, 2) := by decide +kernel
theorem dL_friend_34 : decode cL_friend 34 = .ok (.imul, 1) := by decide +kernel
theorem dL_friend_35 : decode cL_friend 35 = .ok (.iload_n 2, 1) := by decide +kernel
theorem dL_friend_36 : decode cL_friend 36 = .ok (.iadd, 1) := by decide +kernel
theorem dL_friend_37 : decode cL_friend 37 = .ok (.iaload, 1) := by decide +kernel
theorem dL_friend_38 : decode cL_friend 38 = .ok (.aload_n 1, 1) := by decide +kernel
theorem dL_friend_39 : decode cL_friend 39 = .ok (.bipush 8, 2) := by decide +kernel
theorem dL_friend_41 : decode cL_friend 41 = .ok (.iload_n 3, 1) := by decide +kernel
theorem dL_friend_42 : decode cL_friend 42 = .ok (.imul, 1) := by decide +kernel
theorem dL_friend_43 : decode cL_friend 43 = .ok (.iload_n 2, 1) := by decide +kernel
theorem dL_friend_44 : decode cL_friend 44 = .ok (.iadd, 1) := by decide +kernel
theorem dL_friend_45 : decode cL_friend 45 = .ok (.iaload, 1) := by decide +kernel
theorem dL_friend_46 : decode cL_friend 46 = .ok (.if_icmp .le 6, 3) := by decide +kernel
theorem dL_friend_49 : decode cL_friend 49 = .ok (.iload 4, 2) := by decide +kernel
theorem dL_friend_51 : decode cL_friend 51 = .ok (.istore_n 3, 1) := by decide +kernel
theorem dL_friend_52 : decode cL_friend 52 = .ok (.iinc 4 1, 3) := by decide +kernel
theorem dL_friend_55 : decode cL_friend 55 = .ok (.goto (-50), 3) := by decide +kernel
theorem dL_friend_58 : decode cL_friend 58 = .ok (.iload_n 3, 1) := by decide +kernel
theorem dL_friend_59 : decode cL_friend 59 = .ok (.ireturn, 1) := by decide +kernel
theorem dL_out_0 : decode cL_out 0 = .ok (.aload_n 2, 1) := by decide +kernel
theorem dL_out_1 : decode cL_out 1 = .ok (.bipush 8, 2) := by decide +kernel
theorem dL_out_3 : decode cL_out 3 = .ok (.iload 4, 2) := by decide +kernel
theorem dL_out_5 : decode cL_out 5 = .ok (.imul, 1) := by decide +kernel
theorem dL_out_6 : decode cL_out 6 = .ok (.iload 5, 2) := by decide +kernel
theorem dL_out_8 : decode cL_out 8 = .ok (.iadd, 1) := by decide +kernel
theorem dL_out_9 : decode cL_out 9 = .ok (.iaload, 1) := by decide +kernel
theorem dL_out_10 : decode cL_out 10 = .ok (.ineg, 1) := by decide +kernel
theorem dL_out_11 : decode cL_out 11 = .ok (.istore 7, 2) := by decide +kernel
theorem dL_out_13 : decode cL_out 13 = .ok (.aload_n 2, 1) := by decide +kernel
theorem dL_out_14 : decode cL_out 14 = .ok (.bipush 8, 2) := by decide +kernel
theorem dL_out_16 : decode cL_out 16 = .ok (.aload_n 0, 1) := by decide +kernel
theorem dL_out_17 : decode cL_out 17 = .ok (.aload_n 2, 1) := by decide +kernel
theorem dL_out_18 : decode cL_out 18 = .ok (.iload 5, 2) := by decide +kernel
theorem dL_out_20 : decode cL_out 20 = .ok (.invokestatic 87, 3) := by decide +kernel
theorem dL_out_23 : decode cL_out 23 = .ok (.imul, 1) := by decide +kernel
theorem dL_out_24 : decode cL_out 24 = .ok (.iload 5, 2) := by decide +kernel
theorem dL_out_26 : decode cL_out 26 = .ok (.iadd, 1) := by decide +kernel
theorem dL_out_27 : decode cL_out 27 = .ok (.iaload, 1) := by decide +kernel
theorem dL_out_28 : decode cL_out 28 = .ok (.istore 8, 2) := by decide +kernel
theorem dL_out_30 : decode cL_out 30 = .ok (.aload_n 3, 1) := by decide +kernel
theorem dL_out_31 : decode cL_out 31 = .ok (.iconst 0, 1) := by decide +kernel
theorem dL_out_32 : decode cL_out 32 = .ok (.iaload, 1) := by decide +kernel
theorem dL_out_33 : decode cL_out 33 = .ok (.ifCond .ge 20, 3) := by decide +kernel
theorem dL_out_36 : decode cL_out 36 = .ok (.bipush 8, 2) := by decide +kernel
theorem dL_out_38 : decode cL_out 38 = .ok (.aload_n 1, 1) := by decide +kernel
theorem dL_out_39 : decode cL_out 39 = .ok (.iconst 2, 1) := by decide +kernel
theorem dL_out_40 : decode cL_out 40 = .ok (.iload 5, 2) := by decide +kernel
theorem dL_out_42 : decode cL_out 42 = .ok (.imul, 1) := by decide +kernel
theorem dL_out_43 : decode cL_out 43 = .ok (.iconst 1, 1) := by decide +kernel
theorem dL_out_44 : decode cL_out 44 = .ok (.iadd, 1) := by decide +kernel
theorem dL_out_45 : decode cL_out 45 = .ok (.iaload, 1) := by decide +kernel
theorem dL_out_46 : decode cL_out 46 = .ok (.iadd, 1) := by decide +kernel
theorem dL_out_47 : decode cL_out 47 = .ok (.iload 7, 2) := by decide +kernel
theorem dL_out_49 : decode cL_out 49 = .ok (.isub, 1) := by decide +kernel
theorem dL_out_50 : decode cL_out 50 = .ok (.goto 45, 3) := by decide +kernel
theorem dL_out_53 : decode cL_out 53 = .ok (.iload 7, 2) := by decide +kernel
theorem dL_out_55 : decode cL_out 55 = .ok (.aload_n 3, 1) := by decide +kernel
theorem dL_out_56 : decode cL_out 56 = .ok (.iconst 0, 1) := by decide +kernel
theorem dL_out_57 : decode cL_out 57 = .ok (.iaload, 1) := by decide +kernel
theorem dL_out_58 : decode cL_out 58 = .ok (.imul, 1) := by decide +kernel
theorem dL_out_59 : decode cL_out 59 = .ok (.aload_n 1, 1) := by decide +kernel
theorem dL_out_60 : decode cL_out 60 = .ok (.iconst 2, 1) := by decide +kernel
theorem dL_out_61 : decode cL_out 61 = .ok (.iload 5, 2) := by decide +kernel
theorem dL_out_63 : decode cL_out 63 = .ok (.imul, 1) := by decide +kernel
theorem dL_out_64 : decode cL_out 64 = .ok (.iconst 1, 1) := by decide +kernel
theorem dL_out_65 : decode cL_out 65 = .ok (.iadd, 1) := by decide +kernel
theorem dL_out_66 : decode cL_out 66 = .ok (.iaload, 1) := by decide +kernel
theorem dL_out_67 : decode cL_out 67 = .ok (.iadd, 1) := by decide +kernel
theorem dL_out_68 : decode cL_out 68 = .ok (.iload 8, 2) := by decide +kernel
theorem dL_out_70 : decode cL_out 70 = .ok (.aload_n 3, 1) := by decide +kernel
theorem dL_out_71 : decode cL_out 71 = .ok (.iconst 1, 1) := by decide +kernel
theorem dL_out_72 : decode cL_out 72 = .ok (.iaload, 1) := by decide +kernel
theorem dL_out_73 : decode cL_out 73 = .ok (.idiv, 1) := by decide +kernel
theorem dL_out_74 : decode cL_out 74 = .ok (.isub, 1) := by decide +kernel
theorem dL_out_75 : decode cL_out 75 = .ok (.aload_n 1, 1) := by decide +kernel
theorem dL_out_76 : decode cL_out 76 = .ok (.iconst 2, 1) := by decide +kernel
theorem dL_out_77 : decode cL_out 77 = .ok (.iload 5, 2) := by decide +kernel
theorem dL_out_79 : decode cL_out 79 = .ok (.imul, 1) := by decide +kernel
theorem dL_out_80 : decode cL_out 80 = .ok (.iaload, 1) := by decide +kernel
theorem dL_out_81 : decode cL_out 81 = .ok (.aload_n 3, 1) := by decide +kernel
theorem dL_out_82 : decode cL_out 82 = .ok (.iconst 2, 1) := by decide +kernel
theorem dL_out_83 : decode cL_out 83 = .ok (.iaload, 1) := by decide +kernel
theorem dL_out_84 : decode cL_out 84 = .ok (.idiv, 1) := by decide +kernel
theorem dL_out_85 : decode cL_out 85 = .ok (.iadd, 1) := by decide +kernel
theorem dL_out_86 : decode cL_out 86 = .ok (.aload_n 0, 1) := by decide +kernel
theorem dL_out_87 : decode cL_out 87 = .ok (.iconst 4, 1) := by decide +kernel
theorem dL_out_88 : decode cL_out 88 = .ok (.iaload, 1) := by decide +kernel
theorem dL_out_89 : decode cL_out 89 = .ok (.iconst 3, 1) := by decide +kernel
theorem dL_out_90 : decode cL_out 90 = .ok (.irem, 1) := by decide +kernel
theorem dL_out_91 : decode cL_out 91 = .ok (.iadd, 1) := by decide +kernel
theorem dL_out_92 : decode cL_out 92 = .ok (.iload 6, 2) := by decide +kernel
theorem dL_out_94 : decode cL_out 94 = .ok (.isub, 1) := by decide +kernel
theorem dL_out_95 : decode cL_out 95 = .ok (.istore 9, 2) := by decide +kernel
theorem dL_out_97 : decode cL_out 97 = .ok (.iload 9, 2) := by decide +kernel
theorem dL_out_99 : decode cL_out 99 = .ok (.ifCond .ge 7, 3) := by decide +kernel
theorem dL_out_102 : decode cL_out 102 = .ok (.iconst 0, 1) := by decide +kernel
theorem dL_out_103 : decode cL_out 103 = .ok (.goto 17, 3) := by decide +kernel
theorem dL_out_106 : decode cL_out 106 = .ok (.iload 9, 2) := by decide +kernel
theorem dL_out_108 : decode cL_out 108 = .ok (.bipush 50, 2) := by decide +kernel
theorem dL_out_110 : decode cL_out 110 = .ok (.if_icmp .le 8, 3) := by decide +kernel
theorem dL_out_113 : decode cL_out 113 = .ok (.bipush 50, 2) := by decide +kernel
theorem dL_out_115 : decode cL_out 115 = .ok (.goto 5, 3) := by decide +kernel
theorem dL_out_118 : decode cL_out 118 = .ok (.iload 9, 2) := by decide +kernel
theorem dL_out_120 : decode cL_out 120 = .ok (.ireturn, 1) := by decide +kernel
theorem dL_day_0 : decode cL_day 0 = .ok (.iconst 0, 1) := by decide +kernel
theorem dL_day_1 : decode cL_day 1 = .ok (.istore 5, 2) := by decide +kernel
theorem dL_day_3 : decode cL_day 3 = .ok (.iconst 0, 1) := by decide +kernel
theorem dL_day_4 : decode cL_day 4 = .ok (.istore 6, 2) := by decide +kernel
theorem dL_day_6 : decode cL_day 6 = .ok (.iconst 0, 1) := by decide +kernel
theorem dL_day_7 : decode cL_day 7 = .ok (.istore 7, 2) := by decide +kernel
theorem dL_day_9 : decode cL_day 9 = .ok (.iconst 0, 1) := by decide +kernel
theorem dL_day_10 : decode cL_day 10 = .ok (.istore 8, 2) := by decide +kernel
theorem dL_day_12 : decode cL_day 12 = .ok (.iload 8, 2) := by decide +kernel
theorem dL_day_14 : decode cL_day 14 = .ok (.bipush 8, 2) := by decide +kernel
theorem dL_day_16 : decode cL_day 16 = .ok (.if_icmp .ge 16, 3) := by decide +kernel
theorem dL_day_19 : decode cL_day 19 = .ok (.aload 4, 2) := by decide +kernel
theorem dL_day_21 : decode cL_day 21 = .ok (.iload 8, 2) := by decide +kernel
theorem dL_day_23 : decode cL_day 23 = .ok (.bipush 8, 2) := by decide +kernel
theorem dL_day_25 : decode cL_day 25 = .ok (.iastore, 1) := by decide +kernel
theorem dL_day_26 : decode cL_day 26 = .ok (.iinc 8 1, 3) := by decide +kernel
theorem dL_day_29 : decode cL_day 29 = .ok (.goto (-17), 3) := by decide +kernel
theorem dL_day_32 : decode cL_day 32 = .ok (.iconst 0, 1) := by decide +kernel
theorem dL_day_33 : decode cL_day 33 = .ok (.istore 8, 2) := by decide +kernel
theorem dL_day_35 : decode cL_day 35 = .ok (.iload 8, 2) := by decide +kernel
theorem dL_day_37 : decode cL_day 37 = .ok (.aload_n 0, 1) := by decide +kernel
theorem dL_day_38 : decode cL_day 38 = .ok (.iconst 0, 1) := by decide +kernel
theorem dL_day_39 : decode cL_day 39 = .ok (.iaload, 1) := by decide +kernel
theorem dL_day_40 : decode cL_day 40 = .ok (.if_icmp .ge 254, 3) := by decide +kernel
theorem dL_day_43 : decode cL_day 43 = .ok (.iconst (-1), 1) := by decide +kernel
theorem dL_day_44 : decode cL_day 44 = .ok (.istore 9, 2) := by decide +kernel
theorem dL_day_46 : decode cL_day 46 = .ok (.iconst 0, 1) := by decide +kernel
theorem dL_day_47 : decode cL_day 47 = .ok (.istore 10, 2) := by decide +kernel
theorem dL_day_49 : decode cL_day 49 = .ok (.iload 10, 2) := by decide +kernel
theorem dL_day_51 : decode cL_day 51 = .ok (.aload_n 0, 1) := by decide +kernel
theorem dL_day_52 : decode cL_day 52 = .ok (.iconst 0, 1) := by decide +kernel
theorem dL_day_53 : decode cL_day 53 = .ok (.iaload, 1) := by decide +kernel
theorem dL_day_54 : decode cL_day 54 = .ok (.if_icmp .ge 43, 3) := by decide +kernel
theorem dL_day_57 : decode cL_day 57 = .ok (.iload 7, 2) := by decide +kernel
theorem dL_day_59 : decode cL_day 59 = .ok (.iload 10, 2) := by decide +kernel
theorem dL_day_61 : decode cL_day 61 = .ok (.ishr, 1) := by decide +kernel
theorem dL_day_62 : decode cL_day 62 = .ok (.iconst 1, 1) := by decide +kernel
theorem dL_day_63 : decode cL_day 63 = .ok (.iand, 1) := by decide +kernel
theorem dL_day_64 : decode cL_day 64 = .ok (.ifCond .ne 27, 3) := by decide +kernel
theorem dL_day_67 : decode cL_day 67 = .ok (.iload 9, 2) := by decide +kernel
theorem dL_day_69 : decode cL_day 69 = .ok (.ifCond .lt 18, 3) := by decide +kernel
theorem dL_day_72 : decode cL_day 72 = .ok (.aload_n 1, 1) := by decide +kernel
theorem dL_day_73 : decode cL_day 73 = .ok (.iconst 2, 1) := by decide +kernel
theorem dL_day_74 : decode cL_day 74 = .ok (.iload 10, 2) := by decide +kernel
theorem dL_day_76 : decode cL_day 76 = .ok (.imul, 1) := by decide +kernel
theorem dL_day_77 : decode cL_day 77 = .ok (.iaload, 1) := by decide +kernel
theorem dL_day_78 : decode cL_day 78 = .ok (.aload_n 1, 1) := by decide +kernel
theorem dL_day_79 : decode cL_day 79 = .ok (.iconst 2, 1) := by decide +kernel
theorem dL_day_80 : decode cL_day 80 = .ok (.iload 9, 2) := by decide +kernel
theorem dL_day_82 : decode cL_day 82 = .ok (.imul, 1) := by decide +kernel
theorem dL_day_83 : decode cL_day 83 = .ok (.iaload, 1) := by decide +kernel
theorem dL_day_84 : decode cL_day 84 = .ok (.if_icmp .le 7, 3) := by decide +kernel
theorem dL_day_87 : decode cL_day 87 = .ok (.iload 10, 2) := by decide +kernel
theorem dL_day_89 : decode cL_day 89 = .ok (.istore 9, 2) := by decide +kernel
theorem dL_day_91 : decode cL_day 91 = .ok (.iinc 10 1, 3) := by decide +kernel
theorem dL_day_94 : decode cL_day 94 = .ok (.goto (-45), 3) := by decide +kernel
theorem dL_day_97 : decode cL_day 97 = .ok (.iload 7, 2) := by decide +kernel
theorem dL_day_99 : decode cL_day 99 = .ok (.iconst 1, 1) := by decide +kernel
theorem dL_day_100 : decode cL_day 100 = .ok (.iload 9, 2) := by decide +kernel
theorem dL_day_102 : decode cL_day 102 = .ok (.ishl, 1) := by decide +kernel
theorem dL_day_103 : decode cL_day 103 = .ok (.ior, 1) := by decide +kernel
theorem dL_day_104 : decode cL_day 104 = .ok (.istore 7, 2) := by decide +kernel
theorem dL_day_106 : decode cL_day 106 = .ok (.aload_n 0, 1) := by decide +kernel
theorem dL_day_107 : decode cL_day 107 = .ok (.aload_n 2, 1) := by decide +kernel
theorem dL_day_108 : decode cL_day 108 = .ok (.iload 9, 2) := by decide +kernel
theorem dL_day_110 : decode cL_day 110 = .ok (.invokestatic 87, 3) := by decide +kernel
theorem dL_day_113 : decode cL_day 113 = .ok (.ifCond .ge 6, 3) := by decide +kernel
theorem dL_day_116 : decode cL_day 116 = .ok (.goto 172, 3) := by decide +kernel
theorem dL_day_119 : decode cL_day 119 = .ok (.iconst (-1), 1) := by decide +kernel
theorem dL_day_120 : decode cL_day 120 = .ok (.istore 10, 2) := by decide +kernel
theorem dL_day_122 : decode cL_day 122 = .ok (.iconst 0, 1) := by decide +kernel
theorem dL_day_123 : decode cL_day 123 = .ok (.istore 11, 2) := by decide +kernel
theorem dL_day_125 : decode cL_day 125 = .ok (.iload 11, 2) := by decide +kernel
theorem dL_day_127 : decode cL_day 127 = .ok (.aload_n 0, 1) := by decide +kernel
theorem dL_day_128 : decode cL_day 128 = .ok (.iconst 0, 1) := by decide +kernel
theorem dL_day_129 : decode cL_day 129 = .ok (.iaload, 1) := by decide +kernel
theorem dL_day_130 : decode cL_day 130 = .ok (.if_icmp .ge 70, 3) := by decide +kernel
theorem dL_day_133 : decode cL_day 133 = .ok (.aload_n 2, 1) := by decide +kernel
theorem dL_day_134 : decode cL_day 134 = .ok (.bipush 8, 2) := by decide +kernel
theorem dL_day_136 : decode cL_day 136 = .ok (.iload 11, 2) := by decide +kernel
theorem dL_day_138 : decode cL_day 138 = .ok (.imul, 1) := by decide +kernel
theorem dL_day_139 : decode cL_day 139 = .ok (.iload 9, 2) := by decide +kernel
theorem dL_day_141 : decode cL_day 141 = .ok (.iadd, 1) := by decide +kernel
theorem dL_day_142 : decode cL_day 142 = .ok (.iaload, 1) := by decide +kernel
theorem dL_day_143 : decode cL_day 143 = .ok (.ifCond .ge 51, 3) := by decide +kernel
theorem dL_day_146 : decode cL_day 146 = .ok (.iload 6, 2) := by decide +kernel
theorem dL_day_148 : decode cL_day 148 = .ok (.iload 11, 2) := by decide +kernel
theorem dL_day_150 : decode cL_day 150 = .ok (.ishr, 1) := by decide +kernel
theorem dL_day_151 : decode cL_day 151 = .ok (.iconst 1, 1) := by decide +kernel
theorem dL_day_152 : decode cL_day 152 = .ok (.iand, 1) := by decide +kernel
theorem dL_day_153 : decode cL_day 153 = .ok (.ifCond .ne 41, 3) := by decide +kernel
theorem dL_day_156 : decode cL_day 156 = .ok (.iload 10, 2) := by decide +kernel
theorem dL_day_158 : decode cL_day 158 = .ok (.ifCond .lt 32, 3) := by decide +kernel
theorem dL_day_161 : decode cL_day 161 = .ok (.aload_n 0, 1) := by decide +kernel
theorem dL_day_162 : decode cL_day 162 = .ok (.aload_n 1, 1) := by decide +kernel
theorem dL_day_163 : decode cL_day 163 = .ok (.aload_n 2, 1) := by decide +kernel
theorem dL_day_164 : decode cL_day 164 = .ok (.aload_n 3, 1) := by decide +kernel
theorem dL_day_165 : decode cL_day 165 = .ok (.iload 11, 2) := by decide +kernel
theorem dL_day_167 : decode cL_day 167 = .ok (.iload 9, 2) := by decide +kernel
theorem dL_day_169 : decode cL_day 169 = .ok (.iload 5, 2) := by decide +kernel
theorem dL_day_171 : decode cL_day 171 = .ok (.invokestatic 91, 3) := by decide +kernel
theorem dL_day_174 : decode cL_day 174 = .ok (.aload_n 0, 1) := by decide +kernel
theorem dL_day_175 : decode cL_day 175 = .ok (.aload_n 1, 1) := by decide +kernel
theorem dL_day_176 : decode cL_day 176 = .ok (.aload_n 2, 1) := by decide +kernel
theorem dL_day_177 : decode cL_day 177 = .ok (.aload_n 3, 1) := by decide +kernel
theorem dL_day_178 : decode cL_day 178 = .ok (.iload 10, 2) := by decide +kernel
theorem dL_day_180 : decode cL_day 180 = .ok (.iload 9, 2) := by decide +kernel
theorem dL_day_182 : decode cL_day 182 = .ok (.iload 5, 2) := by decide +kernel
theorem dL_day_184 : decode cL_day 184 = .ok (.invokestatic 91, 3) := by decide +kernel
theorem dL_day_187 : decode cL_day 187 = .ok (.if_icmp .le 7, 3) := by decide +kernel
theorem dL_day_190 : decode cL_day 190 = .ok (.iload 11, 2) := by decide +kernel
theorem dL_day_192 : decode cL_day 192 = .ok (.istore 10, 2) := by decide +kernel
theorem dL_day_194 : decode cL_day 194 = .ok (.iinc 11 1, 3) := by decide +kernel
theorem dL_day_197 : decode cL_day 197 = .ok (.goto (-72), 3) := by decide +kernel
theorem dL_day_200 : decode cL_day 200 = .ok (.iload 10, 2) := by decide +kernel
theorem dL_day_202 : decode cL_day 202 = .ok (.ifCond .ge 6, 3) := by decide +kernel
theorem dL_day_205 : decode cL_day 205 = .ok (.goto 83, 3) := by decide +kernel
theorem dL_day_208 : decode cL_day 208 = .ok (.aload_n 0, 1) := by decide +kernel
theorem dL_day_209 : decode cL_day 209 = .ok (.aload_n 1, 1) := by decide +kernel
theorem dL_day_210 : decode cL_day 210 = .ok (.aload_n 2, 1) := by decide +kernel
theorem dL_day_211 : decode cL_day 211 = .ok (.aload_n 3, 1) := by decide +kernel
theorem dL_day_212 : decode cL_day 212 = .ok (.iload 10, 2) := by decide +kernel
theorem dL_day_214 : decode cL_day 214 = .ok (.iload 9, 2) := by decide +kernel
theorem dL_day_216 : decode cL_day 216 = .ok (.iload 5, 2) := by decide +kernel
theorem dL_day_218 : decode cL_day 218 = .ok (.invokestatic 91, 3) := by decide +kernel
theorem dL_day_221 : decode cL_day 221 = .ok (.istore 11, 2) := by decide +kernel
theorem dL_day_223 : decode cL_day 223 = .ok (.aload_n 1, 1) := by decide +kernel
theorem dL_day_224 : decode cL_day 224 = .ok (.iconst 2, 1) := by decide +kernel
theorem dL_day_225 : decode cL_day 225 = .ok (.iload 9, 2) := by decide +kernel
theorem dL_day_227 : decode cL_day 227 = .ok (.imul, 1) := by decide +kernel
theorem dL_day_228 : decode cL_day 228 = .ok (.aload_n 1, 1) := by decide +kernel
theorem dL_day_229 : decode cL_day 229 = .ok (.iconst 2, 1) := by decide +kernel
theorem dL_day_230 : decode cL_day 230 = .ok (.iload 9, 2) := by decide +kernel
theorem dL_day_232 : decode cL_day 232 = .ok (.imul, 1) := by decide +kernel
theorem dL_day_233 : decode cL_day 233 = .ok (.iaload, 1) := by decide +kernel
theorem dL_day_234 : decode cL_day 234 = .ok (.iload 11, 2) := by decide +kernel
theorem dL_day_236 : decode cL_day 236 = .ok (.if_icmp .le 15, 3) := by decide +kernel
theorem dL_day_239 : decode cL_day 239 = .ok (.aload_n 1, 1) := by decide +kernel
theorem dL_day_240 : decode cL_day 240 = .ok (.iconst 2, 1) := by decide +kernel
theorem dL_day_241 : decode cL_day 241 = .ok (.iload 9, 2) := by decide +kernel
theorem dL_day_243 : decode cL_day 243 = .ok (.imul, 1) := by decide +kernel
theorem dL_day_244 : decode cL_day 244 = .ok (.iaload, 1) := by decide +kernel
theorem dL_day_245 : decode cL_day 245 = .ok (.iload 11, 2) := by decide +kernel
theorem dL_day_247 : decode cL_day 247 = .ok (.isub, 1) := by decide +kernel
theorem dL_day_248 : decode cL_day 248 = .ok (.goto 4, 3) := by decide +kernel
theorem dL_day_251 : decode cL_day 251 = .ok (.iconst 0, 1) := by decide +kernel
theorem dL_day_252 : decode cL_day 252 = .ok (.iastore, 1) := by decide +kernel
theorem dL_day_253 : decode cL_day 253 = .ok (.aload_n 2, 1) := by decide +kernel
theorem dL_day_254 : decode cL_day 254 = .ok (.bipush 8, 2) := by decide +kernel
theorem dL_day_256 : decode cL_day 256 = .ok (.iload 10, 2) := by decide +kernel
theorem dL_day_258 : decode cL_day 258 = .ok (.imul, 1) := by decide +kernel
theorem dL_day_259 : decode cL_day 259 = .ok (.iload 9, 2) := by decide +kernel
theorem dL_day_261 : decode cL_day 261 = .ok (.iadd, 1) := by decide +kernel
theorem dL_day_262 : decode cL_day 262 = .ok (.dup2, 1) := by decide +kernel
theorem dL_day_263 : decode cL_day 263 = .ok (.iaload, 1) := by decide +kernel
theorem dL_day_264 : decode cL_day 264 = .ok (.aload_n 0, 1) := by decide +kernel
theorem dL_day_265 : decode cL_day 265 = .ok (.iconst 1, 1) := by decide +kernel
theorem dL_day_266 : decode cL_day 266 = .ok (.iaload, 1) := by decide +kernel
theorem dL_day_267 : decode cL_day 267 = .ok (.iadd, 1) := by decide +kernel
theorem dL_day_268 : decode cL_day 268 = .ok (.iastore, 1) := by decide +kernel
theorem dL_day_269 : decode cL_day 269 = .ok (.iload 6, 2) := by decide +kernel
theorem dL_day_271 : decode cL_day 271 = .ok (.iconst 1, 1) := by decide +kernel
theorem dL_day_272 : decode cL_day 272 = .ok (.iload 10, 2) := by decide +kernel
theorem dL_day_274 : decode cL_day 274 = .ok (.ishl, 1) := by decide +kernel
theorem dL_day_275 : decode cL_day 275 = .ok (.ior, 1) := by decide +kernel
theorem dL_day_276 : decode cL_day 276 = .ok (.istore 6, 2) := by decide +kernel
theorem dL_day_278 : decode cL_day 278 = .ok (.aload 4, 2) := by decide +kernel
theorem dL_day_280 : decode cL_day 280 = .ok (.iload 9, 2) := by decide +kernel
theorem dL_day_282 : decode cL_day 282 = .ok (.iload 10, 2) := by decide +kernel
theorem dL_day_284 : decode cL_day 284 = .ok (.iastore, 1) := by decide +kernel
theorem dL_day_285 : decode cL_day 285 = .ok (.iinc 5 1, 3) := by decide +kernel
theorem dL_day_288 : decode cL_day 288 = .ok (.iinc 8 1, 3) := by decide +kernel
theorem dL_day_291 : decode cL_day 291 = .ok (.goto (-256), 3) := by decide +kernel
theorem dL_day_294 : decode cL_day 294 = .ok (.iconst 0, 1) := by decide +kernel
theorem dL_day_295 : decode cL_day 295 = .ok (.istore 8, 2) := by decide +kernel
theorem dL_day_297 : decode cL_day 297 = .ok (.iload 8, 2) := by decide +kernel
theorem dL_day_299 : decode cL_day 299 = .ok (.aload_n 0, 1) := by decide +kernel
theorem dL_day_300 : decode cL_day 300 = .ok (.iconst 0, 1) := by decide +kernel
theorem dL_day_301 : decode cL_day 301 = .ok (.iaload, 1) := by decide +kernel
theorem dL_day_302 : decode cL_day 302 = .ok (.if_icmp .ge 55, 3) := by decide +kernel
theorem dL_day_305 : decode cL_day 305 = .ok (.aload 4, 2) := by decide +kernel
theorem dL_day_307 : decode cL_day 307 = .ok (.iload 8, 2) := by decide +kernel
theorem dL_day_309 : decode cL_day 309 = .ok (.iaload, 1) := by decide +kernel
theorem dL_day_310 : decode cL_day 310 = .ok (.bipush 8, 2) := by decide +kernel
theorem dL_day_312 : decode cL_day 312 = .ok (.if_icmp .ne 39, 3) := by decide +kernel
theorem dL_day_315 : decode cL_day 315 = .ok (.aload_n 1, 1) := by decide +kernel
theorem dL_day_316 : decode cL_day 316 = .ok (.iconst 2, 1) := by decide +kernel
theorem dL_day_317 : decode cL_day 317 = .ok (.iload 8, 2) := by decide +kernel
theorem dL_day_319 : decode cL_day 319 = .ok (.imul, 1) := by decide +kernel
theorem dL_day_320 : decode cL_day 320 = .ok (.aload_n 1, 1) := by decide +kernel
theorem dL_day_321 : decode cL_day 321 = .ok (.iconst 2, 1) := by decide +kernel
theorem dL_day_322 : decode cL_day 322 = .ok (.iload 8, 2) := by decide +kernel
theorem dL_day_324 : decode cL_day 324 = .ok (.imul, 1) := by decide +kernel
theorem dL_day_325 : decode cL_day 325 = .ok (.iaload, 1) := by decide +kernel
theorem dL_day_326 : decode cL_day 326 = .ok (.aload_n 0, 1) := by decide +kernel
theorem dL_day_327 : decode cL_day 327 = .ok (.iconst 3, 1) := by decide +kernel
theorem dL_day_328 : decode cL_day 328 = .ok (.iaload, 1) := by decide +kernel
theorem dL_day_329 : decode cL_day 329 = .ok (.iadd, 1) := by decide +kernel
theorem dL_day_330 : decode cL_day 330 = .ok (.bipush 99, 2) := by decide +kernel
theorem dL_day_332 : decode cL_day 332 = .ok (.if_icmp .le 8, 3) := by decide +kernel
theorem dL_day_335 : decode cL_day 335 = .ok (.bipush 99, 2) := by decide +kernel
theorem dL_day_337 : decode cL_day 337 = .ok (.goto 13, 3) := by decide +kernel
theorem dL_day_340 : decode cL_day 340 = .ok (.aload_n 1, 1) := by decide +kernel
theorem dL_day_341 : decode cL_day 341 = .ok (.iconst 2, 1) := by decide +kernel
theorem dL_day_342 : decode cL_day 342 = .ok (.iload 8, 2) := by decide +kernel
theorem dL_day_344 : decode cL_day 344 = .ok (.imul, 1) := by decide +kernel
theorem dL_day_345 : decode cL_day 345 = .ok (.iaload, 1) := by decide +kernel
theorem dL_day_346 : decode cL_day 346 = .ok (.aload_n 0, 1) := by decide +kernel
theorem dL_day_347 : decode cL_day 347 = .ok (.iconst 3, 1) := by decide +kernel
theorem dL_day_348 : decode cL_day 348 = .ok (.iaload, 1) := by decide +kernel
theorem dL_day_349 : decode cL_day 349 = .ok (.iadd, 1) := by decide +kernel
theorem dL_day_350 : decode cL_day 350 = .ok (.iastore, 1) := by decide +kernel
theorem dL_day_351 : decode cL_day 351 = .ok (.iinc 8 1, 3) := by decide +kernel
theorem dL_day_354 : decode cL_day 354 = .ok (.goto (-57), 3) := by decide +kernel
theorem dL_day_357 : decode cL_day 357 = .ok (.aload_n 0, 1) := by decide +kernel
theorem dL_day_358 : decode cL_day 358 = .ok (.iconst 4, 1) := by decide +kernel
theorem dL_day_359 : decode cL_day 359 = .ok (.iaload, 1) := by decide +kernel
theorem dL_day_360 : decode cL_day 360 = .ok (.bipush 99, 2) := by decide +kernel
theorem dL_day_362 : decode cL_day 362 = .ok (.if_icmp .ge 10, 3) := by decide +kernel
theorem dL_day_365 : decode cL_day 365 = .ok (.aload_n 0, 1) := by decide +kernel
theorem dL_day_366 : decode cL_day 366 = .ok (.iconst 4, 1) := by decide +kernel
theorem dL_day_367 : decode cL_day 367 = .ok (.dup2, 1) := by decide +kernel
theorem dL_day_368 : decode cL_day 368 = .ok (.iaload, 1) := by decide +kernel
theorem dL_day_369 : decode cL_day 369 = .ok (.iconst 1, 1) := by decide +kernel
theorem dL_day_370 : decode cL_day 370 = .ok (.iadd, 1) := by decide +kernel
theorem dL_day_371 : decode cL_day 371 = .ok (.iastore, 1) := by decide +kernel
theorem dL_day_372 : decode cL_day 372 = .ok (.aload_n 0, 1) := by decide +kernel
theorem dL_day_373 : decode cL_day 373 = .ok (.iconst 2, 1) := by decide +kernel
theorem dL_day_374 : decode cL_day 374 = .ok (.iaload, 1) := by decide +kernel
theorem dL_day_375 : decode cL_day 375 = .ok (.ifCond .eq 59, 3) := by decide +kernel
theorem dL_day_378 : decode cL_day 378 = .ok (.aload_n 0, 1) := by decide +kernel
theorem dL_day_379 : decode cL_day 379 = .ok (.iconst 4, 1) := by decide +kernel
theorem dL_day_380 : decode cL_day 380 = .ok (.iaload, 1) := by decide +kernel
theorem dL_day_381 : decode cL_day 381 = .ok (.aload_n 0, 1) := by decide +kernel
theorem dL_day_382 : decode cL_day 382 = .ok (.iconst 2, 1) := by decide +kernel
theorem dL_day_383 : decode cL_day 383 = .ok (.iaload, 1) := by decide +kernel
theorem dL_day_384 : decode cL_day 384 = .ok (.irem, 1) := by decide +kernel
theorem dL_day_385 : decode cL_day 385 = .ok (.ifCond .ne 49, 3) := by decide +kernel
theorem dL_day_388 : decode cL_day 388 = .ok (.iconst 0, 1) := by decide +kernel
theorem dL_day_389 : decode cL_day 389 = .ok (.istore 8, 2) := by decide +kernel
theorem dL_day_391 : decode cL_day 391 = .ok (.iload 8, 2) := by decide +kernel
theorem dL_day_393 : decode cL_day 393 = .ok (.bipush 64, 2) := by decide +kernel
theorem dL_day_395 : decode cL_day 395 = .ok (.if_icmp .ge 39, 3) := by decide +kernel
theorem dL_day_398 : decode cL_day 398 = .ok (.aload_n 2, 1) := by decide +kernel
theorem dL_day_399 : decode cL_day 399 = .ok (.iload 8, 2) := by decide +kernel
theorem dL_day_401 : decode cL_day 401 = .ok (.dup2, 1) := by decide +kernel
theorem dL_day_402 : decode cL_day 402 = .ok (.iaload, 1) := by decide +kernel
theorem dL_day_403 : decode cL_day 403 = .ok (.aload_n 2, 1) := by decide +kernel
theorem dL_day_404 : decode cL_day 404 = .ok (.iload 8, 2) := by decide +kernel
theorem dL_day_406 : decode cL_day 406 = .ok (.iaload, 1) := by decide +kernel
theorem dL_day_407 : decode cL_day 407 = .ok (.ifCond .le 7, 3) := by decide +kernel
theorem dL_day_410 : decode cL_day 410 = .ok (.iconst (-1), 1) := by decide +kernel
theorem dL_day_411 : decode cL_day 411 = .ok (.goto 15, 3) := by decide +kernel
theorem dL_day_414 : decode cL_day 414 = .ok (.aload_n 2, 1) := by decide +kernel
theorem dL_day_415 : decode cL_day 415 = .ok (.iload 8, 2) := by decide +kernel
theorem dL_day_417 : decode cL_day 417 = .ok (.iaload, 1) := by decide +kernel
theorem dL_day_418 : decode cL_day 418 = .ok (.ifCond .ge 7, 3) := by decide +kernel
theorem dL_day_421 : decode cL_day 421 = .ok (.iconst 1, 1) := by decide +kernel
theorem dL_day_422 : decode cL_day 422 = .ok (.goto 4, 3) := by decide +kernel
theorem dL_day_425 : decode cL_day 425 = .ok (.iconst 0, 1) := by decide +kernel
theorem dL_day_426 : decode cL_day 426 = .ok (.iadd, 1) := by decide +kernel
theorem dL_day_427 : decode cL_day 427 = .ok (.iastore, 1) := by decide +kernel
theorem dL_day_428 : decode cL_day 428 = .ok (.iinc 8 1, 3) := by decide +kernel
theorem dL_day_431 : decode cL_day 431 = .ok (.goto (-40), 3) := by decide +kernel
theorem dL_day_434 : decode cL_day 434 = .ok (.iload 5, 2) := by decide +kernel
theorem dL_day_436 : decode cL_day 436 = .ok (.ireturn, 1) := by decide +kernel
theorem dL_copy_0 : decode cL_copy 0 = .ok (.bipush 64, 2) := by decide +kernel
theorem dL_copy_2 : decode cL_copy 2 = .ok (.newarray .int, 2) := by decide +kernel
theorem dL_copy_4 : decode cL_copy 4 = .ok (.astore_n 1, 1) := by decide +kernel
theorem dL_copy_5 : decode cL_copy 5 = .ok (.iconst 0, 1) := by decide +kernel
theorem dL_copy_6 : decode cL_copy 6 = .ok (.istore_n 2, 1) := by decide +kernel
theorem dL_copy_7 : decode cL_copy 7 = .ok (.iload_n 2, 1) := by decide +kernel
theorem dL_copy_8 : decode cL_copy 8 = .ok (.aload_n 0, 1) := by decide +kernel
theorem dL_copy_9 : decode cL_copy 9 = .ok (.arraylength, 1) := by decide +kernel
theorem dL_copy_10 : decode cL_copy 10 = .ok (.if_icmp .ge 15, 3) := by decide +kernel
theorem dL_copy_13 : decode cL_copy 13 = .ok (.aload_n 1, 1) := by decide +kernel
theorem dL_copy_14 : decode cL_copy 14 = .ok (.iload_n 2, 1) := by decide +kernel
theorem dL_copy_15 : decode cL_copy 15 = .ok (.aload_n 0, 1) := by decide +kernel
theorem dL_copy_16 : decode cL_copy 16 = .ok (.iload_n 2, 1) := by decide +kernel
theorem dL_copy_17 : decode cL_copy 17 = .ok (.iaload, 1) := by decide +kernel
theorem dL_copy_18 : decode cL_copy 18 = .ok (.iastore, 1) := by decide +kernel
theorem dL_copy_19 : decode cL_copy 19 = .ok (.iinc 2 1, 3) := by decide +kernel
theorem dL_copy_22 : decode cL_copy 22 = .ok (.goto (-15), 3) := by decide +kernel
theorem dL_copy_25 : decode cL_copy 25 = .ok (.aload_n 1, 1) := by decide +kernel
theorem dL_copy_26 : decode cL_copy 26 = .ok (.areturn, 1) := by decide +kernel
