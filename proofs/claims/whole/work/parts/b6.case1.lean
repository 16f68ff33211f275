/-! THE LAW: its cases, by program (wip/gen/gen5.py) -/
theorem kq_L_172 : Cond.constantLong RL 172 (4294967295 : Int64) ∈ T1 := T1_of 1692 (by decide +kernel) rfl
theorem in_L : Cond.initialized RL ∈ T1 := T1_of 81 (by decide +kernel) rfl
theorem cmp_self (x : Int64) : lg_cmp x x = 0 := by simp [lg_cmp]
theorem dL_law_204 : decode cL_law 204 = .ok (.aload_n 1, 1) := by decide +kernel
theorem dL_law_205 : decode cL_law 205 = .ok (.aload_n 0, 1) := by decide +kernel
theorem dL_law_206 : decode cL_law 206 = .ok (.iload 4, 2) := by decide +kernel
theorem dL_law_208 : decode cL_law 208 = .ok (.iconst 1, 1) := by decide +kernel
theorem dL_law_209 : decode cL_law 209 = .ok (.iadd, 1) := by decide +kernel
theorem dL_law_210 : decode cL_law 210 = .ok (.iaload, 1) := by decide +kernel
theorem dL_law_211 : decode cL_law 211 = .ok (.aload_n 0, 1) := by decide +kernel
theorem dL_law_212 : decode cL_law 212 = .ok (.iload 4, 2) := by decide +kernel
theorem dL_law_214 : decode cL_law 214 = .ok (.iconst 2, 1) := by decide +kernel
theorem dL_law_215 : decode cL_law 215 = .ok (.iadd, 1) := by decide +kernel
theorem dL_law_216 : decode cL_law 216 = .ok (.iaload, 1) := by decide +kernel
theorem dL_law_217 : decode cL_law 217 = .ok (.aload_n 0, 1) := by decide +kernel
theorem dL_law_218 : decode cL_law 218 = .ok (.iload 4, 2) := by decide +kernel
theorem dL_law_220 : decode cL_law 220 = .ok (.iconst 3, 1) := by decide +kernel
theorem dL_law_221 : decode cL_law 221 = .ok (.iadd, 1) := by decide +kernel
theorem dL_law_222 : decode cL_law 222 = .ok (.iaload, 1) := by decide +kernel
theorem dL_law_223 : decode cL_law 223 = .ok (.invokevirtual 32, 3) := by decide +kernel
theorem dL_law_226 : decode cL_law 226 = .ok (.aload_n 2, 1) := by decide +kernel
theorem dL_law_227 : decode cL_law 227 = .ok (.aload_n 0, 1) := by decide +kernel
theorem dL_law_228 : decode cL_law 228 = .ok (.iload 4, 2) := by decide +kernel
theorem dL_law_230 : decode cL_law 230 = .ok (.iconst 1, 1) := by decide +kernel
theorem dL_law_231 : decode cL_law 231 = .ok (.iadd, 1) := by decide +kernel
theorem dL_law_232 : decode cL_law 232 = .ok (.iaload, 1) := by decide +kernel
theorem dL_law_233 : decode cL_law 233 = .ok (.aload_n 0, 1) := by decide +kernel
theorem dL_law_234 : decode cL_law 234 = .ok (.iload 4, 2) := by decide +kernel
theorem dL_law_236 : decode cL_law 236 = .ok (.iconst 2, 1) := by decide +kernel
theorem dL_law_237 : decode cL_law 237 = .ok (.iadd, 1) := by decide +kernel
theorem dL_law_238 : decode cL_law 238 = .ok (.iaload, 1) := by decide +kernel
theorem dL_law_239 : decode cL_law 239 = .ok (.aload_n 0, 1) := by decide +kernel
theorem dL_law_240 : decode cL_law 240 = .ok (.iload 4, 2) := by decide +kernel
theorem dL_law_242 : decode cL_law 242 = .ok (.iconst 3, 1) := by decide +kernel
theorem dL_law_243 : decode cL_law 243 = .ok (.iadd, 1) := by decide +kernel
theorem dL_law_244 : decode cL_law 244 = .ok (.iaload, 1) := by decide +kernel
theorem dL_law_245 : decode cL_law 245 = .ok (.invokevirtual 35, 3) := by decide +kernel
theorem dL_law_248 : decode cL_law 248 = .ok (.if_icmp .eq 1552, 3) := by decide +kernel
theorem dL_law_253 : decode cL_law 253 = .ok (.aload_n 1, 1) := by decide +kernel
theorem dL_law_254 : decode cL_law 254 = .ok (.aload_n 0, 1) := by decide +kernel
theorem dL_law_255 : decode cL_law 255 = .ok (.iload 4, 2) := by decide +kernel
theorem dL_law_257 : decode cL_law 257 = .ok (.iconst 1, 1) := by decide +kernel
theorem dL_law_258 : decode cL_law 258 = .ok (.iadd, 1) := by decide +kernel
theorem dL_law_259 : decode cL_law 259 = .ok (.iaload, 1) := by decide +kernel
theorem dL_law_260 : decode cL_law 260 = .ok (.aload_n 0, 1) := by decide +kernel
theorem dL_law_261 : decode cL_law 261 = .ok (.iload 4, 2) := by decide +kernel
theorem dL_law_263 : decode cL_law 263 = .ok (.iconst 2, 1) := by decide +kernel
theorem dL_law_264 : decode cL_law 264 = .ok (.iadd, 1) := by decide +kernel
theorem dL_law_265 : decode cL_law 265 = .ok (.iaload, 1) := by decide +kernel
theorem dL_law_266 : decode cL_law 266 = .ok (.invokevirtual 36, 3) := by decide +kernel
theorem dL_law_269 : decode cL_law 269 = .ok (.aload_n 2, 1) := by decide +kernel
theorem dL_law_270 : decode cL_law 270 = .ok (.aload_n 0, 1) := by decide +kernel
theorem dL_law_271 : decode cL_law 271 = .ok (.iload 4, 2) := by decide +kernel
theorem dL_law_273 : decode cL_law 273 = .ok (.iconst 1, 1) := by decide +kernel
theorem dL_law_274 : decode cL_law 274 = .ok (.iadd, 1) := by decide +kernel
theorem dL_law_275 : decode cL_law 275 = .ok (.iaload, 1) := by decide +kernel
theorem dL_law_276 : decode cL_law 276 = .ok (.aload_n 0, 1) := by decide +kernel
theorem dL_law_277 : decode cL_law 277 = .ok (.iload 4, 2) := by decide +kernel
theorem dL_law_279 : decode cL_law 279 = .ok (.iconst 2, 1) := by decide +kernel
theorem dL_law_280 : decode cL_law 280 = .ok (.iadd, 1) := by decide +kernel
theorem dL_law_281 : decode cL_law 281 = .ok (.iaload, 1) := by decide +kernel
theorem dL_law_282 : decode cL_law 282 = .ok (.invokevirtual 39, 3) := by decide +kernel
theorem dL_law_285 : decode cL_law 285 = .ok (.if_icmp .eq 1515, 3) := by decide +kernel
theorem dL_law_290 : decode cL_law 290 = .ok (.aload_n 1, 1) := by decide +kernel
theorem dL_law_291 : decode cL_law 291 = .ok (.aload_n 0, 1) := by decide +kernel
theorem dL_law_292 : decode cL_law 292 = .ok (.iload 4, 2) := by decide +kernel
theorem dL_law_294 : decode cL_law 294 = .ok (.iconst 1, 1) := by decide +kernel
theorem dL_law_295 : decode cL_law 295 = .ok (.iadd, 1) := by decide +kernel
theorem dL_law_296 : decode cL_law 296 = .ok (.iaload, 1) := by decide +kernel
theorem dL_law_297 : decode cL_law 297 = .ok (.aload_n 0, 1) := by decide +kernel
theorem dL_law_298 : decode cL_law 298 = .ok (.iload 4, 2) := by decide +kernel
theorem dL_law_300 : decode cL_law 300 = .ok (.iconst 2, 1) := by decide +kernel
theorem dL_law_301 : decode cL_law 301 = .ok (.iadd, 1) := by decide +kernel
theorem dL_law_302 : decode cL_law 302 = .ok (.iaload, 1) := by decide +kernel
theorem dL_law_303 : decode cL_law 303 = .ok (.invokevirtual 40, 3) := by decide +kernel
theorem dL_law_306 : decode cL_law 306 = .ok (.aload_n 2, 1) := by decide +kernel
theorem dL_law_307 : decode cL_law 307 = .ok (.aload_n 0, 1) := by decide +kernel
theorem dL_law_308 : decode cL_law 308 = .ok (.iload 4, 2) := by decide +kernel
theorem dL_law_310 : decode cL_law 310 = .ok (.iconst 1, 1) := by decide +kernel
theorem dL_law_311 : decode cL_law 311 = .ok (.iadd, 1) := by decide +kernel
theorem dL_law_312 : decode cL_law 312 = .ok (.iaload, 1) := by decide +kernel
theorem dL_law_313 : decode cL_law 313 = .ok (.aload_n 0, 1) := by decide +kernel
theorem dL_law_314 : decode cL_law 314 = .ok (.iload 4, 2) := by decide +kernel
theorem dL_law_316 : decode cL_law 316 = .ok (.iconst 2, 1) := by decide +kernel
theorem dL_law_317 : decode cL_law 317 = .ok (.iadd, 1) := by decide +kernel
theorem dL_law_318 : decode cL_law 318 = .ok (.iaload, 1) := by decide +kernel
theorem dL_law_319 : decode cL_law 319 = .ok (.invokevirtual 43, 3) := by decide +kernel
theorem dL_law_322 : decode cL_law 322 = .ok (.if_icmp .eq 1478, 3) := by decide +kernel
theorem dL_law_327 : decode cL_law 327 = .ok (.aload_n 1, 1) := by decide +kernel
theorem dL_law_328 : decode cL_law 328 = .ok (.aload_n 0, 1) := by decide +kernel
theorem dL_law_329 : decode cL_law 329 = .ok (.iload 4, 2) := by decide +kernel
theorem dL_law_331 : decode cL_law 331 = .ok (.iconst 1, 1) := by decide +kernel
theorem dL_law_332 : decode cL_law 332 = .ok (.iadd, 1) := by decide +kernel
theorem dL_law_333 : decode cL_law 333 = .ok (.iaload, 1) := by decide +kernel
theorem dL_law_334 : decode cL_law 334 = .ok (.aload_n 0, 1) := by decide +kernel
theorem dL_law_335 : decode cL_law 335 = .ok (.iload 4, 2) := by decide +kernel
theorem dL_law_337 : decode cL_law 337 = .ok (.iconst 2, 1) := by decide +kernel
theorem dL_law_338 : decode cL_law 338 = .ok (.iadd, 1) := by decide +kernel
theorem dL_law_339 : decode cL_law 339 = .ok (.iaload, 1) := by decide +kernel
theorem dL_law_340 : decode cL_law 340 = .ok (.invokevirtual 44, 3) := by decide +kernel
theorem dL_law_343 : decode cL_law 343 = .ok (.aload_n 2, 1) := by decide +kernel
theorem dL_law_344 : decode cL_law 344 = .ok (.aload_n 0, 1) := by decide +kernel
theorem dL_law_345 : decode cL_law 345 = .ok (.iload 4, 2) := by decide +kernel
theorem dL_law_347 : decode cL_law 347 = .ok (.iconst 1, 1) := by decide +kernel
theorem dL_law_348 : decode cL_law 348 = .ok (.iadd, 1) := by decide +kernel
theorem dL_law_349 : decode cL_law 349 = .ok (.iaload, 1) := by decide +kernel
theorem dL_law_350 : decode cL_law 350 = .ok (.aload_n 0, 1) := by decide +kernel
theorem dL_law_351 : decode cL_law 351 = .ok (.iload 4, 2) := by decide +kernel
theorem dL_law_353 : decode cL_law 353 = .ok (.iconst 2, 1) := by decide +kernel
theorem dL_law_354 : decode cL_law 354 = .ok (.iadd, 1) := by decide +kernel
theorem dL_law_355 : decode cL_law 355 = .ok (.iaload, 1) := by decide +kernel
theorem dL_law_356 : decode cL_law 356 = .ok (.invokevirtual 47, 3) := by decide +kernel
theorem dL_law_359 : decode cL_law 359 = .ok (.if_icmp .eq 1441, 3) := by decide +kernel
theorem dL_law_364 : decode cL_law 364 = .ok (.aload_n 1, 1) := by decide +kernel
theorem dL_law_365 : decode cL_law 365 = .ok (.aload_n 0, 1) := by decide +kernel
theorem dL_law_366 : decode cL_law 366 = .ok (.iload 4, 2) := by decide +kernel
theorem dL_law_368 : decode cL_law 368 = .ok (.iconst 1, 1) := by decide +kernel
theorem dL_law_369 : decode cL_law 369 = .ok (.iadd, 1) := by decide +kernel
theorem dL_law_370 : decode cL_law 370 = .ok (.iaload, 1) := by decide +kernel
theorem dL_law_371 : decode cL_law 371 = .ok (.aload_n 0, 1) := by decide +kernel
theorem dL_law_372 : decode cL_law 372 = .ok (.iload 4, 2) := by decide +kernel
theorem dL_law_374 : decode cL_law 374 = .ok (.iconst 2, 1) := by decide +kernel
theorem dL_law_375 : decode cL_law 375 = .ok (.iadd, 1) := by decide +kernel
theorem dL_law_376 : decode cL_law 376 = .ok (.iaload, 1) := by decide +kernel
theorem dL_law_377 : decode cL_law 377 = .ok (.aload_n 0, 1) := by decide +kernel
theorem dL_law_378 : decode cL_law 378 = .ok (.iload 4, 2) := by decide +kernel
theorem dL_law_380 : decode cL_law 380 = .ok (.iconst 3, 1) := by decide +kernel
theorem dL_law_381 : decode cL_law 381 = .ok (.iadd, 1) := by decide +kernel
theorem dL_law_382 : decode cL_law 382 = .ok (.iaload, 1) := by decide +kernel
theorem dL_law_383 : decode cL_law 383 = .ok (.aload_n 0, 1) := by decide +kernel
theorem dL_law_384 : decode cL_law 384 = .ok (.iload 4, 2) := by decide +kernel
theorem dL_law_386 : decode cL_law 386 = .ok (.iconst 4, 1) := by decide +kernel
theorem dL_law_387 : decode cL_law 387 = .ok (.iadd, 1) := by decide +kernel
theorem dL_law_388 : decode cL_law 388 = .ok (.iaload, 1) := by decide +kernel
theorem dL_law_389 : decode cL_law 389 = .ok (.aload_n 0, 1) := by decide +kernel
theorem dL_law_390 : decode cL_law 390 = .ok (.iload 4, 2) := by decide +kernel
theorem dL_law_392 : decode cL_law 392 = .ok (.iconst 5, 1) := by decide +kernel
theorem dL_law_393 : decode cL_law 393 = .ok (.iadd, 1) := by decide +kernel
theorem dL_law_394 : decode cL_law 394 = .ok (.iaload, 1) := by decide +kernel
theorem dL_law_395 : decode cL_law 395 = .ok (.invokevirtual 48, 3) := by decide +kernel
theorem dL_law_398 : decode cL_law 398 = .ok (.aload_n 2, 1) := by decide +kernel
theorem dL_law_399 : decode cL_law 399 = .ok (.aload_n 0, 1) := by decide +kernel
theorem dL_law_400 : decode cL_law 400 = .ok (.iload 4, 2) := by decide +kernel
theorem dL_law_402 : decode cL_law 402 = .ok (.iconst 1, 1) := by decide +kernel
theorem dL_law_403 : decode cL_law 403 = .ok (.iadd, 1) := by decide +kernel
theorem dL_law_404 : decode cL_law 404 = .ok (.iaload, 1) := by decide +kernel
theorem dL_law_405 : decode cL_law 405 = .ok (.aload_n 0, 1) := by decide +kernel
theorem dL_law_406 : decode cL_law 406 = .ok (.iload 4, 2) := by decide +kernel
theorem dL_law_408 : decode cL_law 408 = .ok (.iconst 2, 1) := by decide +kernel
theorem dL_law_409 : decode cL_law 409 = .ok (.iadd, 1) := by decide +kernel
theorem dL_law_410 : decode cL_law 410 = .ok (.iaload, 1) := by decide +kernel
theorem dL_law_411 : decode cL_law 411 = .ok (.aload_n 0, 1) := by decide +kernel
theorem dL_law_412 : decode cL_law 412 = .ok (.iload 4, 2) := by decide +kernel
theorem dL_law_414 : decode cL_law 414 = .ok (.iconst 3, 1) := by decide +kernel
theorem dL_law_415 : decode cL_law 415 = .ok (.iadd, 1) := by decide +kernel
theorem dL_law_416 : decode cL_law 416 = .ok (.iaload, 1) := by decide +kernel
theorem dL_law_417 : decode cL_law 417 = .ok (.aload_n 0, 1) := by decide +kernel
theorem dL_law_418 : decode cL_law 418 = .ok (.iload 4, 2) := by decide +kernel
theorem dL_law_420 : decode cL_law 420 = .ok (.iconst 4, 1) := by decide +kernel
theorem dL_law_421 : decode cL_law 421 = .ok (.iadd, 1) := by decide +kernel
theorem dL_law_422 : decode cL_law 422 = .ok (.iaload, 1) := by decide +kernel
theorem dL_law_423 : decode cL_law 423 = .ok (.aload_n 0, 1) := by decide +kernel
theorem dL_law_424 : decode cL_law 424 = .ok (.iload 4, 2) := by decide +kernel
theorem dL_law_426 : decode cL_law 426 = .ok (.iconst 5, 1) := by decide +kernel
theorem dL_law_427 : decode cL_law 427 = .ok (.iadd, 1) := by decide +kernel
theorem dL_law_428 : decode cL_law 428 = .ok (.iaload, 1) := by decide +kernel
theorem dL_law_429 : decode cL_law 429 = .ok (.invokevirtual 52, 3) := by decide +kernel
theorem dL_law_432 : decode cL_law 432 = .ok (.if_icmp .eq 1368, 3) := by decide +kernel
theorem dL_law_437 : decode cL_law 437 = .ok (.aload_n 1, 1) := by decide +kernel
theorem dL_law_438 : decode cL_law 438 = .ok (.aload_n 0, 1) := by decide +kernel
theorem dL_law_439 : decode cL_law 439 = .ok (.iload 4, 2) := by decide +kernel
theorem dL_law_441 : decode cL_law 441 = .ok (.iconst 1, 1) := by decide +kernel
theorem dL_law_442 : decode cL_law 442 = .ok (.iadd, 1) := by decide +kernel
theorem dL_law_443 : decode cL_law 443 = .ok (.iaload, 1) := by decide +kernel
theorem dL_law_444 : decode cL_law 444 = .ok (.aload_n 0, 1) := by decide +kernel
theorem dL_law_445 : decode cL_law 445 = .ok (.iload 4, 2) := by decide +kernel
theorem dL_law_447 : decode cL_law 447 = .ok (.iconst 2, 1) := by decide +kernel
theorem dL_law_448 : decode cL_law 448 = .ok (.iadd, 1) := by decide +kernel
theorem dL_law_449 : decode cL_law 449 = .ok (.iaload, 1) := by decide +kernel
theorem dL_law_450 : decode cL_law 450 = .ok (.aload_n 0, 1) := by decide +kernel
theorem dL_law_451 : decode cL_law 451 = .ok (.iload 4, 2) := by decide +kernel
theorem dL_law_453 : decode cL_law 453 = .ok (.iconst 3, 1) := by decide +kernel
theorem dL_law_454 : decode cL_law 454 = .ok (.iadd, 1) := by decide +kernel
theorem dL_law_455 : decode cL_law 455 = .ok (.iaload, 1) := by decide +kernel
theorem dL_law_456 : decode cL_law 456 = .ok (.invokevirtual 53, 3) := by decide +kernel
theorem dL_law_459 : decode cL_law 459 = .ok (.aload_n 2, 1) := by decide +kernel
theorem dL_law_460 : decode cL_law 460 = .ok (.aload_n 0, 1) := by decide +kernel
theorem dL_law_461 : decode cL_law 461 = .ok (.iload 4, 2) := by decide +kernel
theorem dL_law_463 : decode cL_law 463 = .ok (.iconst 1, 1) := by decide +kernel
theorem dL_law_464 : decode cL_law 464 = .ok (.iadd, 1) := by decide +kernel
theorem dL_law_465 : decode cL_law 465 = .ok (.iaload, 1) := by decide +kernel
theorem dL_law_466 : decode cL_law 466 = .ok (.aload_n 0, 1) := by decide +kernel
theorem dL_law_467 : decode cL_law 467 = .ok (.iload 4, 2) := by decide +kernel
theorem dL_law_469 : decode cL_law 469 = .ok (.iconst 2, 1) := by decide +kernel
theorem dL_law_470 : decode cL_law 470 = .ok (.iadd, 1) := by decide +kernel
theorem dL_law_471 : decode cL_law 471 = .ok (.iaload, 1) := by decide +kernel
theorem dL_law_472 : decode cL_law 472 = .ok (.aload_n 0, 1) := by decide +kernel
theorem dL_law_473 : decode cL_law 473 = .ok (.iload 4, 2) := by decide +kernel
theorem dL_law_475 : decode cL_law 475 = .ok (.iconst 3, 1) := by decide +kernel
theorem dL_law_476 : decode cL_law 476 = .ok (.iadd, 1) := by decide +kernel
theorem dL_law_477 : decode cL_law 477 = .ok (.iaload, 1) := by decide +kernel
theorem dL_law_478 : decode cL_law 478 = .ok (.invokevirtual 56, 3) := by decide +kernel
theorem dL_law_481 : decode cL_law 481 = .ok (.if_icmp .eq 1319, 3) := by decide +kernel
theorem dL_law_486 : decode cL_law 486 = .ok (.aload_n 1, 1) := by decide +kernel
theorem dL_law_487 : decode cL_law 487 = .ok (.aload_n 0, 1) := by decide +kernel
theorem dL_law_488 : decode cL_law 488 = .ok (.iload 4, 2) := by decide +kernel
theorem dL_law_490 : decode cL_law 490 = .ok (.iconst 1, 1) := by decide +kernel
theorem dL_law_491 : decode cL_law 491 = .ok (.iadd, 1) := by decide +kernel
theorem dL_law_492 : decode cL_law 492 = .ok (.iaload, 1) := by decide +kernel
theorem dL_law_493 : decode cL_law 493 = .ok (.invokevirtual 57, 3) := by decide +kernel
theorem dL_law_496 : decode cL_law 496 = .ok (.aload_n 2, 1) := by decide +kernel
theorem dL_law_497 : decode cL_law 497 = .ok (.aload_n 0, 1) := by decide +kernel
theorem dL_law_498 : decode cL_law 498 = .ok (.iload 4, 2) := by decide +kernel
theorem dL_law_500 : decode cL_law 500 = .ok (.iconst 1, 1) := by decide +kernel
theorem dL_law_501 : decode cL_law 501 = .ok (.iadd, 1) := by decide +kernel
theorem dL_law_502 : decode cL_law 502 = .ok (.iaload, 1) := by decide +kernel
theorem dL_law_503 : decode cL_law 503 = .ok (.invokevirtual 61, 3) := by decide +kernel
theorem dL_law_506 : decode cL_law 506 = .ok (.if_icmp .eq 1294, 3) := by decide +kernel
theorem dL_law_511 : decode cL_law 511 = .ok (.aload_n 1, 1) := by decide +kernel
theorem dL_law_512 : decode cL_law 512 = .ok (.aload_n 0, 1) := by decide +kernel
theorem dL_law_513 : decode cL_law 513 = .ok (.iload 4, 2) := by decide +kernel
theorem dL_law_515 : decode cL_law 515 = .ok (.iconst 1, 1) := by decide +kernel
theorem dL_law_516 : decode cL_law 516 = .ok (.iadd, 1) := by decide +kernel
theorem dL_law_517 : decode cL_law 517 = .ok (.iaload, 1) := by decide +kernel
theorem dL_law_518 : decode cL_law 518 = .ok (.aload_n 0, 1) := by decide +kernel
theorem dL_law_519 : decode cL_law 519 = .ok (.iload 4, 2) := by decide +kernel
theorem dL_law_521 : decode cL_law 521 = .ok (.iconst 2, 1) := by decide +kernel
theorem dL_law_522 : decode cL_law 522 = .ok (.iadd, 1) := by decide +kernel
theorem dL_law_523 : decode cL_law 523 = .ok (.iaload, 1) := by decide +kernel
theorem dL_law_524 : decode cL_law 524 = .ok (.invokevirtual 62, 3) := by decide +kernel
theorem dL_law_527 : decode cL_law 527 = .ok (.aload_n 2, 1) := by decide +kernel
theorem dL_law_528 : decode cL_law 528 = .ok (.aload_n 0, 1) := by decide +kernel
theorem dL_law_529 : decode cL_law 529 = .ok (.iload 4, 2) := by decide +kernel
theorem dL_law_531 : decode cL_law 531 = .ok (.iconst 1, 1) := by decide +kernel
theorem dL_law_532 : decode cL_law 532 = .ok (.iadd, 1) := by decide +kernel
theorem dL_law_533 : decode cL_law 533 = .ok (.iaload, 1) := by decide +kernel
theorem dL_law_534 : decode cL_law 534 = .ok (.aload_n 0, 1) := by decide +kernel
theorem dL_law_535 : decode cL_law 535 = .ok (.iload 4, 2) := by decide +kernel
theorem dL_law_537 : decode cL_law 537 = .ok (.iconst 2, 1) := by decide +kernel
theorem dL_law_538 : decode cL_law 538 = .ok (.iadd, 1) := by decide +kernel
theorem dL_law_539 : decode cL_law 539 = .ok (.iaload, 1) := by decide +kernel
theorem dL_law_540 : decode cL_law 540 = .ok (.invokevirtual 65, 3) := by decide +kernel
theorem dL_law_543 : decode cL_law 543 = .ok (.if_icmp .eq 1257, 3) := by decide +kernel
theorem dL_law_548 : decode cL_law 548 = .ok (.aload_n 1, 1) := by decide +kernel
theorem dL_law_549 : decode cL_law 549 = .ok (.aload_n 0, 1) := by decide +kernel
theorem dL_law_550 : decode cL_law 550 = .ok (.iload 4, 2) := by decide +kernel
theorem dL_law_552 : decode cL_law 552 = .ok (.iconst 1, 1) := by decide +kernel
theorem dL_law_553 : decode cL_law 553 = .ok (.iadd, 1) := by decide +kernel
theorem dL_law_554 : decode cL_law 554 = .ok (.iaload, 1) := by decide +kernel
theorem dL_law_555 : decode cL_law 555 = .ok (.aload_n 0, 1) := by decide +kernel
theorem dL_law_556 : decode cL_law 556 = .ok (.iload 4, 2) := by decide +kernel
theorem dL_law_558 : decode cL_law 558 = .ok (.iconst 2, 1) := by decide +kernel
theorem dL_law_559 : decode cL_law 559 = .ok (.iadd, 1) := by decide +kernel
theorem dL_law_560 : decode cL_law 560 = .ok (.iaload, 1) := by decide +kernel
theorem dL_law_561 : decode cL_law 561 = .ok (.invokevirtual 66, 3) := by decide +kernel
theorem dL_law_564 : decode cL_law 564 = .ok (.aload_n 2, 1) := by decide +kernel
theorem dL_law_565 : decode cL_law 565 = .ok (.aload_n 0, 1) := by decide +kernel
theorem dL_law_566 : decode cL_law 566 = .ok (.iload 4, 2) := by decide +kernel
theorem dL_law_568 : decode cL_law 568 = .ok (.iconst 1, 1) := by decide +kernel
theorem dL_law_569 : decode cL_law 569 = .ok (.iadd, 1) := by decide +kernel
theorem dL_law_570 : decode cL_law 570 = .ok (.iaload, 1) := by decide +kernel
theorem dL_law_571 : decode cL_law 571 = .ok (.aload_n 0, 1) := by decide +kernel
theorem dL_law_572 : decode cL_law 572 = .ok (.iload 4, 2) := by decide +kernel
theorem dL_law_574 : decode cL_law 574 = .ok (.iconst 2, 1) := by decide +kernel
theorem dL_law_575 : decode cL_law 575 = .ok (.iadd, 1) := by decide +kernel
theorem dL_law_576 : decode cL_law 576 = .ok (.iaload, 1) := by decide +kernel
theorem dL_law_577 : decode cL_law 577 = .ok (.invokevirtual 69, 3) := by decide +kernel
theorem dL_law_580 : decode cL_law 580 = .ok (.if_icmp .eq 1220, 3) := by decide +kernel
theorem dL_law_585 : decode cL_law 585 = .ok (.aload_n 1, 1) := by decide +kernel
theorem dL_law_586 : decode cL_law 586 = .ok (.aload_n 0, 1) := by decide +kernel
theorem dL_law_587 : decode cL_law 587 = .ok (.iload 4, 2) := by decide +kernel
theorem dL_law_589 : decode cL_law 589 = .ok (.iconst 1, 1) := by decide +kernel
theorem dL_law_590 : decode cL_law 590 = .ok (.iadd, 1) := by decide +kernel
theorem dL_law_591 : decode cL_law 591 = .ok (.iaload, 1) := by decide +kernel
theorem dL_law_592 : decode cL_law 592 = .ok (.aload_n 0, 1) := by decide +kernel
theorem dL_law_593 : decode cL_law 593 = .ok (.iload 4, 2) := by decide +kernel
theorem dL_law_595 : decode cL_law 595 = .ok (.iconst 2, 1) := by decide +kernel
theorem dL_law_596 : decode cL_law 596 = .ok (.iadd, 1) := by decide +kernel
theorem dL_law_597 : decode cL_law 597 = .ok (.iaload, 1) := by decide +kernel
theorem dL_law_598 : decode cL_law 598 = .ok (.invokevirtual 70, 3) := by decide +kernel
theorem dL_law_601 : decode cL_law 601 = .ok (.aload_n 2, 1) := by decide +kernel
theorem dL_law_602 : decode cL_law 602 = .ok (.aload_n 0, 1) := by decide +kernel
theorem dL_law_603 : decode cL_law 603 = .ok (.iload 4, 2) := by decide +kernel
theorem dL_law_605 : decode cL_law 605 = .ok (.iconst 1, 1) := by decide +kernel
theorem dL_law_606 : decode cL_law 606 = .ok (.iadd, 1) := by decide +kernel
theorem dL_law_607 : decode cL_law 607 = .ok (.iaload, 1) := by decide +kernel
theorem dL_law_608 : decode cL_law 608 = .ok (.aload_n 0, 1) := by decide +kernel
theorem dL_law_609 : decode cL_law 609 = .ok (.iload 4, 2) := by decide +kernel
theorem dL_law_611 : decode cL_law 611 = .ok (.iconst 2, 1) := by decide +kernel
theorem dL_law_612 : decode cL_law 612 = .ok (.iadd, 1) := by decide +kernel
theorem dL_law_613 : decode cL_law 613 = .ok (.iaload, 1) := by decide +kernel
theorem dL_law_614 : decode cL_law 614 = .ok (.invokevirtual 73, 3) := by decide +kernel
theorem dL_law_617 : decode cL_law 617 = .ok (.if_icmp .eq 1183, 3) := by decide +kernel
theorem dL_law_622 : decode cL_law 622 = .ok (.aload_n 1, 1) := by decide +kernel
theorem dL_law_623 : decode cL_law 623 = .ok (.aload_n 0, 1) := by decide +kernel
theorem dL_law_624 : decode cL_law 624 = .ok (.iload 4, 2) := by decide +kernel
theorem dL_law_626 : decode cL_law 626 = .ok (.iconst 1, 1) := by decide +kernel
theorem dL_law_627 : decode cL_law 627 = .ok (.iadd, 1) := by decide +kernel
theorem dL_law_628 : decode cL_law 628 = .ok (.iaload, 1) := by decide +kernel
theorem dL_law_629 : decode cL_law 629 = .ok (.aload_n 0, 1) := by decide +kernel
theorem dL_law_630 : decode cL_law 630 = .ok (.iload 4, 2) := by decide +kernel
theorem dL_law_632 : decode cL_law 632 = .ok (.iconst 2, 1) := by decide +kernel
theorem dL_law_633 : decode cL_law 633 = .ok (.iadd, 1) := by decide +kernel
theorem dL_law_634 : decode cL_law 634 = .ok (.iaload, 1) := by decide +kernel
theorem dL_law_635 : decode cL_law 635 = .ok (.invokevirtual 74, 3) := by decide +kernel
theorem dL_law_638 : decode cL_law 638 = .ok (.aload_n 2, 1) := by decide +kernel
theorem dL_law_639 : decode cL_law 639 = .ok (.aload_n 0, 1) := by decide +kernel
theorem dL_law_640 : decode cL_law 640 = .ok (.iload 4, 2) := by decide +kernel
theorem dL_law_642 : decode cL_law 642 = .ok (.iconst 1, 1) := by decide +kernel
theorem dL_law_643 : decode cL_law 643 = .ok (.iadd, 1) := by decide +kernel
theorem dL_law_644 : decode cL_law 644 = .ok (.iaload, 1) := by decide +kernel
theorem dL_law_645 : decode cL_law 645 = .ok (.aload_n 0, 1) := by decide +kernel
theorem dL_law_646 : decode cL_law 646 = .ok (.iload 4, 2) := by decide +kernel
theorem dL_law_648 : decode cL_law 648 = .ok (.iconst 2, 1) := by decide +kernel
theorem dL_law_649 : decode cL_law 649 = .ok (.iadd, 1) := by decide +kernel
theorem dL_law_650 : decode cL_law 650 = .ok (.iaload, 1) := by decide +kernel
theorem dL_law_651 : decode cL_law 651 = .ok (.invokevirtual 77, 3) := by decide +kernel
theorem dL_law_654 : decode cL_law 654 = .ok (.if_icmp .eq 1146, 3) := by decide +kernel
theorem dL_law_659 : decode cL_law 659 = .ok (.aload_n 1, 1) := by decide +kernel
theorem dL_law_660 : decode cL_law 660 = .ok (.aload_n 0, 1) := by decide +kernel
theorem dL_law_661 : decode cL_law 661 = .ok (.iload 4, 2) := by decide +kernel
theorem dL_law_663 : decode cL_law 663 = .ok (.iconst 1, 1) := by decide +kernel
theorem dL_law_664 : decode cL_law 664 = .ok (.iadd, 1) := by decide +kernel
theorem dL_law_665 : decode cL_law 665 = .ok (.iaload, 1) := by decide +kernel
theorem dL_law_666 : decode cL_law 666 = .ok (.aload_n 0, 1) := by decide +kernel
theorem dL_law_667 : decode cL_law 667 = .ok (.iload 4, 2) := by decide +kernel
theorem dL_law_669 : decode cL_law 669 = .ok (.iconst 2, 1) := by decide +kernel
theorem dL_law_670 : decode cL_law 670 = .ok (.iadd, 1) := by decide +kernel
theorem dL_law_671 : decode cL_law 671 = .ok (.iaload, 1) := by decide +kernel
theorem dL_law_672 : decode cL_law 672 = .ok (.invokevirtual 78, 3) := by decide +kernel
theorem dL_law_675 : decode cL_law 675 = .ok (.aload_n 2, 1) := by decide +kernel
theorem dL_law_676 : decode cL_law 676 = .ok (.aload_n 0, 1) := by decide +kernel
theorem dL_law_677 : decode cL_law 677 = .ok (.iload 4, 2) := by decide +kernel
theorem dL_law_679 : decode cL_law 679 = .ok (.iconst 1, 1) := by decide +kernel
theorem dL_law_680 : decode cL_law 680 = .ok (.iadd, 1) := by decide +kernel
theorem dL_law_681 : decode cL_law 681 = .ok (.iaload, 1) := by decide +kernel
theorem dL_law_682 : decode cL_law 682 = .ok (.aload_n 0, 1) := by decide +kernel
theorem dL_law_683 : decode cL_law 683 = .ok (.iload 4, 2) := by decide +kernel
theorem dL_law_685 : decode cL_law 685 = .ok (.iconst 2, 1) := by decide +kernel
theorem dL_law_686 : decode cL_law 686 = .ok (.iadd, 1) := by decide +kernel
theorem dL_law_687 : decode cL_law 687 = .ok (.iaload, 1) := by decide +kernel
theorem dL_law_688 : decode cL_law 688 = .ok (.invokevirtual 81, 3) := by decide +kernel
theorem dL_law_691 : decode cL_law 691 = .ok (.if_icmp .eq 1109, 3) := by decide +kernel
theorem dL_law_696 : decode cL_law 696 = .ok (.aload_n 1, 1) := by decide +kernel
theorem dL_law_697 : decode cL_law 697 = .ok (.aload_n 0, 1) := by decide +kernel
theorem dL_law_698 : decode cL_law 698 = .ok (.iload 4, 2) := by decide +kernel
theorem dL_law_700 : decode cL_law 700 = .ok (.iconst 1, 1) := by decide +kernel
theorem dL_law_701 : decode cL_law 701 = .ok (.iadd, 1) := by decide +kernel
theorem dL_law_702 : decode cL_law 702 = .ok (.iaload, 1) := by decide +kernel
theorem dL_law_703 : decode cL_law 703 = .ok (.invokevirtual 82, 3) := by decide +kernel
theorem dL_law_706 : decode cL_law 706 = .ok (.aload_n 2, 1) := by decide +kernel
theorem dL_law_707 : decode cL_law 707 = .ok (.aload_n 0, 1) := by decide +kernel
theorem dL_law_708 : decode cL_law 708 = .ok (.iload 4, 2) := by decide +kernel
theorem dL_law_710 : decode cL_law 710 = .ok (.iconst 1, 1) := by decide +kernel
theorem dL_law_711 : decode cL_law 711 = .ok (.iadd, 1) := by decide +kernel
theorem dL_law_712 : decode cL_law 712 = .ok (.iaload, 1) := by decide +kernel
theorem dL_law_713 : decode cL_law 713 = .ok (.invokevirtual 85, 3) := by decide +kernel
theorem dL_law_716 : decode cL_law 716 = .ok (.if_icmp .eq 1084, 3) := by decide +kernel
section CS
variable {p : Program} {l : Launch} {e : Env} {s : State} {m : MethodId} {below : List Frame} {meth : Method} {c : Code} {H : Heap} {cells slots : Nat} {Q : State → Prop}
variable {μ : Mm} {ls : Array Slot} {b L n : Nat} {xs : Nat → Int32} {D : va_G} {cyf : Nat → ClassId} {tb : Nat → Nat} {ks : List Nat} {g : Nat → Int64}
set_option maxHeartbeats 4000000 in
theorem la_begin (C : LC p l s m c b L xs D cyf) (hn : 6 * n + 6 ≤ L) (hI : LI s D cyf tb ks μ g H) (hl : lv_has ls 8 (lcs s b (nI (6 * n)))) (hc : cells + 33 ≤ room_1.cells ∧ slots + 2800 ≤ room_1.slots)
    (kk : ∀ (tb : Nat → Nat) (ks : List Nat) (μ : Mm) (g : Nat → Int64) (H : Heap) (ls : Array Slot), LI s D cyf tb ks μ g H → lv_has ls 8 (lcs s b (nI (6 * n))) → W p l e room_1 s m #[.ref b] below meth c H [] (cells + 33) (slots + 2800) Q (F0 m 1800 ls [])) : W p l e room_1 s m #[.ref b] below meth c H [] cells slots Q (F0 m 204 ls []) := by
  obtain ⟨hG, hH, hK, hR⟩ := hI
  have X := C.cx hG
  have hx := X.1.1
  have hb := X.1.2.1
  obtain ⟨r, μ1, μ2, e1, e2, hR2⟩ := op_begin (F := 1000) (Nat.le_refl _) hR (xs (6 * n + 1)) (xs (6 * n + 2)) (xs (6 * n + 3))
  have e1 : f_X9_begin 1000 μ (xs (6 * n + 1)) (xs (6 * n + 2)) (xs (6 * n + 3)) = some (r, μ1) := e1
  have e2 : f_X10_begin 1000 μ1 (xs (6 * n + 1)) (xs (6 * n + 2)) (xs (6 * n + 3)) = some (r, μ2) := e2
  have ke1 : KP μ μ1 := fun d => (fr_X9_begin (by omega) (by omega) (by omega) (by omega) (by omega) (by omega) (by omega) (by omega) (by omega) (by omega) (by omega) (by omega) (by omega) (by omega) (by omega) e1).1
  have ke2 : KP μ1 μ2 := fun d => (fr_X10_begin (by omega) (by omega) (by omega) (by omega) (by omega) (by omega) (by omega) (by omega) (by omega) (by omega) e2).1
  refine lv_aload_n hx hb dL_law_204 rfl (lv_at hl 3 rfl) ?_
  refine la_arg (n := n) (j := 1) C hH.2.2 (lv_at hl 4 rfl) (lv_at hl 0 rfl) hn rfl (by decide) dL_law_205 dL_law_206 dL_law_208 dL_law_209 dL_law_210 ?_
  refine la_arg (n := n) (j := 2) C hH.2.2 (lv_at hl 4 rfl) (lv_at hl 0 rfl) hn rfl (by decide) dL_law_211 dL_law_212 dL_law_214 dL_law_215 dL_law_216 ?_
  refine la_arg (n := n) (j := 3) C hH.2.2 (lv_at hl 4 rfl) (lv_at hl 0 rfl) hn rfl (by decide) dL_law_217 dL_law_218 dL_law_220 dL_law_221 dL_law_222 ?_
  refine la_V (k := 900) (i := 0) (As := [.int (xs (6 * n + 1)), .int (xs (6 * n + 2)), .int (xs (6 * n + 3))]) (rest := []) X hG hH (c_X9_begin l _ (En_l9 D cyf s.heap.size (s.heap.size + 75) tb (exs ks)) e1) ml_L_32 kv_X9_begin (la_x X hH) rfl rfl ⟨Nat.le_of_ble_eq_true rfl, Nat.le_of_ble_eq_true rfl⟩ ⟨by omega, by omega⟩ rfl rfl hl.1 (Nat.le_of_ble_eq_true rfl) dL_law_223 (st1 := [.int (r)]) rfl (fun H hH => ?_)
  refine lv_aload_n hx hb dL_law_226 rfl (lv_at hl 2 rfl) ?_
  refine la_arg (n := n) (j := 1) C hH.2.2 (lv_at hl 4 rfl) (lv_at hl 0 rfl) hn rfl (by decide) dL_law_227 dL_law_228 dL_law_230 dL_law_231 dL_law_232 ?_
  refine la_arg (n := n) (j := 2) C hH.2.2 (lv_at hl 4 rfl) (lv_at hl 0 rfl) hn rfl (by decide) dL_law_233 dL_law_234 dL_law_236 dL_law_237 dL_law_238 ?_
  refine la_arg (n := n) (j := 3) C hH.2.2 (lv_at hl 4 rfl) (lv_at hl 0 rfl) hn rfl (by decide) dL_law_239 dL_law_240 dL_law_242 dL_law_243 dL_law_244 ?_
  refine la_V (k := 1000) (i := 0) (As := [.int (xs (6 * n + 1)), .int (xs (6 * n + 2)), .int (xs (6 * n + 3))]) (rest := [.int (r)]) X hG hH (c_X10_begin l _ (En_l10 D cyf s.heap.size (s.heap.size + 75) tb (exs ks)) e2) ml_L_35 kv_X10_begin (la_m X hH) rfl rfl ⟨Nat.le_of_ble_eq_true rfl, Nat.le_of_ble_eq_true rfl⟩ ⟨by omega, by omega⟩ rfl rfl hl.1 (Nat.le_of_ble_eq_true rfl) dL_law_245 (st1 := [.int (r), .int (r)]) rfl (fun H hH => ?_)
  refine lv_icmp_eq (tgt := 1800) hx hb dL_law_248 rfl (fun _ => ?_) (fun h => absurd rfl h)
  exact W.widen (by omega) (by omega) (kk tb ks μ2 g H ls ⟨hG, hH, hK.mv (ke1.tr ke2), hR2⟩ hl)
set_option maxHeartbeats 4000000 in
theorem la_home (C : LC p l s m c b L xs D cyf) (hn : 6 * n + 6 ≤ L) (hI : LI s D cyf tb ks μ g H) (hl : lv_has ls 8 (lcs s b (nI (6 * n)))) (hc : cells + 33 ≤ room_1.cells ∧ slots + 2800 ≤ room_1.slots)
    (kk : ∀ (tb : Nat → Nat) (ks : List Nat) (μ : Mm) (g : Nat → Int64) (H : Heap) (ls : Array Slot), LI s D cyf tb ks μ g H → lv_has ls 8 (lcs s b (nI (6 * n))) → W p l e room_1 s m #[.ref b] below meth c H [] (cells + 33) (slots + 2800) Q (F0 m 1800 ls [])) : W p l e room_1 s m #[.ref b] below meth c H [] cells slots Q (F0 m 253 ls []) := by
  obtain ⟨hG, hH, hK, hR⟩ := hI
  have X := C.cx hG
  have hx := X.1.1
  have hb := X.1.2.1
  obtain ⟨r, μ1, μ2, e1, e2, hR2⟩ := op_home (F := 1000) (Nat.le_refl _) hR (xs (6 * n + 1)) (xs (6 * n + 2))
  have e1 : f_X9_home 1000 μ (xs (6 * n + 1)) (xs (6 * n + 2)) = some (r, μ1) := e1
  have e2 : f_X10_home μ1 (xs (6 * n + 1)) (xs (6 * n + 2)) = some (r, μ2) := e2
  have ke1 : KP μ μ1 := fun d => (fr_X9_home (by omega) e1).1
  have ke2 : KP μ1 μ2 := fun d => (fr_X10_home (by omega) e2).1
  refine lv_aload_n hx hb dL_law_253 rfl (lv_at hl 3 rfl) ?_
  refine la_arg (n := n) (j := 1) C hH.2.2 (lv_at hl 4 rfl) (lv_at hl 0 rfl) hn rfl (by decide) dL_law_254 dL_law_255 dL_law_257 dL_law_258 dL_law_259 ?_
  refine la_arg (n := n) (j := 2) C hH.2.2 (lv_at hl 4 rfl) (lv_at hl 0 rfl) hn rfl (by decide) dL_law_260 dL_law_261 dL_law_263 dL_law_264 dL_law_265 ?_
  refine la_V (k := 900) (i := 0) (As := [.int (xs (6 * n + 1)), .int (xs (6 * n + 2))]) (rest := []) X hG hH (c_X9_home l _ (En_l9 D cyf s.heap.size (s.heap.size + 75) tb (exs ks)) e1) ml_L_36 kv_X9_home (la_x X hH) rfl rfl ⟨Nat.le_of_ble_eq_true rfl, Nat.le_of_ble_eq_true rfl⟩ ⟨by omega, by omega⟩ rfl rfl hl.1 (Nat.le_of_ble_eq_true rfl) dL_law_266 (st1 := [.int (r)]) rfl (fun H hH => ?_)
  refine lv_aload_n hx hb dL_law_269 rfl (lv_at hl 2 rfl) ?_
  refine la_arg (n := n) (j := 1) C hH.2.2 (lv_at hl 4 rfl) (lv_at hl 0 rfl) hn rfl (by decide) dL_law_270 dL_law_271 dL_law_273 dL_law_274 dL_law_275 ?_
  refine la_arg (n := n) (j := 2) C hH.2.2 (lv_at hl 4 rfl) (lv_at hl 0 rfl) hn rfl (by decide) dL_law_276 dL_law_277 dL_law_279 dL_law_280 dL_law_281 ?_
  refine la_V (k := 1000) (i := 0) (As := [.int (xs (6 * n + 1)), .int (xs (6 * n + 2))]) (rest := [.int (r)]) X hG hH (c_X10_home l _ (En_l10 D cyf s.heap.size (s.heap.size + 75) tb (exs ks)) e2) ml_L_39 kv_X10_home (la_m X hH) rfl rfl ⟨Nat.le_of_ble_eq_true rfl, Nat.le_of_ble_eq_true rfl⟩ ⟨by omega, by omega⟩ rfl rfl hl.1 (Nat.le_of_ble_eq_true rfl) dL_law_282 (st1 := [.int (r), .int (r)]) rfl (fun H hH => ?_)
  refine lv_icmp_eq (tgt := 1800) hx hb dL_law_285 rfl (fun _ => ?_) (fun h => absurd rfl h)
  exact W.widen (by omega) (by omega) (kk tb ks μ2 g H ls ⟨hG, hH, hK.mv (ke1.tr ke2), hR2⟩ hl)
set_option maxHeartbeats 4000000 in
theorem la_rank (C : LC p l s m c b L xs D cyf) (hn : 6 * n + 6 ≤ L) (hI : LI s D cyf tb ks μ g H) (hl : lv_has ls 8 (lcs s b (nI (6 * n)))) (hc : cells + 33 ≤ room_1.cells ∧ slots + 2800 ≤ room_1.slots)
    (kk : ∀ (tb : Nat → Nat) (ks : List Nat) (μ : Mm) (g : Nat → Int64) (H : Heap) (ls : Array Slot), LI s D cyf tb ks μ g H → lv_has ls 8 (lcs s b (nI (6 * n))) → W p l e room_1 s m #[.ref b] below meth c H [] (cells + 33) (slots + 2800) Q (F0 m 1800 ls [])) : W p l e room_1 s m #[.ref b] below meth c H [] cells slots Q (F0 m 290 ls []) := by
  obtain ⟨hG, hH, hK, hR⟩ := hI
  have X := C.cx hG
  have hx := X.1.1
  have hb := X.1.2.1
  obtain ⟨r, μ1, μ2, e1, e2, hR2⟩ := op_rank hR (xs (6 * n + 1)) (xs (6 * n + 2))
  have e1 : f_X9_rank μ (xs (6 * n + 1)) (xs (6 * n + 2)) = some (r, μ1) := e1
  have e2 : f_X10_rank μ1 (xs (6 * n + 1)) (xs (6 * n + 2)) = some (r, μ2) := e2
  have ke1 : KP μ μ1 := fun d => (fr_X9_rank (by omega) e1).1
  have ke2 : KP μ1 μ2 := fun d => (fr_X10_rank (by omega) e2).1
  refine lv_aload_n hx hb dL_law_290 rfl (lv_at hl 3 rfl) ?_
  refine la_arg (n := n) (j := 1) C hH.2.2 (lv_at hl 4 rfl) (lv_at hl 0 rfl) hn rfl (by decide) dL_law_291 dL_law_292 dL_law_294 dL_law_295 dL_law_296 ?_
  refine la_arg (n := n) (j := 2) C hH.2.2 (lv_at hl 4 rfl) (lv_at hl 0 rfl) hn rfl (by decide) dL_law_297 dL_law_298 dL_law_300 dL_law_301 dL_law_302 ?_
  refine la_V (k := 900) (i := 0) (As := [.int (xs (6 * n + 1)), .int (xs (6 * n + 2))]) (rest := []) X hG hH (c_X9_rank l _ (En_l9 D cyf s.heap.size (s.heap.size + 75) tb (exs ks)) e1) ml_L_40 kv_X9_rank (la_x X hH) rfl rfl ⟨Nat.le_of_ble_eq_true rfl, Nat.le_of_ble_eq_true rfl⟩ ⟨by omega, by omega⟩ rfl rfl hl.1 (Nat.le_of_ble_eq_true rfl) dL_law_303 (st1 := [.int (r)]) rfl (fun H hH => ?_)
  refine lv_aload_n hx hb dL_law_306 rfl (lv_at hl 2 rfl) ?_
  refine la_arg (n := n) (j := 1) C hH.2.2 (lv_at hl 4 rfl) (lv_at hl 0 rfl) hn rfl (by decide) dL_law_307 dL_law_308 dL_law_310 dL_law_311 dL_law_312 ?_
  refine la_arg (n := n) (j := 2) C hH.2.2 (lv_at hl 4 rfl) (lv_at hl 0 rfl) hn rfl (by decide) dL_law_313 dL_law_314 dL_law_316 dL_law_317 dL_law_318 ?_
  refine la_V (k := 1000) (i := 0) (As := [.int (xs (6 * n + 1)), .int (xs (6 * n + 2))]) (rest := [.int (r)]) X hG hH (c_X10_rank l _ (En_l10 D cyf s.heap.size (s.heap.size + 75) tb (exs ks)) e2) ml_L_43 kv_X10_rank (la_m X hH) rfl rfl ⟨Nat.le_of_ble_eq_true rfl, Nat.le_of_ble_eq_true rfl⟩ ⟨by omega, by omega⟩ rfl rfl hl.1 (Nat.le_of_ble_eq_true rfl) dL_law_319 (st1 := [.int (r), .int (r)]) rfl (fun H hH => ?_)
  refine lv_icmp_eq (tgt := 1800) hx hb dL_law_322 rfl (fun _ => ?_) (fun h => absurd rfl h)
  exact W.widen (by omega) (by omega) (kk tb ks μ2 g H ls ⟨hG, hH, hK.mv (ke1.tr ke2), hR2⟩ hl)
set_option maxHeartbeats 4000000 in
theorem la_other (C : LC p l s m c b L xs D cyf) (hn : 6 * n + 6 ≤ L) (hI : LI s D cyf tb ks μ g H) (hl : lv_has ls 8 (lcs s b (nI (6 * n)))) (hc : cells + 33 ≤ room_1.cells ∧ slots + 2800 ≤ room_1.slots)
    (kk : ∀ (tb : Nat → Nat) (ks : List Nat) (μ : Mm) (g : Nat → Int64) (H : Heap) (ls : Array Slot), LI s D cyf tb ks μ g H → lv_has ls 8 (lcs s b (nI (6 * n))) → W p l e room_1 s m #[.ref b] below meth c H [] (cells + 33) (slots + 2800) Q (F0 m 1800 ls [])) : W p l e room_1 s m #[.ref b] below meth c H [] cells slots Q (F0 m 327 ls []) := by
  obtain ⟨hG, hH, hK, hR⟩ := hI
  have X := C.cx hG
  have hx := X.1.1
  have hb := X.1.2.1
  obtain ⟨r, μ1, μ2, e1, e2, hR2⟩ := op_other hR (xs (6 * n + 1)) (xs (6 * n + 2))
  have e1 : f_X9_other μ (xs (6 * n + 1)) (xs (6 * n + 2)) = some (r, μ1) := e1
  have e2 : f_X10_other μ1 (xs (6 * n + 1)) (xs (6 * n + 2)) = some (r, μ2) := e2
  have ke1 : KP μ μ1 := fun d => (fr_X9_other (by omega) e1).1
  have ke2 : KP μ1 μ2 := fun d => (fr_X10_other (by omega) e2).1
  refine lv_aload_n hx hb dL_law_327 rfl (lv_at hl 3 rfl) ?_
  refine la_arg (n := n) (j := 1) C hH.2.2 (lv_at hl 4 rfl) (lv_at hl 0 rfl) hn rfl (by decide) dL_law_328 dL_law_329 dL_law_331 dL_law_332 dL_law_333 ?_
  refine la_arg (n := n) (j := 2) C hH.2.2 (lv_at hl 4 rfl) (lv_at hl 0 rfl) hn rfl (by decide) dL_law_334 dL_law_335 dL_law_337 dL_law_338 dL_law_339 ?_
  refine la_V (k := 900) (i := 0) (As := [.int (xs (6 * n + 1)), .int (xs (6 * n + 2))]) (rest := []) X hG hH (c_X9_other l _ (En_l9 D cyf s.heap.size (s.heap.size + 75) tb (exs ks)) e1) ml_L_44 kv_X9_other (la_x X hH) rfl rfl ⟨Nat.le_of_ble_eq_true rfl, Nat.le_of_ble_eq_true rfl⟩ ⟨by omega, by omega⟩ rfl rfl hl.1 (Nat.le_of_ble_eq_true rfl) dL_law_340 (st1 := [.int (r)]) rfl (fun H hH => ?_)
  refine lv_aload_n hx hb dL_law_343 rfl (lv_at hl 2 rfl) ?_
  refine la_arg (n := n) (j := 1) C hH.2.2 (lv_at hl 4 rfl) (lv_at hl 0 rfl) hn rfl (by decide) dL_law_344 dL_law_345 dL_law_347 dL_law_348 dL_law_349 ?_
  refine la_arg (n := n) (j := 2) C hH.2.2 (lv_at hl 4 rfl) (lv_at hl 0 rfl) hn rfl (by decide) dL_law_350 dL_law_351 dL_law_353 dL_law_354 dL_law_355 ?_
  refine la_V (k := 1000) (i := 0) (As := [.int (xs (6 * n + 1)), .int (xs (6 * n + 2))]) (rest := [.int (r)]) X hG hH (c_X10_other l _ (En_l10 D cyf s.heap.size (s.heap.size + 75) tb (exs ks)) e2) ml_L_47 kv_X10_other (la_m X hH) rfl rfl ⟨Nat.le_of_ble_eq_true rfl, Nat.le_of_ble_eq_true rfl⟩ ⟨by omega, by omega⟩ rfl rfl hl.1 (Nat.le_of_ble_eq_true rfl) dL_law_356 (st1 := [.int (r), .int (r)]) rfl (fun H hH => ?_)
  refine lv_icmp_eq (tgt := 1800) hx hb dL_law_359 rfl (fun _ => ?_) (fun h => absurd rfl h)
  exact W.widen (by omega) (by omega) (kk tb ks μ2 g H ls ⟨hG, hH, hK.mv (ke1.tr ke2), hR2⟩ hl)
set_option maxHeartbeats 4000000 in
theorem la_mark (C : LC p l s m c b L xs D cyf) (hn : 6 * n + 6 ≤ L) (hI : LI s D cyf tb ks μ g H) (hl : lv_has ls 8 (lcs s b (nI (6 * n)))) (hc : cells + 33 ≤ room_1.cells ∧ slots + 2800 ≤ room_1.slots)
    (kk : ∀ (tb : Nat → Nat) (ks : List Nat) (μ : Mm) (g : Nat → Int64) (H : Heap) (ls : Array Slot), LI s D cyf tb ks μ g H → lv_has ls 8 (lcs s b (nI (6 * n))) → W p l e room_1 s m #[.ref b] below meth c H [] (cells + 33) (slots + 2800) Q (F0 m 1800 ls [])) : W p l e room_1 s m #[.ref b] below meth c H [] cells slots Q (F0 m 364 ls []) := by
  obtain ⟨hG, hH, hK, hR⟩ := hI
  have X := C.cx hG
  have hx := X.1.1
  have hb := X.1.2.1
  obtain ⟨r, μ1, μ2, e1, e2, hR2⟩ := op_mark (F := 1000) (Nat.le_refl _) hR (xs (6 * n + 1)) (xs (6 * n + 2)) (xs (6 * n + 3)) (xs (6 * n + 4)) (xs (6 * n + 5))
  have e1 : f_X9_mark μ (xs (6 * n + 1)) (xs (6 * n + 2)) (xs (6 * n + 3)) (xs (6 * n + 4)) (xs (6 * n + 5)) = some (r, μ1) := e1
  have e2 : f_X10_mark 1000 μ1 (xs (6 * n + 1)) (xs (6 * n + 2)) (xs (6 * n + 3)) (xs (6 * n + 4)) (xs (6 * n + 5)) = some (r, μ2) := e2
  have ke1 : KP μ μ1 := kp_X9_mark e1
  have ke2 : KP μ1 μ2 := fun d => (fr_X10_mark (by omega) (by omega) (by omega) (by omega) (by omega) (by omega) (by omega) (by omega) (by omega) (by omega) (by omega) (by omega) (by omega) (by omega) (by omega) e2).1
  refine lv_aload_n hx hb dL_law_364 rfl (lv_at hl 3 rfl) ?_
  refine la_arg (n := n) (j := 1) C hH.2.2 (lv_at hl 4 rfl) (lv_at hl 0 rfl) hn rfl (by decide) dL_law_365 dL_law_366 dL_law_368 dL_law_369 dL_law_370 ?_
  refine la_arg (n := n) (j := 2) C hH.2.2 (lv_at hl 4 rfl) (lv_at hl 0 rfl) hn rfl (by decide) dL_law_371 dL_law_372 dL_law_374 dL_law_375 dL_law_376 ?_
  refine la_arg (n := n) (j := 3) C hH.2.2 (lv_at hl 4 rfl) (lv_at hl 0 rfl) hn rfl (by decide) dL_law_377 dL_law_378 dL_law_380 dL_law_381 dL_law_382 ?_
  refine la_arg (n := n) (j := 4) C hH.2.2 (lv_at hl 4 rfl) (lv_at hl 0 rfl) hn rfl (by decide) dL_law_383 dL_law_384 dL_law_386 dL_law_387 dL_law_388 ?_
  refine la_arg (n := n) (j := 5) C hH.2.2 (lv_at hl 4 rfl) (lv_at hl 0 rfl) hn rfl (by decide) dL_law_389 dL_law_390 dL_law_392 dL_law_393 dL_law_394 ?_
  refine la_V (k := 900) (i := 0) (As := [.int (xs (6 * n + 1)), .int (xs (6 * n + 2)), .int (xs (6 * n + 3)), .int (xs (6 * n + 4)), .int (xs (6 * n + 5))]) (rest := []) X hG hH (c_X9_mark l _ (En_l9 D cyf s.heap.size (s.heap.size + 75) tb (exs ks)) e1) ml_L_48 kv_X9_mark (la_x X hH) rfl rfl ⟨Nat.le_of_ble_eq_true rfl, Nat.le_of_ble_eq_true rfl⟩ ⟨by omega, by omega⟩ rfl rfl hl.1 (Nat.le_of_ble_eq_true rfl) dL_law_395 (st1 := [.int (r)]) rfl (fun H hH => ?_)
  refine lv_aload_n hx hb dL_law_398 rfl (lv_at hl 2 rfl) ?_
  refine la_arg (n := n) (j := 1) C hH.2.2 (lv_at hl 4 rfl) (lv_at hl 0 rfl) hn rfl (by decide) dL_law_399 dL_law_400 dL_law_402 dL_law_403 dL_law_404 ?_
  refine la_arg (n := n) (j := 2) C hH.2.2 (lv_at hl 4 rfl) (lv_at hl 0 rfl) hn rfl (by decide) dL_law_405 dL_law_406 dL_law_408 dL_law_409 dL_law_410 ?_
  refine la_arg (n := n) (j := 3) C hH.2.2 (lv_at hl 4 rfl) (lv_at hl 0 rfl) hn rfl (by decide) dL_law_411 dL_law_412 dL_law_414 dL_law_415 dL_law_416 ?_
  refine la_arg (n := n) (j := 4) C hH.2.2 (lv_at hl 4 rfl) (lv_at hl 0 rfl) hn rfl (by decide) dL_law_417 dL_law_418 dL_law_420 dL_law_421 dL_law_422 ?_
  refine la_arg (n := n) (j := 5) C hH.2.2 (lv_at hl 4 rfl) (lv_at hl 0 rfl) hn rfl (by decide) dL_law_423 dL_law_424 dL_law_426 dL_law_427 dL_law_428 ?_
  refine la_V (k := 1000) (i := 0) (As := [.int (xs (6 * n + 1)), .int (xs (6 * n + 2)), .int (xs (6 * n + 3)), .int (xs (6 * n + 4)), .int (xs (6 * n + 5))]) (rest := [.int (r)]) X hG hH (c_X10_mark l _ (En_l10 D cyf s.heap.size (s.heap.size + 75) tb (exs ks)) e2) ml_L_52 kv_X10_mark (la_m X hH) rfl rfl ⟨Nat.le_of_ble_eq_true rfl, Nat.le_of_ble_eq_true rfl⟩ ⟨by omega, by omega⟩ rfl rfl hl.1 (Nat.le_of_ble_eq_true rfl) dL_law_429 (st1 := [.int (r), .int (r)]) rfl (fun H hH => ?_)
  refine lv_icmp_eq (tgt := 1800) hx hb dL_law_432 rfl (fun _ => ?_) (fun h => absurd rfl h)
  exact W.widen (by omega) (by omega) (kk tb ks μ2 g H ls ⟨hG, hH, hK.mv (ke1.tr ke2), hR2⟩ hl)
set_option maxHeartbeats 4000000 in
theorem la_told (C : LC p l s m c b L xs D cyf) (hn : 6 * n + 6 ≤ L) (hI : LI s D cyf tb ks μ g H) (hl : lv_has ls 8 (lcs s b (nI (6 * n)))) (hc : cells + 33 ≤ room_1.cells ∧ slots + 2800 ≤ room_1.slots)
    (kk : ∀ (tb : Nat → Nat) (ks : List Nat) (μ : Mm) (g : Nat → Int64) (H : Heap) (ls : Array Slot), LI s D cyf tb ks μ g H → lv_has ls 8 (lcs s b (nI (6 * n))) → W p l e room_1 s m #[.ref b] below meth c H [] (cells + 33) (slots + 2800) Q (F0 m 1800 ls [])) : W p l e room_1 s m #[.ref b] below meth c H [] cells slots Q (F0 m 437 ls []) := by
  obtain ⟨hG, hH, hK, hR⟩ := hI
  have X := C.cx hG
  have hx := X.1.1
  have hb := X.1.2.1
  obtain ⟨r, e1, e2⟩ := op_told hR (xs (6 * n + 1)) (xs (6 * n + 2)) (xs (6 * n + 3))
  have e1 : f_X9_told μ (xs (6 * n + 1)) (xs (6 * n + 2)) (xs (6 * n + 3)) = some r := e1
  have e2 : f_X10_told μ (xs (6 * n + 1)) (xs (6 * n + 2)) (xs (6 * n + 3)) = some r := e2
  refine lv_aload_n hx hb dL_law_437 rfl (lv_at hl 3 rfl) ?_
  refine la_arg (n := n) (j := 1) C hH.2.2 (lv_at hl 4 rfl) (lv_at hl 0 rfl) hn rfl (by decide) dL_law_438 dL_law_439 dL_law_441 dL_law_442 dL_law_443 ?_
  refine la_arg (n := n) (j := 2) C hH.2.2 (lv_at hl 4 rfl) (lv_at hl 0 rfl) hn rfl (by decide) dL_law_444 dL_law_445 dL_law_447 dL_law_448 dL_law_449 ?_
  refine la_arg (n := n) (j := 3) C hH.2.2 (lv_at hl 4 rfl) (lv_at hl 0 rfl) hn rfl (by decide) dL_law_450 dL_law_451 dL_law_453 dL_law_454 dL_law_455 ?_
  refine la_V (k := 900) (i := 0) (As := [.int (xs (6 * n + 1)), .int (xs (6 * n + 2)), .int (xs (6 * n + 3))]) (rest := []) X hG hH (c_X9_told l _ (En_l9 D cyf s.heap.size (s.heap.size + 75) tb (exs ks)) e1) ml_L_53 kv_X9_told (la_x X hH) rfl rfl ⟨Nat.le_of_ble_eq_true rfl, Nat.le_of_ble_eq_true rfl⟩ ⟨by omega, by omega⟩ rfl rfl hl.1 (Nat.le_of_ble_eq_true rfl) dL_law_456 (st1 := [.int (r)]) rfl (fun H hH => ?_)
  refine lv_aload_n hx hb dL_law_459 rfl (lv_at hl 2 rfl) ?_
  refine la_arg (n := n) (j := 1) C hH.2.2 (lv_at hl 4 rfl) (lv_at hl 0 rfl) hn rfl (by decide) dL_law_460 dL_law_461 dL_law_463 dL_law_464 dL_law_465 ?_
  refine la_arg (n := n) (j := 2) C hH.2.2 (lv_at hl 4 rfl) (lv_at hl 0 rfl) hn rfl (by decide) dL_law_466 dL_law_467 dL_law_469 dL_law_470 dL_law_471 ?_
  refine la_arg (n := n) (j := 3) C hH.2.2 (lv_at hl 4 rfl) (lv_at hl 0 rfl) hn rfl (by decide) dL_law_472 dL_law_473 dL_law_475 dL_law_476 dL_law_477 ?_
  refine la_V (k := 1000) (i := 0) (As := [.int (xs (6 * n + 1)), .int (xs (6 * n + 2)), .int (xs (6 * n + 3))]) (rest := [.int (r)]) X hG hH (c_X10_told l _ (En_l10 D cyf s.heap.size (s.heap.size + 75) tb (exs ks)) e2) ml_L_56 kv_X10_told (la_m X hH) rfl rfl ⟨Nat.le_of_ble_eq_true rfl, Nat.le_of_ble_eq_true rfl⟩ ⟨by omega, by omega⟩ rfl rfl hl.1 (Nat.le_of_ble_eq_true rfl) dL_law_478 (st1 := [.int (r), .int (r)]) rfl (fun H hH => ?_)
  refine lv_icmp_eq (tgt := 1800) hx hb dL_law_481 rfl (fun _ => ?_) (fun h => absurd rfl h)
  exact W.widen (by omega) (by omega) (kk tb ks μ g H ls ⟨hG, hH, hK, hR⟩ hl)
set_option maxHeartbeats 4000000 in
theorem la_state (C : LC p l s m c b L xs D cyf) (hn : 6 * n + 6 ≤ L) (hI : LI s D cyf tb ks μ g H) (hl : lv_has ls 8 (lcs s b (nI (6 * n)))) (hc : cells + 33 ≤ room_1.cells ∧ slots + 2800 ≤ room_1.slots)
    (kk : ∀ (tb : Nat → Nat) (ks : List Nat) (μ : Mm) (g : Nat → Int64) (H : Heap) (ls : Array Slot), LI s D cyf tb ks μ g H → lv_has ls 8 (lcs s b (nI (6 * n))) → W p l e room_1 s m #[.ref b] below meth c H [] (cells + 33) (slots + 2800) Q (F0 m 1800 ls [])) : W p l e room_1 s m #[.ref b] below meth c H [] cells slots Q (F0 m 486 ls []) := by
  obtain ⟨hG, hH, hK, hR⟩ := hI
  have X := C.cx hG
  have hx := X.1.1
  have hb := X.1.2.1
  obtain ⟨r, μ2, e1, e2, hR2⟩ := op_state (F := 1000) (Nat.le_refl _) hR (xs (6 * n + 1))
  have e1 : f_X9_state μ (xs (6 * n + 1)) = some r := e1
  have e2 : f_X10_state 1000 μ (xs (6 * n + 1)) = some (r, μ2) := e2
  have ke2 : KP μ μ2 := fun d => (fr_X10_state (by omega) (by omega) (by omega) (by omega) (by omega) (by omega) (by omega) (by omega) (by omega) e2).1
  refine lv_aload_n hx hb dL_law_486 rfl (lv_at hl 3 rfl) ?_
  refine la_arg (n := n) (j := 1) C hH.2.2 (lv_at hl 4 rfl) (lv_at hl 0 rfl) hn rfl (by decide) dL_law_487 dL_law_488 dL_law_490 dL_law_491 dL_law_492 ?_
  refine la_V (k := 900) (i := 0) (As := [.int (xs (6 * n + 1))]) (rest := []) X hG hH (c_X9_state l _ (En_l9 D cyf s.heap.size (s.heap.size + 75) tb (exs ks)) e1) ml_L_57 kv_X9_state (la_x X hH) rfl rfl ⟨Nat.le_of_ble_eq_true rfl, Nat.le_of_ble_eq_true rfl⟩ ⟨by omega, by omega⟩ rfl rfl hl.1 (Nat.le_of_ble_eq_true rfl) dL_law_493 (st1 := [.int (r)]) rfl (fun H hH => ?_)
  refine lv_aload_n hx hb dL_law_496 rfl (lv_at hl 2 rfl) ?_
  refine la_arg (n := n) (j := 1) C hH.2.2 (lv_at hl 4 rfl) (lv_at hl 0 rfl) hn rfl (by decide) dL_law_497 dL_law_498 dL_law_500 dL_law_501 dL_law_502 ?_
  refine la_V (k := 1000) (i := 0) (As := [.int (xs (6 * n + 1))]) (rest := [.int (r)]) X hG hH (c_X10_state l _ (En_l10 D cyf s.heap.size (s.heap.size + 75) tb (exs ks)) e2) ml_L_61 kv_X10_state (la_m X hH) rfl rfl ⟨Nat.le_of_ble_eq_true rfl, Nat.le_of_ble_eq_true rfl⟩ ⟨by omega, by omega⟩ rfl rfl hl.1 (Nat.le_of_ble_eq_true rfl) dL_law_503 (st1 := [.int (r), .int (r)]) rfl (fun H hH => ?_)
  refine lv_icmp_eq (tgt := 1800) hx hb dL_law_506 rfl (fun _ => ?_) (fun h => absurd rfl h)
  exact W.widen (by omega) (by omega) (kk tb ks μ2 g H ls ⟨hG, hH, hK.mv ke2, hR2⟩ hl)
set_option maxHeartbeats 4000000 in
theorem la_holder (C : LC p l s m c b L xs D cyf) (hn : 6 * n + 6 ≤ L) (hI : LI s D cyf tb ks μ g H) (hl : lv_has ls 8 (lcs s b (nI (6 * n)))) (hc : cells + 33 ≤ room_1.cells ∧ slots + 2800 ≤ room_1.slots)
    (kk : ∀ (tb : Nat → Nat) (ks : List Nat) (μ : Mm) (g : Nat → Int64) (H : Heap) (ls : Array Slot), LI s D cyf tb ks μ g H → lv_has ls 8 (lcs s b (nI (6 * n))) → W p l e room_1 s m #[.ref b] below meth c H [] (cells + 33) (slots + 2800) Q (F0 m 1800 ls [])) : W p l e room_1 s m #[.ref b] below meth c H [] cells slots Q (F0 m 511 ls []) := by
  obtain ⟨hG, hH, hK, hR⟩ := hI
  have X := C.cx hG
  have hx := X.1.1
  have hb := X.1.2.1
  obtain ⟨r, μ2, e1, e2, hR2⟩ := op_holder (F := 1000) (Nat.le_refl _) hR (xs (6 * n + 1)) (xs (6 * n + 2))
  have e1 : f_X9_holder μ (xs (6 * n + 1)) (xs (6 * n + 2)) = some r := e1
  have e2 : f_X10_holder 1000 μ (xs (6 * n + 1)) (xs (6 * n + 2)) = some (r, μ2) := e2
  have ke2 : KP μ μ2 := fun d => (fr_X10_holder (by omega) (by omega) (by omega) (by omega) (by omega) (by omega) (by omega) (by omega) (by omega) e2).1
  refine lv_aload_n hx hb dL_law_511 rfl (lv_at hl 3 rfl) ?_
  refine la_arg (n := n) (j := 1) C hH.2.2 (lv_at hl 4 rfl) (lv_at hl 0 rfl) hn rfl (by decide) dL_law_512 dL_law_513 dL_law_515 dL_law_516 dL_law_517 ?_
  refine la_arg (n := n) (j := 2) C hH.2.2 (lv_at hl 4 rfl) (lv_at hl 0 rfl) hn rfl (by decide) dL_law_518 dL_law_519 dL_law_521 dL_law_522 dL_law_523 ?_
  refine la_V (k := 900) (i := 0) (As := [.int (xs (6 * n + 1)), .int (xs (6 * n + 2))]) (rest := []) X hG hH (c_X9_holder l _ (En_l9 D cyf s.heap.size (s.heap.size + 75) tb (exs ks)) e1) ml_L_62 kv_X9_holder (la_x X hH) rfl rfl ⟨Nat.le_of_ble_eq_true rfl, Nat.le_of_ble_eq_true rfl⟩ ⟨by omega, by omega⟩ rfl rfl hl.1 (Nat.le_of_ble_eq_true rfl) dL_law_524 (st1 := [.int (r)]) rfl (fun H hH => ?_)
  refine lv_aload_n hx hb dL_law_527 rfl (lv_at hl 2 rfl) ?_
  refine la_arg (n := n) (j := 1) C hH.2.2 (lv_at hl 4 rfl) (lv_at hl 0 rfl) hn rfl (by decide) dL_law_528 dL_law_529 dL_law_531 dL_law_532 dL_law_533 ?_
  refine la_arg (n := n) (j := 2) C hH.2.2 (lv_at hl 4 rfl) (lv_at hl 0 rfl) hn rfl (by decide) dL_law_534 dL_law_535 dL_law_537 dL_law_538 dL_law_539 ?_
  refine la_V (k := 1000) (i := 0) (As := [.int (xs (6 * n + 1)), .int (xs (6 * n + 2))]) (rest := [.int (r)]) X hG hH (c_X10_holder l _ (En_l10 D cyf s.heap.size (s.heap.size + 75) tb (exs ks)) e2) ml_L_65 kv_X10_holder (la_m X hH) rfl rfl ⟨Nat.le_of_ble_eq_true rfl, Nat.le_of_ble_eq_true rfl⟩ ⟨by omega, by omega⟩ rfl rfl hl.1 (Nat.le_of_ble_eq_true rfl) dL_law_540 (st1 := [.int (r), .int (r)]) rfl (fun H hH => ?_)
  refine lv_icmp_eq (tgt := 1800) hx hb dL_law_543 rfl (fun _ => ?_) (fun h => absurd rfl h)
  exact W.widen (by omega) (by omega) (kk tb ks μ2 g H ls ⟨hG, hH, hK.mv ke2, hR2⟩ hl)
set_option maxHeartbeats 4000000 in
theorem la_sum (C : LC p l s m c b L xs D cyf) (hn : 6 * n + 6 ≤ L) (hI : LI s D cyf tb ks μ g H) (hl : lv_has ls 8 (lcs s b (nI (6 * n)))) (hc : cells + 33 ≤ room_1.cells ∧ slots + 2800 ≤ room_1.slots)
    (kk : ∀ (tb : Nat → Nat) (ks : List Nat) (μ : Mm) (g : Nat → Int64) (H : Heap) (ls : Array Slot), LI s D cyf tb ks μ g H → lv_has ls 8 (lcs s b (nI (6 * n))) → W p l e room_1 s m #[.ref b] below meth c H [] (cells + 33) (slots + 2800) Q (F0 m 1800 ls [])) : W p l e room_1 s m #[.ref b] below meth c H [] cells slots Q (F0 m 548 ls []) := by
  obtain ⟨hG, hH, hK, hR⟩ := hI
  have X := C.cx hG
  have hx := X.1.1
  have hb := X.1.2.1
  obtain ⟨r, μ1, μ2, e1, e2, hR2⟩ := op_sum (F := 1000) (Nat.le_refl _) hR (xs (6 * n + 1)) (xs (6 * n + 2))
  have e1 : f_X9_sum 1000 μ (xs (6 * n + 1)) (xs (6 * n + 2)) = some (r, μ1) := e1
  have e2 : f_X10_sum 1000 μ1 (xs (6 * n + 1)) (xs (6 * n + 2)) = some (r, μ2) := e2
  have ke1 : KP μ μ1 := fun d => (fr_X9_sum (by omega) (by omega) (by omega) (by omega) (by omega) (by omega) (by omega) e1).1
  have ke2 : KP μ1 μ2 := fun d => (fr_X10_sum (by omega) (by omega) (by omega) (by omega) (by omega) (by omega) (by omega) (by omega) (by omega) e2).1
  refine lv_aload_n hx hb dL_law_548 rfl (lv_at hl 3 rfl) ?_
  refine la_arg (n := n) (j := 1) C hH.2.2 (lv_at hl 4 rfl) (lv_at hl 0 rfl) hn rfl (by decide) dL_law_549 dL_law_550 dL_law_552 dL_law_553 dL_law_554 ?_
  refine la_arg (n := n) (j := 2) C hH.2.2 (lv_at hl 4 rfl) (lv_at hl 0 rfl) hn rfl (by decide) dL_law_555 dL_law_556 dL_law_558 dL_law_559 dL_law_560 ?_
  refine la_V (k := 900) (i := 0) (As := [.int (xs (6 * n + 1)), .int (xs (6 * n + 2))]) (rest := []) X hG hH (c_X9_sum l _ (En_l9 D cyf s.heap.size (s.heap.size + 75) tb (exs ks)) e1) ml_L_66 kv_X9_sum (la_x X hH) rfl rfl ⟨Nat.le_of_ble_eq_true rfl, Nat.le_of_ble_eq_true rfl⟩ ⟨by omega, by omega⟩ rfl rfl hl.1 (Nat.le_of_ble_eq_true rfl) dL_law_561 (st1 := [.int (r)]) rfl (fun H hH => ?_)
  refine lv_aload_n hx hb dL_law_564 rfl (lv_at hl 2 rfl) ?_
  refine la_arg (n := n) (j := 1) C hH.2.2 (lv_at hl 4 rfl) (lv_at hl 0 rfl) hn rfl (by decide) dL_law_565 dL_law_566 dL_law_568 dL_law_569 dL_law_570 ?_
  refine la_arg (n := n) (j := 2) C hH.2.2 (lv_at hl 4 rfl) (lv_at hl 0 rfl) hn rfl (by decide) dL_law_571 dL_law_572 dL_law_574 dL_law_575 dL_law_576 ?_
  refine la_V (k := 1000) (i := 0) (As := [.int (xs (6 * n + 1)), .int (xs (6 * n + 2))]) (rest := [.int (r)]) X hG hH (c_X10_sum l _ (En_l10 D cyf s.heap.size (s.heap.size + 75) tb (exs ks)) e2) ml_L_69 kv_X10_sum (la_m X hH) rfl rfl ⟨Nat.le_of_ble_eq_true rfl, Nat.le_of_ble_eq_true rfl⟩ ⟨by omega, by omega⟩ rfl rfl hl.1 (Nat.le_of_ble_eq_true rfl) dL_law_577 (st1 := [.int (r), .int (r)]) rfl (fun H hH => ?_)
  refine lv_icmp_eq (tgt := 1800) hx hb dL_law_580 rfl (fun _ => ?_) (fun h => absurd rfl h)
  exact W.widen (by omega) (by omega) (kk tb ks μ2 g H ls ⟨hG, hH, hK.mv (ke1.tr ke2), hR2⟩ hl)
set_option maxHeartbeats 4000000 in
theorem la_busy (C : LC p l s m c b L xs D cyf) (hn : 6 * n + 6 ≤ L) (hI : LI s D cyf tb ks μ g H) (hl : lv_has ls 8 (lcs s b (nI (6 * n)))) (hc : cells + 33 ≤ room_1.cells ∧ slots + 2800 ≤ room_1.slots)
    (kk : ∀ (tb : Nat → Nat) (ks : List Nat) (μ : Mm) (g : Nat → Int64) (H : Heap) (ls : Array Slot), LI s D cyf tb ks μ g H → lv_has ls 8 (lcs s b (nI (6 * n))) → W p l e room_1 s m #[.ref b] below meth c H [] (cells + 33) (slots + 2800) Q (F0 m 1800 ls [])) : W p l e room_1 s m #[.ref b] below meth c H [] cells slots Q (F0 m 585 ls []) := by
  obtain ⟨hG, hH, hK, hR⟩ := hI
  have X := C.cx hG
  have hx := X.1.1
  have hb := X.1.2.1
  obtain ⟨r, μ1, μ2, e1, e2, hR2⟩ := op_busy (F := 1000) (Nat.le_refl _) hR (xs (6 * n + 1)) (xs (6 * n + 2))
  have e1 : f_X9_busy 1000 μ (xs (6 * n + 1)) (xs (6 * n + 2)) = some (r, μ1) := e1
  have e2 : f_X10_busy 1000 μ1 (xs (6 * n + 1)) (xs (6 * n + 2)) = some (r, μ2) := e2
  have ke1 : KP μ μ1 := fun d => (fr_X9_busy (by omega) (by omega) (by omega) (by omega) (by omega) (by omega) (by omega) e1).1
  have ke2 : KP μ1 μ2 := fun d => (fr_X10_busy (by omega) (by omega) (by omega) (by omega) (by omega) (by omega) (by omega) (by omega) (by omega) e2).1
  refine lv_aload_n hx hb dL_law_585 rfl (lv_at hl 3 rfl) ?_
  refine la_arg (n := n) (j := 1) C hH.2.2 (lv_at hl 4 rfl) (lv_at hl 0 rfl) hn rfl (by decide) dL_law_586 dL_law_587 dL_law_589 dL_law_590 dL_law_591 ?_
  refine la_arg (n := n) (j := 2) C hH.2.2 (lv_at hl 4 rfl) (lv_at hl 0 rfl) hn rfl (by decide) dL_law_592 dL_law_593 dL_law_595 dL_law_596 dL_law_597 ?_
  refine la_V (k := 900) (i := 0) (As := [.int (xs (6 * n + 1)), .int (xs (6 * n + 2))]) (rest := []) X hG hH (c_X9_busy l _ (En_l9 D cyf s.heap.size (s.heap.size + 75) tb (exs ks)) e1) ml_L_70 kv_X9_busy (la_x X hH) rfl rfl ⟨Nat.le_of_ble_eq_true rfl, Nat.le_of_ble_eq_true rfl⟩ ⟨by omega, by omega⟩ rfl rfl hl.1 (Nat.le_of_ble_eq_true rfl) dL_law_598 (st1 := [.int (r)]) rfl (fun H hH => ?_)
  refine lv_aload_n hx hb dL_law_601 rfl (lv_at hl 2 rfl) ?_
  refine la_arg (n := n) (j := 1) C hH.2.2 (lv_at hl 4 rfl) (lv_at hl 0 rfl) hn rfl (by decide) dL_law_602 dL_law_603 dL_law_605 dL_law_606 dL_law_607 ?_
  refine la_arg (n := n) (j := 2) C hH.2.2 (lv_at hl 4 rfl) (lv_at hl 0 rfl) hn rfl (by decide) dL_law_608 dL_law_609 dL_law_611 dL_law_612 dL_law_613 ?_
  refine la_V (k := 1000) (i := 0) (As := [.int (xs (6 * n + 1)), .int (xs (6 * n + 2))]) (rest := [.int (r)]) X hG hH (c_X10_busy l _ (En_l10 D cyf s.heap.size (s.heap.size + 75) tb (exs ks)) e2) ml_L_73 kv_X10_busy (la_m X hH) rfl rfl ⟨Nat.le_of_ble_eq_true rfl, Nat.le_of_ble_eq_true rfl⟩ ⟨by omega, by omega⟩ rfl rfl hl.1 (Nat.le_of_ble_eq_true rfl) dL_law_614 (st1 := [.int (r), .int (r)]) rfl (fun H hH => ?_)
  refine lv_icmp_eq (tgt := 1800) hx hb dL_law_617 rfl (fun _ => ?_) (fun h => absurd rfl h)
  exact W.widen (by omega) (by omega) (kk tb ks μ2 g H ls ⟨hG, hH, hK.mv (ke1.tr ke2), hR2⟩ hl)
set_option maxHeartbeats 4000000 in
theorem la_wait (C : LC p l s m c b L xs D cyf) (hn : 6 * n + 6 ≤ L) (hI : LI s D cyf tb ks μ g H) (hl : lv_has ls 8 (lcs s b (nI (6 * n)))) (hc : cells + 33 ≤ room_1.cells ∧ slots + 2800 ≤ room_1.slots)
    (kk : ∀ (tb : Nat → Nat) (ks : List Nat) (μ : Mm) (g : Nat → Int64) (H : Heap) (ls : Array Slot), LI s D cyf tb ks μ g H → lv_has ls 8 (lcs s b (nI (6 * n))) → W p l e room_1 s m #[.ref b] below meth c H [] (cells + 33) (slots + 2800) Q (F0 m 1800 ls [])) : W p l e room_1 s m #[.ref b] below meth c H [] cells slots Q (F0 m 622 ls []) := by
  obtain ⟨hG, hH, hK, hR⟩ := hI
  have X := C.cx hG
  have hx := X.1.1
  have hb := X.1.2.1
  obtain ⟨r, μ1, μ2, e1, e2, hR2⟩ := op_wait (F := 1000) (Nat.le_refl _) hR (xs (6 * n + 1)) (xs (6 * n + 2))
  have e1 : f_X9_wait 1000 μ (xs (6 * n + 1)) (xs (6 * n + 2)) = some (r, μ1) := e1
  have e2 : f_X10_wait 1000 μ1 (xs (6 * n + 1)) (xs (6 * n + 2)) = some (r, μ2) := e2
  have ke1 : KP μ μ1 := fun d => (fr_X9_wait (by omega) (by omega) (by omega) (by omega) (by omega) (by omega) (by omega) e1).1
  have ke2 : KP μ1 μ2 := fun d => (fr_X10_wait (by omega) (by omega) (by omega) (by omega) (by omega) (by omega) (by omega) (by omega) (by omega) e2).1
  refine lv_aload_n hx hb dL_law_622 rfl (lv_at hl 3 rfl) ?_
  refine la_arg (n := n) (j := 1) C hH.2.2 (lv_at hl 4 rfl) (lv_at hl 0 rfl) hn rfl (by decide) dL_law_623 dL_law_624 dL_law_626 dL_law_627 dL_law_628 ?_
  refine la_arg (n := n) (j := 2) C hH.2.2 (lv_at hl 4 rfl) (lv_at hl 0 rfl) hn rfl (by decide) dL_law_629 dL_law_630 dL_law_632 dL_law_633 dL_law_634 ?_
  refine la_V (k := 900) (i := 0) (As := [.int (xs (6 * n + 1)), .int (xs (6 * n + 2))]) (rest := []) X hG hH (c_X9_wait l _ (En_l9 D cyf s.heap.size (s.heap.size + 75) tb (exs ks)) e1) ml_L_74 kv_X9_wait (la_x X hH) rfl rfl ⟨Nat.le_of_ble_eq_true rfl, Nat.le_of_ble_eq_true rfl⟩ ⟨by omega, by omega⟩ rfl rfl hl.1 (Nat.le_of_ble_eq_true rfl) dL_law_635 (st1 := [.int (r)]) rfl (fun H hH => ?_)
  refine lv_aload_n hx hb dL_law_638 rfl (lv_at hl 2 rfl) ?_
  refine la_arg (n := n) (j := 1) C hH.2.2 (lv_at hl 4 rfl) (lv_at hl 0 rfl) hn rfl (by decide) dL_law_639 dL_law_640 dL_law_642 dL_law_643 dL_law_644 ?_
  refine la_arg (n := n) (j := 2) C hH.2.2 (lv_at hl 4 rfl) (lv_at hl 0 rfl) hn rfl (by decide) dL_law_645 dL_law_646 dL_law_648 dL_law_649 dL_law_650 ?_
  refine la_V (k := 1000) (i := 0) (As := [.int (xs (6 * n + 1)), .int (xs (6 * n + 2))]) (rest := [.int (r)]) X hG hH (c_X10_wait l _ (En_l10 D cyf s.heap.size (s.heap.size + 75) tb (exs ks)) e2) ml_L_77 kv_X10_wait (la_m X hH) rfl rfl ⟨Nat.le_of_ble_eq_true rfl, Nat.le_of_ble_eq_true rfl⟩ ⟨by omega, by omega⟩ rfl rfl hl.1 (Nat.le_of_ble_eq_true rfl) dL_law_651 (st1 := [.int (r), .int (r)]) rfl (fun H hH => ?_)
  refine lv_icmp_eq (tgt := 1800) hx hb dL_law_654 rfl (fun _ => ?_) (fun h => absurd rfl h)
  exact W.widen (by omega) (by omega) (kk tb ks μ2 g H ls ⟨hG, hH, hK.mv (ke1.tr ke2), hR2⟩ hl)
set_option maxHeartbeats 4000000 in
theorem la_held (C : LC p l s m c b L xs D cyf) (hn : 6 * n + 6 ≤ L) (hI : LI s D cyf tb ks μ g H) (hl : lv_has ls 8 (lcs s b (nI (6 * n)))) (hc : cells + 33 ≤ room_1.cells ∧ slots + 2800 ≤ room_1.slots)
    (kk : ∀ (tb : Nat → Nat) (ks : List Nat) (μ : Mm) (g : Nat → Int64) (H : Heap) (ls : Array Slot), LI s D cyf tb ks μ g H → lv_has ls 8 (lcs s b (nI (6 * n))) → W p l e room_1 s m #[.ref b] below meth c H [] (cells + 33) (slots + 2800) Q (F0 m 1800 ls [])) : W p l e room_1 s m #[.ref b] below meth c H [] cells slots Q (F0 m 659 ls []) := by
  obtain ⟨hG, hH, hK, hR⟩ := hI
  have X := C.cx hG
  have hx := X.1.1
  have hb := X.1.2.1
  obtain ⟨r, μ1, μ2, e1, e2, hR2⟩ := op_held (F := 1000) (Nat.le_refl _) hR (xs (6 * n + 1)) (xs (6 * n + 2))
  have e1 : f_X9_held 1000 μ (xs (6 * n + 1)) (xs (6 * n + 2)) = some (r, μ1) := e1
  have e2 : f_X10_held 1000 μ1 (xs (6 * n + 1)) (xs (6 * n + 2)) = some (r, μ2) := e2
  have ke1 : KP μ μ1 := fun d => (fr_X9_held (by omega) (by omega) (by omega) (by omega) (by omega) (by omega) (by omega) e1).1
  have ke2 : KP μ1 μ2 := fun d => (fr_X10_held (by omega) (by omega) (by omega) (by omega) (by omega) (by omega) (by omega) (by omega) (by omega) e2).1
  refine lv_aload_n hx hb dL_law_659 rfl (lv_at hl 3 rfl) ?_
  refine la_arg (n := n) (j := 1) C hH.2.2 (lv_at hl 4 rfl) (lv_at hl 0 rfl) hn rfl (by decide) dL_law_660 dL_law_661 dL_law_663 dL_law_664 dL_law_665 ?_
  refine la_arg (n := n) (j := 2) C hH.2.2 (lv_at hl 4 rfl) (lv_at hl 0 rfl) hn rfl (by decide) dL_law_666 dL_law_667 dL_law_669 dL_law_670 dL_law_671 ?_
  refine la_V (k := 900) (i := 0) (As := [.int (xs (6 * n + 1)), .int (xs (6 * n + 2))]) (rest := []) X hG hH (c_X9_held l _ (En_l9 D cyf s.heap.size (s.heap.size + 75) tb (exs ks)) e1) ml_L_78 kv_X9_held (la_x X hH) rfl rfl ⟨Nat.le_of_ble_eq_true rfl, Nat.le_of_ble_eq_true rfl⟩ ⟨by omega, by omega⟩ rfl rfl hl.1 (Nat.le_of_ble_eq_true rfl) dL_law_672 (st1 := [.int (r)]) rfl (fun H hH => ?_)
  refine lv_aload_n hx hb dL_law_675 rfl (lv_at hl 2 rfl) ?_
  refine la_arg (n := n) (j := 1) C hH.2.2 (lv_at hl 4 rfl) (lv_at hl 0 rfl) hn rfl (by decide) dL_law_676 dL_law_677 dL_law_679 dL_law_680 dL_law_681 ?_
  refine la_arg (n := n) (j := 2) C hH.2.2 (lv_at hl 4 rfl) (lv_at hl 0 rfl) hn rfl (by decide) dL_law_682 dL_law_683 dL_law_685 dL_law_686 dL_law_687 ?_
  refine la_V (k := 1000) (i := 0) (As := [.int (xs (6 * n + 1)), .int (xs (6 * n + 2))]) (rest := [.int (r)]) X hG hH (c_X10_held l _ (En_l10 D cyf s.heap.size (s.heap.size + 75) tb (exs ks)) e2) ml_L_81 kv_X10_held (la_m X hH) rfl rfl ⟨Nat.le_of_ble_eq_true rfl, Nat.le_of_ble_eq_true rfl⟩ ⟨by omega, by omega⟩ rfl rfl hl.1 (Nat.le_of_ble_eq_true rfl) dL_law_688 (st1 := [.int (r), .int (r)]) rfl (fun H hH => ?_)
  refine lv_icmp_eq (tgt := 1800) hx hb dL_law_691 rfl (fun _ => ?_) (fun h => absurd rfl h)
  exact W.widen (by omega) (by omega) (kk tb ks μ2 g H ls ⟨hG, hH, hK.mv (ke1.tr ke2), hR2⟩ hl)
set_option maxHeartbeats 4000000 in
theorem la_chain (C : LC p l s m c b L xs D cyf) (hn : 6 * n + 6 ≤ L) (hI : LI s D cyf tb ks μ g H) (hl : lv_has ls 8 (lcs s b (nI (6 * n)))) (hc : cells + 33 ≤ room_1.cells ∧ slots + 2800 ≤ room_1.slots)
    (kk : ∀ (tb : Nat → Nat) (ks : List Nat) (μ : Mm) (g : Nat → Int64) (H : Heap) (ls : Array Slot), LI s D cyf tb ks μ g H → lv_has ls 8 (lcs s b (nI (6 * n))) → W p l e room_1 s m #[.ref b] below meth c H [] (cells + 33) (slots + 2800) Q (F0 m 1800 ls [])) : W p l e room_1 s m #[.ref b] below meth c H [] cells slots Q (F0 m 696 ls []) := by
  obtain ⟨hG, hH, hK, hR⟩ := hI
  have X := C.cx hG
  have hx := X.1.1
  have hb := X.1.2.1
  obtain ⟨r, μ1, μ2, e1, e2, hR2⟩ := op_chain (F := 1000) (Nat.le_refl _) hR (xs (6 * n + 1))
  have e1 : f_X9_chain 1000 μ (xs (6 * n + 1)) = some (r, μ1) := e1
  have e2 : f_X10_chain 1000 μ1 (xs (6 * n + 1)) = some (r, μ2) := e2
  have ke1 : KP μ μ1 := fun d => (fr_X9_chain (by omega) (by omega) (by omega) (by omega) (by omega) (by omega) (by omega) e1).1
  have ke2 : KP μ1 μ2 := fun d => (fr_X10_chain (by omega) (by omega) (by omega) (by omega) (by omega) (by omega) (by omega) (by omega) (by omega) e2).1
  refine lv_aload_n hx hb dL_law_696 rfl (lv_at hl 3 rfl) ?_
  refine la_arg (n := n) (j := 1) C hH.2.2 (lv_at hl 4 rfl) (lv_at hl 0 rfl) hn rfl (by decide) dL_law_697 dL_law_698 dL_law_700 dL_law_701 dL_law_702 ?_
  refine la_V (k := 900) (i := 0) (As := [.int (xs (6 * n + 1))]) (rest := []) X hG hH (c_X9_chain l _ (En_l9 D cyf s.heap.size (s.heap.size + 75) tb (exs ks)) e1) ml_L_82 kv_X9_chain (la_x X hH) rfl rfl ⟨Nat.le_of_ble_eq_true rfl, Nat.le_of_ble_eq_true rfl⟩ ⟨by omega, by omega⟩ rfl rfl hl.1 (Nat.le_of_ble_eq_true rfl) dL_law_703 (st1 := [.int (r)]) rfl (fun H hH => ?_)
  refine lv_aload_n hx hb dL_law_706 rfl (lv_at hl 2 rfl) ?_
  refine la_arg (n := n) (j := 1) C hH.2.2 (lv_at hl 4 rfl) (lv_at hl 0 rfl) hn rfl (by decide) dL_law_707 dL_law_708 dL_law_710 dL_law_711 dL_law_712 ?_
  refine la_V (k := 1000) (i := 0) (As := [.int (xs (6 * n + 1))]) (rest := [.int (r)]) X hG hH (c_X10_chain l _ (En_l10 D cyf s.heap.size (s.heap.size + 75) tb (exs ks)) e2) ml_L_85 kv_X10_chain (la_m X hH) rfl rfl ⟨Nat.le_of_ble_eq_true rfl, Nat.le_of_ble_eq_true rfl⟩ ⟨by omega, by omega⟩ rfl rfl hl.1 (Nat.le_of_ble_eq_true rfl) dL_law_713 (st1 := [.int (r), .int (r)]) rfl (fun H hH => ?_)
  refine lv_icmp_eq (tgt := 1800) hx hb dL_law_716 rfl (fun _ => ?_) (fun h => absurd rfl h)
  exact W.widen (by omega) (by omega) (kk tb ks μ2 g H ls ⟨hG, hH, hK.mv (ke1.tr ke2), hR2⟩ hl)
end CS
