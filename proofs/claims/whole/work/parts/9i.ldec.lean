theorem zd_L_0 : decode code 0 = .ok (.new 8, 3) := by decide +kernel
theorem zd_L_3 : decode code 3 = .ok (.dup, 1) := by decide +kernel
theorem zd_L_4 : decode code 4 = .ok (.invokespecial 25, 3) := by decide +kernel
theorem zd_L_7 : decode code 7 = .ok (.astore_n 1, 1) := by decide +kernel
theorem zd_L_8 : decode code 8 = .ok (.new 26, 3) := by decide +kernel
theorem zd_L_11 : decode code 11 = .ok (.dup, 1) := by decide +kernel
theorem zd_L_12 : decode code 12 = .ok (.invokespecial 28, 3) := by decide +kernel
theorem zd_L_15 : decode code 15 = .ok (.astore_n 2, 1) := by decide +kernel
theorem zd_L_16 : decode code 16 = .ok (.iconst 1, 1) := by decide +kernel
theorem zd_L_17 : decode code 17 = .ok (.newarray .long, 2) := by decide +kernel
theorem zd_L_19 : decode code 19 = .ok (.astore_n 3, 1) := by decide +kernel
theorem zd_L_20 : decode code 20 = .ok (.iconst 0, 1) := by decide +kernel
theorem zd_L_21 : decode code 21 = .ok (.istore 4, 2) := by decide +kernel
theorem zd_L_23 : decode code 23 = .ok (.iload 4, 2) := by decide +kernel
theorem zd_L_25 : decode code 25 = .ok (.aload_n 0, 1) := by decide +kernel
theorem zd_L_26 : decode code 26 = .ok (.arraylength, 1) := by decide +kernel
theorem zd_L_27 : decode code 27 = .ok (.iconst 5, 1) := by decide +kernel
theorem zd_L_28 : decode code 28 = .ok (.isub, 1) := by decide +kernel
theorem zd_L_29 : decode code 29 = .ok (.if_icmp .gt 1308, 3) := by decide +kernel
theorem zd_L_32 : decode code 32 = .ok (.aload_n 0, 1) := by decide +kernel
theorem zd_L_33 : decode code 33 = .ok (.iload 4, 2) := by decide +kernel
theorem zd_L_35 : decode code 35 = .ok (.iaload, 1) := by decide +kernel
theorem zd_L_36 : decode code 36 = .ok (.bipush 63, 2) := by decide +kernel
theorem zd_L_38 : decode code 38 = .ok (.iand, 1) := by decide +kernel
theorem zd_L_39 : decode code 39 = .ok (.tableswitch 1292 0 38 #[169, 194, 219, 232, 245, 258, 271, 339, 407, 475, 536, 573, 622, 647, 684, 709, 722, 735, 760, 773, 798, 811, 836, 861, 886, 899, 924, 961, 986, 999, 1036, 1049, 1074, 1087, 1124, 1161, 1186, 1211, 1236], 169) := by decide +kernel
theorem zd_L_208 : decode code 208 = .ok (.aload_n 1, 1) := by decide +kernel
theorem zd_L_209 : decode code 209 = .ok (.aload_n 0, 1) := by decide +kernel
theorem zd_L_210 : decode code 210 = .ok (.iload 4, 2) := by decide +kernel
theorem zd_L_212 : decode code 212 = .ok (.iconst 1, 1) := by decide +kernel
theorem zd_L_213 : decode code 213 = .ok (.iadd, 1) := by decide +kernel
theorem zd_L_214 : decode code 214 = .ok (.iaload, 1) := by decide +kernel
theorem zd_L_215 : decode code 215 = .ok (.invokevirtual 29, 3) := by decide +kernel
theorem zd_L_218 : decode code 218 = .ok (.aload_n 2, 1) := by decide +kernel
theorem zd_L_219 : decode code 219 = .ok (.aload_n 0, 1) := by decide +kernel
theorem zd_L_220 : decode code 220 = .ok (.iload 4, 2) := by decide +kernel
theorem zd_L_222 : decode code 222 = .ok (.iconst 1, 1) := by decide +kernel
theorem zd_L_223 : decode code 223 = .ok (.iadd, 1) := by decide +kernel
theorem zd_L_224 : decode code 224 = .ok (.iaload, 1) := by decide +kernel
theorem zd_L_225 : decode code 225 = .ok (.invokevirtual 32, 3) := by decide +kernel
theorem zd_L_228 : decode code 228 = .ok (.if_icmp .eq 1103, 3) := by decide +kernel
theorem zd_L_231 : decode code 231 = .ok (.iconst 0, 1) := by decide +kernel
theorem zd_L_232 : decode code 232 = .ok (.ireturn, 1) := by decide +kernel
theorem zd_L_233 : decode code 233 = .ok (.aload_n 1, 1) := by decide +kernel
theorem zd_L_234 : decode code 234 = .ok (.aload_n 0, 1) := by decide +kernel
theorem zd_L_235 : decode code 235 = .ok (.iload 4, 2) := by decide +kernel
theorem zd_L_237 : decode code 237 = .ok (.iconst 1, 1) := by decide +kernel
theorem zd_L_238 : decode code 238 = .ok (.iadd, 1) := by decide +kernel
theorem zd_L_239 : decode code 239 = .ok (.iaload, 1) := by decide +kernel
theorem zd_L_240 : decode code 240 = .ok (.invokevirtual 33, 3) := by decide +kernel
theorem zd_L_243 : decode code 243 = .ok (.aload_n 2, 1) := by decide +kernel
theorem zd_L_244 : decode code 244 = .ok (.aload_n 0, 1) := by decide +kernel
theorem zd_L_245 : decode code 245 = .ok (.iload 4, 2) := by decide +kernel
theorem zd_L_247 : decode code 247 = .ok (.iconst 1, 1) := by decide +kernel
theorem zd_L_248 : decode code 248 = .ok (.iadd, 1) := by decide +kernel
theorem zd_L_249 : decode code 249 = .ok (.iaload, 1) := by decide +kernel
theorem zd_L_250 : decode code 250 = .ok (.invokevirtual 37, 3) := by decide +kernel
theorem zd_L_253 : decode code 253 = .ok (.if_icmp .eq 1078, 3) := by decide +kernel
theorem zd_L_256 : decode code 256 = .ok (.iconst 0, 1) := by decide +kernel
theorem zd_L_257 : decode code 257 = .ok (.ireturn, 1) := by decide +kernel
theorem zd_L_258 : decode code 258 = .ok (.aload_n 1, 1) := by decide +kernel
theorem zd_L_259 : decode code 259 = .ok (.invokevirtual 38, 3) := by decide +kernel
theorem zd_L_262 : decode code 262 = .ok (.aload_n 2, 1) := by decide +kernel
theorem zd_L_263 : decode code 263 = .ok (.invokevirtual 42, 3) := by decide +kernel
theorem zd_L_266 : decode code 266 = .ok (.if_icmp .eq 1065, 3) := by decide +kernel
theorem zd_L_269 : decode code 269 = .ok (.iconst 0, 1) := by decide +kernel
theorem zd_L_270 : decode code 270 = .ok (.ireturn, 1) := by decide +kernel
theorem zd_L_271 : decode code 271 = .ok (.aload_n 1, 1) := by decide +kernel
theorem zd_L_272 : decode code 272 = .ok (.invokevirtual 43, 3) := by decide +kernel
theorem zd_L_275 : decode code 275 = .ok (.aload_n 2, 1) := by decide +kernel
theorem zd_L_276 : decode code 276 = .ok (.invokevirtual 46, 3) := by decide +kernel
theorem zd_L_279 : decode code 279 = .ok (.if_icmp .eq 1052, 3) := by decide +kernel
theorem zd_L_282 : decode code 282 = .ok (.iconst 0, 1) := by decide +kernel
theorem zd_L_283 : decode code 283 = .ok (.ireturn, 1) := by decide +kernel
theorem zd_L_284 : decode code 284 = .ok (.aload_n 1, 1) := by decide +kernel
theorem zd_L_285 : decode code 285 = .ok (.invokevirtual 47, 3) := by decide +kernel
theorem zd_L_288 : decode code 288 = .ok (.aload_n 2, 1) := by decide +kernel
theorem zd_L_289 : decode code 289 = .ok (.invokevirtual 50, 3) := by decide +kernel
theorem zd_L_292 : decode code 292 = .ok (.if_icmp .eq 1039, 3) := by decide +kernel
theorem zd_L_295 : decode code 295 = .ok (.iconst 0, 1) := by decide +kernel
theorem zd_L_296 : decode code 296 = .ok (.ireturn, 1) := by decide +kernel
theorem zd_L_297 : decode code 297 = .ok (.aload_n 1, 1) := by decide +kernel
theorem zd_L_298 : decode code 298 = .ok (.invokevirtual 51, 3) := by decide +kernel
theorem zd_L_301 : decode code 301 = .ok (.aload_n 2, 1) := by decide +kernel
theorem zd_L_302 : decode code 302 = .ok (.invokevirtual 54, 3) := by decide +kernel
theorem zd_L_305 : decode code 305 = .ok (.if_icmp .eq 1026, 3) := by decide +kernel
theorem zd_L_308 : decode code 308 = .ok (.iconst 0, 1) := by decide +kernel
theorem zd_L_309 : decode code 309 = .ok (.ireturn, 1) := by decide +kernel
theorem zd_L_310 : decode code 310 = .ok (.aload_n 1, 1) := by decide +kernel
theorem zd_L_311 : decode code 311 = .ok (.aload_n 0, 1) := by decide +kernel
theorem zd_L_312 : decode code 312 = .ok (.iload 4, 2) := by decide +kernel
theorem zd_L_314 : decode code 314 = .ok (.iconst 1, 1) := by decide +kernel
theorem zd_L_315 : decode code 315 = .ok (.iadd, 1) := by decide +kernel
theorem zd_L_316 : decode code 316 = .ok (.iaload, 1) := by decide +kernel
theorem zd_L_317 : decode code 317 = .ok (.aload_n 0, 1) := by decide +kernel
theorem zd_L_318 : decode code 318 = .ok (.iload 4, 2) := by decide +kernel
theorem zd_L_320 : decode code 320 = .ok (.iconst 2, 1) := by decide +kernel
theorem zd_L_321 : decode code 321 = .ok (.iadd, 1) := by decide +kernel
theorem zd_L_322 : decode code 322 = .ok (.iaload, 1) := by decide +kernel
theorem zd_L_323 : decode code 323 = .ok (.aload_n 3, 1) := by decide +kernel
theorem zd_L_324 : decode code 324 = .ok (.invokestatic 55, 3) := by decide +kernel
theorem zd_L_327 : decode code 327 = .ok (.istore 5, 2) := by decide +kernel
theorem zd_L_329 : decode code 329 = .ok (.aload_n 2, 1) := by decide +kernel
theorem zd_L_330 : decode code 330 = .ok (.aload_n 0, 1) := by decide +kernel
theorem zd_L_331 : decode code 331 = .ok (.iload 4, 2) := by decide +kernel
theorem zd_L_333 : decode code 333 = .ok (.iconst 1, 1) := by decide +kernel
theorem zd_L_334 : decode code 334 = .ok (.iadd, 1) := by decide +kernel
theorem zd_L_335 : decode code 335 = .ok (.iaload, 1) := by decide +kernel
theorem zd_L_336 : decode code 336 = .ok (.aload_n 0, 1) := by decide +kernel
theorem zd_L_337 : decode code 337 = .ok (.iload 4, 2) := by decide +kernel
theorem zd_L_339 : decode code 339 = .ok (.iconst 2, 1) := by decide +kernel
theorem zd_L_340 : decode code 340 = .ok (.iadd, 1) := by decide +kernel
theorem zd_L_341 : decode code 341 = .ok (.iaload, 1) := by decide +kernel
theorem zd_L_342 : decode code 342 = .ok (.invokevirtual 60, 3) := by decide +kernel
theorem zd_L_345 : decode code 345 = .ok (.istore 6, 2) := by decide +kernel
theorem zd_L_347 : decode code 347 = .ok (.aload_n 2, 1) := by decide +kernel
theorem zd_L_348 : decode code 348 = .ok (.invokevirtual 61, 3) := by decide +kernel
theorem zd_L_351 : decode code 351 = .ok (.iload 5, 2) := by decide +kernel
theorem zd_L_353 : decode code 353 = .ok (.if_icmp .eq 5, 3) := by decide +kernel
theorem zd_L_356 : decode code 356 = .ok (.iconst 0, 1) := by decide +kernel
theorem zd_L_357 : decode code 357 = .ok (.ireturn, 1) := by decide +kernel
theorem zd_L_358 : decode code 358 = .ok (.iload 5, 2) := by decide +kernel
theorem zd_L_360 : decode code 360 = .ok (.ifCond .ne 15, 3) := by decide +kernel
theorem zd_L_363 : decode code 363 = .ok (.aload_n 3, 1) := by decide +kernel
theorem zd_L_364 : decode code 364 = .ok (.iconst 0, 1) := by decide +kernel
theorem zd_L_365 : decode code 365 = .ok (.laload, 1) := by decide +kernel
theorem zd_L_366 : decode code 366 = .ok (.iload 6, 2) := by decide +kernel
theorem zd_L_368 : decode code 368 = .ok (.i2l, 1) := by decide +kernel
theorem zd_L_369 : decode code 369 = .ok (.lcmp, 1) := by decide +kernel
theorem zd_L_370 : decode code 370 = .ok (.ifCond .eq 5, 3) := by decide +kernel
theorem zd_L_373 : decode code 373 = .ok (.iconst 0, 1) := by decide +kernel
theorem zd_L_374 : decode code 374 = .ok (.ireturn, 1) := by decide +kernel
theorem zd_L_375 : decode code 375 = .ok (.goto 956, 3) := by decide +kernel
theorem zd_L_378 : decode code 378 = .ok (.aload_n 1, 1) := by decide +kernel
theorem zd_L_379 : decode code 379 = .ok (.aload_n 0, 1) := by decide +kernel
theorem zd_L_380 : decode code 380 = .ok (.iload 4, 2) := by decide +kernel
theorem zd_L_382 : decode code 382 = .ok (.iconst 1, 1) := by decide +kernel
theorem zd_L_383 : decode code 383 = .ok (.iadd, 1) := by decide +kernel
theorem zd_L_384 : decode code 384 = .ok (.iaload, 1) := by decide +kernel
theorem zd_L_385 : decode code 385 = .ok (.aload_n 0, 1) := by decide +kernel
theorem zd_L_386 : decode code 386 = .ok (.iload 4, 2) := by decide +kernel
theorem zd_L_388 : decode code 388 = .ok (.iconst 2, 1) := by decide +kernel
theorem zd_L_389 : decode code 389 = .ok (.iadd, 1) := by decide +kernel
theorem zd_L_390 : decode code 390 = .ok (.iaload, 1) := by decide +kernel
theorem zd_L_391 : decode code 391 = .ok (.aload_n 3, 1) := by decide +kernel
theorem zd_L_392 : decode code 392 = .ok (.invokestatic 64, 3) := by decide +kernel
theorem zd_L_395 : decode code 395 = .ok (.istore 5, 2) := by decide +kernel
theorem zd_L_397 : decode code 397 = .ok (.aload_n 2, 1) := by decide +kernel
theorem zd_L_398 : decode code 398 = .ok (.aload_n 0, 1) := by decide +kernel
theorem zd_L_399 : decode code 399 = .ok (.iload 4, 2) := by decide +kernel
theorem zd_L_401 : decode code 401 = .ok (.iconst 1, 1) := by decide +kernel
theorem zd_L_402 : decode code 402 = .ok (.iadd, 1) := by decide +kernel
theorem zd_L_403 : decode code 403 = .ok (.iaload, 1) := by decide +kernel
theorem zd_L_404 : decode code 404 = .ok (.aload_n 0, 1) := by decide +kernel
theorem zd_L_405 : decode code 405 = .ok (.iload 4, 2) := by decide +kernel
theorem zd_L_407 : decode code 407 = .ok (.iconst 2, 1) := by decide +kernel
theorem zd_L_408 : decode code 408 = .ok (.iadd, 1) := by decide +kernel
theorem zd_L_409 : decode code 409 = .ok (.iaload, 1) := by decide +kernel
theorem zd_L_410 : decode code 410 = .ok (.invokevirtual 66, 3) := by decide +kernel
theorem zd_L_413 : decode code 413 = .ok (.istore 6, 2) := by decide +kernel
theorem zd_L_415 : decode code 415 = .ok (.aload_n 2, 1) := by decide +kernel
theorem zd_L_416 : decode code 416 = .ok (.invokevirtual 61, 3) := by decide +kernel
theorem zd_L_419 : decode code 419 = .ok (.iload 5, 2) := by decide +kernel
theorem zd_L_421 : decode code 421 = .ok (.if_icmp .eq 5, 3) := by decide +kernel
theorem zd_L_424 : decode code 424 = .ok (.iconst 0, 1) := by decide +kernel
theorem zd_L_425 : decode code 425 = .ok (.ireturn, 1) := by decide +kernel
theorem zd_L_426 : decode code 426 = .ok (.iload 5, 2) := by decide +kernel
theorem zd_L_428 : decode code 428 = .ok (.ifCond .ne 15, 3) := by decide +kernel
theorem zd_L_431 : decode code 431 = .ok (.aload_n 3, 1) := by decide +kernel
theorem zd_L_432 : decode code 432 = .ok (.iconst 0, 1) := by decide +kernel
theorem zd_L_433 : decode code 433 = .ok (.laload, 1) := by decide +kernel
theorem zd_L_434 : decode code 434 = .ok (.iload 6, 2) := by decide +kernel
theorem zd_L_436 : decode code 436 = .ok (.i2l, 1) := by decide +kernel
theorem zd_L_437 : decode code 437 = .ok (.lcmp, 1) := by decide +kernel
theorem zd_L_438 : decode code 438 = .ok (.ifCond .eq 5, 3) := by decide +kernel
theorem zd_L_441 : decode code 441 = .ok (.iconst 0, 1) := by decide +kernel
theorem zd_L_442 : decode code 442 = .ok (.ireturn, 1) := by decide +kernel
theorem zd_L_443 : decode code 443 = .ok (.goto 888, 3) := by decide +kernel
theorem zd_L_446 : decode code 446 = .ok (.aload_n 1, 1) := by decide +kernel
theorem zd_L_447 : decode code 447 = .ok (.aload_n 0, 1) := by decide +kernel
theorem zd_L_448 : decode code 448 = .ok (.iload 4, 2) := by decide +kernel
theorem zd_L_450 : decode code 450 = .ok (.iconst 1, 1) := by decide +kernel
theorem zd_L_451 : decode code 451 = .ok (.iadd, 1) := by decide +kernel
theorem zd_L_452 : decode code 452 = .ok (.iaload, 1) := by decide +kernel
theorem zd_L_453 : decode code 453 = .ok (.aload_n 0, 1) := by decide +kernel
theorem zd_L_454 : decode code 454 = .ok (.iload 4, 2) := by decide +kernel
theorem zd_L_456 : decode code 456 = .ok (.iconst 2, 1) := by decide +kernel
theorem zd_L_457 : decode code 457 = .ok (.iadd, 1) := by decide +kernel
theorem zd_L_458 : decode code 458 = .ok (.iaload, 1) := by decide +kernel
theorem zd_L_459 : decode code 459 = .ok (.aload_n 3, 1) := by decide +kernel
theorem zd_L_460 : decode code 460 = .ok (.invokestatic 67, 3) := by decide +kernel
theorem zd_L_463 : decode code 463 = .ok (.istore 5, 2) := by decide +kernel
theorem zd_L_465 : decode code 465 = .ok (.aload_n 2, 1) := by decide +kernel
theorem zd_L_466 : decode code 466 = .ok (.aload_n 0, 1) := by decide +kernel
theorem zd_L_467 : decode code 467 = .ok (.iload 4, 2) := by decide +kernel
theorem zd_L_469 : decode code 469 = .ok (.iconst 1, 1) := by decide +kernel
theorem zd_L_470 : decode code 470 = .ok (.iadd, 1) := by decide +kernel
theorem zd_L_471 : decode code 471 = .ok (.iaload, 1) := by decide +kernel
theorem zd_L_472 : decode code 472 = .ok (.aload_n 0, 1) := by decide +kernel
theorem zd_L_473 : decode code 473 = .ok (.iload 4, 2) := by decide +kernel
theorem zd_L_475 : decode code 475 = .ok (.iconst 2, 1) := by decide +kernel
theorem zd_L_476 : decode code 476 = .ok (.iadd, 1) := by decide +kernel
theorem zd_L_477 : decode code 477 = .ok (.iaload, 1) := by decide +kernel
theorem zd_L_478 : decode code 478 = .ok (.invokevirtual 69, 3) := by decide +kernel
theorem zd_L_481 : decode code 481 = .ok (.istore 6, 2) := by decide +kernel
theorem zd_L_483 : decode code 483 = .ok (.aload_n 2, 1) := by decide +kernel
theorem zd_L_484 : decode code 484 = .ok (.invokevirtual 61, 3) := by decide +kernel
theorem zd_L_487 : decode code 487 = .ok (.iload 5, 2) := by decide +kernel
theorem zd_L_489 : decode code 489 = .ok (.if_icmp .eq 5, 3) := by decide +kernel
theorem zd_L_492 : decode code 492 = .ok (.iconst 0, 1) := by decide +kernel
theorem zd_L_493 : decode code 493 = .ok (.ireturn, 1) := by decide +kernel
theorem zd_L_494 : decode code 494 = .ok (.iload 5, 2) := by decide +kernel
theorem zd_L_496 : decode code 496 = .ok (.ifCond .ne 15, 3) := by decide +kernel
theorem zd_L_499 : decode code 499 = .ok (.aload_n 3, 1) := by decide +kernel
theorem zd_L_500 : decode code 500 = .ok (.iconst 0, 1) := by decide +kernel
theorem zd_L_501 : decode code 501 = .ok (.laload, 1) := by decide +kernel
theorem zd_L_502 : decode code 502 = .ok (.iload 6, 2) := by decide +kernel
theorem zd_L_504 : decode code 504 = .ok (.i2l, 1) := by decide +kernel
theorem zd_L_505 : decode code 505 = .ok (.lcmp, 1) := by decide +kernel
theorem zd_L_506 : decode code 506 = .ok (.ifCond .eq 5, 3) := by decide +kernel
theorem zd_L_509 : decode code 509 = .ok (.iconst 0, 1) := by decide +kernel
theorem zd_L_510 : decode code 510 = .ok (.ireturn, 1) := by decide +kernel
theorem zd_L_511 : decode code 511 = .ok (.goto 820, 3) := by decide +kernel
theorem zd_L_514 : decode code 514 = .ok (.aload_n 1, 1) := by decide +kernel
theorem zd_L_515 : decode code 515 = .ok (.aload_n 0, 1) := by decide +kernel
theorem zd_L_516 : decode code 516 = .ok (.iload 4, 2) := by decide +kernel
theorem zd_L_518 : decode code 518 = .ok (.iconst 1, 1) := by decide +kernel
theorem zd_L_519 : decode code 519 = .ok (.iadd, 1) := by decide +kernel
theorem zd_L_520 : decode code 520 = .ok (.iaload, 1) := by decide +kernel
theorem zd_L_521 : decode code 521 = .ok (.aload_n 0, 1) := by decide +kernel
theorem zd_L_522 : decode code 522 = .ok (.iload 4, 2) := by decide +kernel
theorem zd_L_524 : decode code 524 = .ok (.iconst 2, 1) := by decide +kernel
theorem zd_L_525 : decode code 525 = .ok (.iadd, 1) := by decide +kernel
theorem zd_L_526 : decode code 526 = .ok (.iaload, 1) := by decide +kernel
theorem zd_L_527 : decode code 527 = .ok (.aload_n 0, 1) := by decide +kernel
theorem zd_L_528 : decode code 528 = .ok (.iload 4, 2) := by decide +kernel
theorem zd_L_530 : decode code 530 = .ok (.iconst 3, 1) := by decide +kernel
theorem zd_L_531 : decode code 531 = .ok (.iadd, 1) := by decide +kernel
theorem zd_L_532 : decode code 532 = .ok (.iaload, 1) := by decide +kernel
theorem zd_L_533 : decode code 533 = .ok (.aload_n 0, 1) := by decide +kernel
theorem zd_L_534 : decode code 534 = .ok (.iload 4, 2) := by decide +kernel
theorem zd_L_536 : decode code 536 = .ok (.iconst 4, 1) := by decide +kernel
theorem zd_L_537 : decode code 537 = .ok (.iadd, 1) := by decide +kernel
theorem zd_L_538 : decode code 538 = .ok (.iaload, 1) := by decide +kernel
theorem zd_L_539 : decode code 539 = .ok (.invokevirtual 70, 3) := by decide +kernel
theorem zd_L_542 : decode code 542 = .ok (.aload_n 2, 1) := by decide +kernel
theorem zd_L_543 : decode code 543 = .ok (.aload_n 0, 1) := by decide +kernel
theorem zd_L_544 : decode code 544 = .ok (.iload 4, 2) := by decide +kernel
theorem zd_L_546 : decode code 546 = .ok (.iconst 1, 1) := by decide +kernel
theorem zd_L_547 : decode code 547 = .ok (.iadd, 1) := by decide +kernel
theorem zd_L_548 : decode code 548 = .ok (.iaload, 1) := by decide +kernel
theorem zd_L_549 : decode code 549 = .ok (.aload_n 0, 1) := by decide +kernel
theorem zd_L_550 : decode code 550 = .ok (.iload 4, 2) := by decide +kernel
theorem zd_L_552 : decode code 552 = .ok (.iconst 2, 1) := by decide +kernel
theorem zd_L_553 : decode code 553 = .ok (.iadd, 1) := by decide +kernel
theorem zd_L_554 : decode code 554 = .ok (.iaload, 1) := by decide +kernel
theorem zd_L_555 : decode code 555 = .ok (.aload_n 0, 1) := by decide +kernel
theorem zd_L_556 : decode code 556 = .ok (.iload 4, 2) := by decide +kernel
theorem zd_L_558 : decode code 558 = .ok (.iconst 3, 1) := by decide +kernel
theorem zd_L_559 : decode code 559 = .ok (.iadd, 1) := by decide +kernel
theorem zd_L_560 : decode code 560 = .ok (.iaload, 1) := by decide +kernel
theorem zd_L_561 : decode code 561 = .ok (.aload_n 0, 1) := by decide +kernel
theorem zd_L_562 : decode code 562 = .ok (.iload 4, 2) := by decide +kernel
theorem zd_L_564 : decode code 564 = .ok (.iconst 4, 1) := by decide +kernel
theorem zd_L_565 : decode code 565 = .ok (.iadd, 1) := by decide +kernel
theorem zd_L_566 : decode code 566 = .ok (.iaload, 1) := by decide +kernel
theorem zd_L_567 : decode code 567 = .ok (.invokevirtual 74, 3) := by decide +kernel
theorem zd_L_570 : decode code 570 = .ok (.if_icmp .eq 761, 3) := by decide +kernel
theorem zd_L_573 : decode code 573 = .ok (.iconst 0, 1) := by decide +kernel
theorem zd_L_574 : decode code 574 = .ok (.ireturn, 1) := by decide +kernel
theorem zd_L_575 : decode code 575 = .ok (.aload_n 1, 1) := by decide +kernel
theorem zd_L_576 : decode code 576 = .ok (.aload_n 0, 1) := by decide +kernel
theorem zd_L_577 : decode code 577 = .ok (.iload 4, 2) := by decide +kernel
theorem zd_L_579 : decode code 579 = .ok (.iconst 1, 1) := by decide +kernel
theorem zd_L_580 : decode code 580 = .ok (.iadd, 1) := by decide +kernel
theorem zd_L_581 : decode code 581 = .ok (.iaload, 1) := by decide +kernel
theorem zd_L_582 : decode code 582 = .ok (.aload_n 0, 1) := by decide +kernel
theorem zd_L_583 : decode code 583 = .ok (.iload 4, 2) := by decide +kernel
theorem zd_L_585 : decode code 585 = .ok (.iconst 2, 1) := by decide +kernel
theorem zd_L_586 : decode code 586 = .ok (.iadd, 1) := by decide +kernel
theorem zd_L_587 : decode code 587 = .ok (.iaload, 1) := by decide +kernel
theorem zd_L_588 : decode code 588 = .ok (.invokevirtual 75, 3) := by decide +kernel
theorem zd_L_591 : decode code 591 = .ok (.aload_n 2, 1) := by decide +kernel
theorem zd_L_592 : decode code 592 = .ok (.aload_n 0, 1) := by decide +kernel
theorem zd_L_593 : decode code 593 = .ok (.iload 4, 2) := by decide +kernel
theorem zd_L_595 : decode code 595 = .ok (.iconst 1, 1) := by decide +kernel
theorem zd_L_596 : decode code 596 = .ok (.iadd, 1) := by decide +kernel
theorem zd_L_597 : decode code 597 = .ok (.iaload, 1) := by decide +kernel
theorem zd_L_598 : decode code 598 = .ok (.aload_n 0, 1) := by decide +kernel
theorem zd_L_599 : decode code 599 = .ok (.iload 4, 2) := by decide +kernel
theorem zd_L_601 : decode code 601 = .ok (.iconst 2, 1) := by decide +kernel
theorem zd_L_602 : decode code 602 = .ok (.iadd, 1) := by decide +kernel
theorem zd_L_603 : decode code 603 = .ok (.iaload, 1) := by decide +kernel
theorem zd_L_604 : decode code 604 = .ok (.invokevirtual 78, 3) := by decide +kernel
theorem zd_L_607 : decode code 607 = .ok (.if_icmp .eq 724, 3) := by decide +kernel
theorem zd_L_610 : decode code 610 = .ok (.iconst 0, 1) := by decide +kernel
theorem zd_L_611 : decode code 611 = .ok (.ireturn, 1) := by decide +kernel
theorem zd_L_612 : decode code 612 = .ok (.aload_n 1, 1) := by decide +kernel
theorem zd_L_613 : decode code 613 = .ok (.aload_n 0, 1) := by decide +kernel
theorem zd_L_614 : decode code 614 = .ok (.iload 4, 2) := by decide +kernel
theorem zd_L_616 : decode code 616 = .ok (.iconst 1, 1) := by decide +kernel
theorem zd_L_617 : decode code 617 = .ok (.iadd, 1) := by decide +kernel
theorem zd_L_618 : decode code 618 = .ok (.iaload, 1) := by decide +kernel
theorem zd_L_619 : decode code 619 = .ok (.aload_n 0, 1) := by decide +kernel
theorem zd_L_620 : decode code 620 = .ok (.iload 4, 2) := by decide +kernel
theorem zd_L_622 : decode code 622 = .ok (.iconst 2, 1) := by decide +kernel
theorem zd_L_623 : decode code 623 = .ok (.iadd, 1) := by decide +kernel
theorem zd_L_624 : decode code 624 = .ok (.iaload, 1) := by decide +kernel
theorem zd_L_625 : decode code 625 = .ok (.aload_n 0, 1) := by decide +kernel
theorem zd_L_626 : decode code 626 = .ok (.iload 4, 2) := by decide +kernel
theorem zd_L_628 : decode code 628 = .ok (.iconst 3, 1) := by decide +kernel
theorem zd_L_629 : decode code 629 = .ok (.iadd, 1) := by decide +kernel
theorem zd_L_630 : decode code 630 = .ok (.iaload, 1) := by decide +kernel
theorem zd_L_631 : decode code 631 = .ok (.invokevirtual 79, 3) := by decide +kernel
theorem zd_L_634 : decode code 634 = .ok (.aload_n 2, 1) := by decide +kernel
theorem zd_L_635 : decode code 635 = .ok (.aload_n 0, 1) := by decide +kernel
theorem zd_L_636 : decode code 636 = .ok (.iload 4, 2) := by decide +kernel
theorem zd_L_638 : decode code 638 = .ok (.iconst 1, 1) := by decide +kernel
theorem zd_L_639 : decode code 639 = .ok (.iadd, 1) := by decide +kernel
theorem zd_L_640 : decode code 640 = .ok (.iaload, 1) := by decide +kernel
theorem zd_L_641 : decode code 641 = .ok (.aload_n 0, 1) := by decide +kernel
theorem zd_L_642 : decode code 642 = .ok (.iload 4, 2) := by decide +kernel
theorem zd_L_644 : decode code 644 = .ok (.iconst 2, 1) := by decide +kernel
theorem zd_L_645 : decode code 645 = .ok (.iadd, 1) := by decide +kernel
theorem zd_L_646 : decode code 646 = .ok (.iaload, 1) := by decide +kernel
theorem zd_L_647 : decode code 647 = .ok (.aload_n 0, 1) := by decide +kernel
theorem zd_L_648 : decode code 648 = .ok (.iload 4, 2) := by decide +kernel
theorem zd_L_650 : decode code 650 = .ok (.iconst 3, 1) := by decide +kernel
theorem zd_L_651 : decode code 651 = .ok (.iadd, 1) := by decide +kernel
theorem zd_L_652 : decode code 652 = .ok (.iaload, 1) := by decide +kernel
theorem zd_L_653 : decode code 653 = .ok (.invokevirtual 83, 3) := by decide +kernel
theorem zd_L_656 : decode code 656 = .ok (.if_icmp .eq 675, 3) := by decide +kernel
theorem zd_L_659 : decode code 659 = .ok (.iconst 0, 1) := by decide +kernel
theorem zd_L_660 : decode code 660 = .ok (.ireturn, 1) := by decide +kernel
theorem zd_L_661 : decode code 661 = .ok (.aload_n 1, 1) := by decide +kernel
theorem zd_L_662 : decode code 662 = .ok (.aload_n 0, 1) := by decide +kernel
theorem zd_L_663 : decode code 663 = .ok (.iload 4, 2) := by decide +kernel
theorem zd_L_665 : decode code 665 = .ok (.iconst 1, 1) := by decide +kernel
theorem zd_L_666 : decode code 666 = .ok (.iadd, 1) := by decide +kernel
theorem zd_L_667 : decode code 667 = .ok (.iaload, 1) := by decide +kernel
theorem zd_L_668 : decode code 668 = .ok (.invokevirtual 84, 3) := by decide +kernel
theorem zd_L_671 : decode code 671 = .ok (.aload_n 2, 1) := by decide +kernel
theorem zd_L_672 : decode code 672 = .ok (.aload_n 0, 1) := by decide +kernel
theorem zd_L_673 : decode code 673 = .ok (.iload 4, 2) := by decide +kernel
theorem zd_L_675 : decode code 675 = .ok (.iconst 1, 1) := by decide +kernel
theorem zd_L_676 : decode code 676 = .ok (.iadd, 1) := by decide +kernel
theorem zd_L_677 : decode code 677 = .ok (.iaload, 1) := by decide +kernel
theorem zd_L_678 : decode code 678 = .ok (.invokevirtual 87, 3) := by decide +kernel
theorem zd_L_681 : decode code 681 = .ok (.if_icmp .eq 650, 3) := by decide +kernel
theorem zd_L_684 : decode code 684 = .ok (.iconst 0, 1) := by decide +kernel
theorem zd_L_685 : decode code 685 = .ok (.ireturn, 1) := by decide +kernel
theorem zd_L_686 : decode code 686 = .ok (.aload_n 1, 1) := by decide +kernel
theorem zd_L_687 : decode code 687 = .ok (.aload_n 0, 1) := by decide +kernel
theorem zd_L_688 : decode code 688 = .ok (.iload 4, 2) := by decide +kernel
theorem zd_L_690 : decode code 690 = .ok (.iconst 1, 1) := by decide +kernel
theorem zd_L_691 : decode code 691 = .ok (.iadd, 1) := by decide +kernel
theorem zd_L_692 : decode code 692 = .ok (.iaload, 1) := by decide +kernel
theorem zd_L_693 : decode code 693 = .ok (.aload_n 0, 1) := by decide +kernel
theorem zd_L_694 : decode code 694 = .ok (.iload 4, 2) := by decide +kernel
theorem zd_L_696 : decode code 696 = .ok (.iconst 2, 1) := by decide +kernel
theorem zd_L_697 : decode code 697 = .ok (.iadd, 1) := by decide +kernel
theorem zd_L_698 : decode code 698 = .ok (.iaload, 1) := by decide +kernel
theorem zd_L_699 : decode code 699 = .ok (.invokevirtual 88, 3) := by decide +kernel
theorem zd_L_702 : decode code 702 = .ok (.aload_n 2, 1) := by decide +kernel
theorem zd_L_703 : decode code 703 = .ok (.aload_n 0, 1) := by decide +kernel
theorem zd_L_704 : decode code 704 = .ok (.iload 4, 2) := by decide +kernel
theorem zd_L_706 : decode code 706 = .ok (.iconst 1, 1) := by decide +kernel
theorem zd_L_707 : decode code 707 = .ok (.iadd, 1) := by decide +kernel
theorem zd_L_708 : decode code 708 = .ok (.iaload, 1) := by decide +kernel
theorem zd_L_709 : decode code 709 = .ok (.aload_n 0, 1) := by decide +kernel
theorem zd_L_710 : decode code 710 = .ok (.iload 4, 2) := by decide +kernel
theorem zd_L_712 : decode code 712 = .ok (.iconst 2, 1) := by decide +kernel
theorem zd_L_713 : decode code 713 = .ok (.iadd, 1) := by decide +kernel
theorem zd_L_714 : decode code 714 = .ok (.iaload, 1) := by decide +kernel
theorem zd_L_715 : decode code 715 = .ok (.invokevirtual 91, 3) := by decide +kernel
theorem zd_L_718 : decode code 718 = .ok (.if_icmp .eq 613, 3) := by decide +kernel
theorem zd_L_721 : decode code 721 = .ok (.iconst 0, 1) := by decide +kernel
theorem zd_L_722 : decode code 722 = .ok (.ireturn, 1) := by decide +kernel
theorem zd_L_723 : decode code 723 = .ok (.aload_n 1, 1) := by decide +kernel
theorem zd_L_724 : decode code 724 = .ok (.aload_n 0, 1) := by decide +kernel
theorem zd_L_725 : decode code 725 = .ok (.iload 4, 2) := by decide +kernel
theorem zd_L_727 : decode code 727 = .ok (.iconst 1, 1) := by decide +kernel
theorem zd_L_728 : decode code 728 = .ok (.iadd, 1) := by decide +kernel
theorem zd_L_729 : decode code 729 = .ok (.iaload, 1) := by decide +kernel
theorem zd_L_730 : decode code 730 = .ok (.invokevirtual 92, 3) := by decide +kernel
theorem zd_L_733 : decode code 733 = .ok (.aload_n 2, 1) := by decide +kernel
theorem zd_L_734 : decode code 734 = .ok (.aload_n 0, 1) := by decide +kernel
theorem zd_L_735 : decode code 735 = .ok (.iload 4, 2) := by decide +kernel
theorem zd_L_737 : decode code 737 = .ok (.iconst 1, 1) := by decide +kernel
theorem zd_L_738 : decode code 738 = .ok (.iadd, 1) := by decide +kernel
theorem zd_L_739 : decode code 739 = .ok (.iaload, 1) := by decide +kernel
theorem zd_L_740 : decode code 740 = .ok (.invokevirtual 95, 3) := by decide +kernel
theorem zd_L_743 : decode code 743 = .ok (.if_icmp .eq 588, 3) := by decide +kernel
