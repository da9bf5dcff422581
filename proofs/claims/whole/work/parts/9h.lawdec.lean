/-! ===== the law: its instructions ===== -/
theorem dW_0 : decode code 0 = .ok (.new 8, 3) := by decide +kernel
theorem dW_3 : decode code 3 = .ok (.dup, 1) := by decide +kernel
theorem dW_4 : decode code 4 = .ok (.invokespecial 19, 3) := by decide +kernel
theorem dW_7 : decode code 7 = .ok (.astore_n 1, 1) := by decide +kernel
theorem dW_8 : decode code 8 = .ok (.new 20, 3) := by decide +kernel
theorem dW_11 : decode code 11 = .ok (.dup, 1) := by decide +kernel
theorem dW_12 : decode code 12 = .ok (.invokespecial 22, 3) := by decide +kernel
theorem dW_15 : decode code 15 = .ok (.astore_n 2, 1) := by decide +kernel
theorem dW_16 : decode code 16 = .ok (.iconst 1, 1) := by decide +kernel
theorem dW_17 : decode code 17 = .ok (.newarray .long, 2) := by decide +kernel
theorem dW_19 : decode code 19 = .ok (.astore_n 3, 1) := by decide +kernel
theorem dW_20 : decode code 20 = .ok (.iconst 0, 1) := by decide +kernel
theorem dW_21 : decode code 21 = .ok (.istore 4, 2) := by decide +kernel
theorem dW_23 : decode code 23 = .ok (.iload 4, 2) := by decide +kernel
theorem dW_25 : decode code 25 = .ok (.aload_n 0, 1) := by decide +kernel
theorem dW_26 : decode code 26 = .ok (.arraylength, 1) := by decide +kernel
theorem dW_27 : decode code 27 = .ok (.bipush 6, 2) := by decide +kernel
theorem dW_29 : decode code 29 = .ok (.isub, 1) := by decide +kernel
theorem dW_30 : decode code 30 = .ok (.if_icmp .gt 1326, 3) := by decide +kernel
theorem dW_33 : decode code 33 = .ok (.aload_n 0, 1) := by decide +kernel
theorem dW_34 : decode code 34 = .ok (.iload 4, 2) := by decide +kernel
theorem dW_36 : decode code 36 = .ok (.iaload, 1) := by decide +kernel
theorem dW_37 : decode code 37 = .ok (.bipush 63, 2) := by decide +kernel
theorem dW_39 : decode code 39 = .ok (.iand, 1) := by decide +kernel
theorem dW_40 : decode code 40 = .ok (.tableswitch 1310 0 39 #[176, 249, 274, 287, 300, 368, 405, 442, 467, 504, 529, 554, 603, 628, 641, 666, 679, 692, 729, 766, 779, 792, 829, 854, 891, 904, 917, 930, 955, 1011, 1036, 1061, 1098, 1147, 1172, 1197, 1210, 1235, 1260, 1285], 176) := by decide +kernel
theorem dW_216 : decode code 216 = .ok (.aload_n 1, 1) := by decide +kernel
theorem dW_217 : decode code 217 = .ok (.aload_n 0, 1) := by decide +kernel
theorem dW_218 : decode code 218 = .ok (.iload 4, 2) := by decide +kernel
theorem dW_220 : decode code 220 = .ok (.iconst 1, 1) := by decide +kernel
theorem dW_221 : decode code 221 = .ok (.iadd, 1) := by decide +kernel
theorem dW_222 : decode code 222 = .ok (.iaload, 1) := by decide +kernel
theorem dW_223 : decode code 223 = .ok (.aload_n 0, 1) := by decide +kernel
theorem dW_224 : decode code 224 = .ok (.iload 4, 2) := by decide +kernel
theorem dW_226 : decode code 226 = .ok (.iconst 2, 1) := by decide +kernel
theorem dW_227 : decode code 227 = .ok (.iadd, 1) := by decide +kernel
theorem dW_228 : decode code 228 = .ok (.iaload, 1) := by decide +kernel
theorem dW_229 : decode code 229 = .ok (.aload_n 0, 1) := by decide +kernel
theorem dW_230 : decode code 230 = .ok (.iload 4, 2) := by decide +kernel
theorem dW_232 : decode code 232 = .ok (.iconst 3, 1) := by decide +kernel
theorem dW_233 : decode code 233 = .ok (.iadd, 1) := by decide +kernel
theorem dW_234 : decode code 234 = .ok (.iaload, 1) := by decide +kernel
theorem dW_235 : decode code 235 = .ok (.aload_n 0, 1) := by decide +kernel
theorem dW_236 : decode code 236 = .ok (.iload 4, 2) := by decide +kernel
theorem dW_238 : decode code 238 = .ok (.iconst 4, 1) := by decide +kernel
theorem dW_239 : decode code 239 = .ok (.iadd, 1) := by decide +kernel
theorem dW_240 : decode code 240 = .ok (.iaload, 1) := by decide +kernel
theorem dW_241 : decode code 241 = .ok (.aload_n 0, 1) := by decide +kernel
theorem dW_242 : decode code 242 = .ok (.iload 4, 2) := by decide +kernel
theorem dW_244 : decode code 244 = .ok (.iconst 5, 1) := by decide +kernel
theorem dW_245 : decode code 245 = .ok (.iadd, 1) := by decide +kernel
theorem dW_246 : decode code 246 = .ok (.iaload, 1) := by decide +kernel
theorem dW_247 : decode code 247 = .ok (.invokevirtual 23, 3) := by decide +kernel
theorem dW_250 : decode code 250 = .ok (.aload_n 2, 1) := by decide +kernel
theorem dW_251 : decode code 251 = .ok (.aload_n 0, 1) := by decide +kernel
theorem dW_252 : decode code 252 = .ok (.iload 4, 2) := by decide +kernel
theorem dW_254 : decode code 254 = .ok (.iconst 1, 1) := by decide +kernel
theorem dW_255 : decode code 255 = .ok (.iadd, 1) := by decide +kernel
theorem dW_256 : decode code 256 = .ok (.iaload, 1) := by decide +kernel
theorem dW_257 : decode code 257 = .ok (.aload_n 0, 1) := by decide +kernel
theorem dW_258 : decode code 258 = .ok (.iload 4, 2) := by decide +kernel
theorem dW_260 : decode code 260 = .ok (.iconst 2, 1) := by decide +kernel
theorem dW_261 : decode code 261 = .ok (.iadd, 1) := by decide +kernel
theorem dW_262 : decode code 262 = .ok (.iaload, 1) := by decide +kernel
theorem dW_263 : decode code 263 = .ok (.aload_n 0, 1) := by decide +kernel
theorem dW_264 : decode code 264 = .ok (.iload 4, 2) := by decide +kernel
theorem dW_266 : decode code 266 = .ok (.iconst 3, 1) := by decide +kernel
theorem dW_267 : decode code 267 = .ok (.iadd, 1) := by decide +kernel
theorem dW_268 : decode code 268 = .ok (.iaload, 1) := by decide +kernel
theorem dW_269 : decode code 269 = .ok (.aload_n 0, 1) := by decide +kernel
theorem dW_270 : decode code 270 = .ok (.iload 4, 2) := by decide +kernel
theorem dW_272 : decode code 272 = .ok (.iconst 4, 1) := by decide +kernel
theorem dW_273 : decode code 273 = .ok (.iadd, 1) := by decide +kernel
theorem dW_274 : decode code 274 = .ok (.iaload, 1) := by decide +kernel
theorem dW_275 : decode code 275 = .ok (.aload_n 0, 1) := by decide +kernel
theorem dW_276 : decode code 276 = .ok (.iload 4, 2) := by decide +kernel
theorem dW_278 : decode code 278 = .ok (.iconst 5, 1) := by decide +kernel
theorem dW_279 : decode code 279 = .ok (.iadd, 1) := by decide +kernel
theorem dW_280 : decode code 280 = .ok (.iaload, 1) := by decide +kernel
theorem dW_281 : decode code 281 = .ok (.invokevirtual 27, 3) := by decide +kernel
theorem dW_284 : decode code 284 = .ok (.if_icmp .eq 1066, 3) := by decide +kernel
theorem dW_287 : decode code 287 = .ok (.iconst 0, 1) := by decide +kernel
theorem dW_288 : decode code 288 = .ok (.ireturn, 1) := by decide +kernel
theorem dW_289 : decode code 289 = .ok (.aload_n 1, 1) := by decide +kernel
theorem dW_290 : decode code 290 = .ok (.aload_n 0, 1) := by decide +kernel
theorem dW_291 : decode code 291 = .ok (.iload 4, 2) := by decide +kernel
theorem dW_293 : decode code 293 = .ok (.iconst 1, 1) := by decide +kernel
theorem dW_294 : decode code 294 = .ok (.iadd, 1) := by decide +kernel
theorem dW_295 : decode code 295 = .ok (.iaload, 1) := by decide +kernel
theorem dW_296 : decode code 296 = .ok (.invokevirtual 28, 3) := by decide +kernel
theorem dW_299 : decode code 299 = .ok (.aload_n 2, 1) := by decide +kernel
theorem dW_300 : decode code 300 = .ok (.aload_n 0, 1) := by decide +kernel
theorem dW_301 : decode code 301 = .ok (.iload 4, 2) := by decide +kernel
theorem dW_303 : decode code 303 = .ok (.iconst 1, 1) := by decide +kernel
theorem dW_304 : decode code 304 = .ok (.iadd, 1) := by decide +kernel
theorem dW_305 : decode code 305 = .ok (.iaload, 1) := by decide +kernel
theorem dW_306 : decode code 306 = .ok (.invokevirtual 32, 3) := by decide +kernel
theorem dW_309 : decode code 309 = .ok (.if_icmp .eq 1041, 3) := by decide +kernel
theorem dW_312 : decode code 312 = .ok (.iconst 0, 1) := by decide +kernel
theorem dW_313 : decode code 313 = .ok (.ireturn, 1) := by decide +kernel
theorem dW_314 : decode code 314 = .ok (.aload_n 1, 1) := by decide +kernel
theorem dW_315 : decode code 315 = .ok (.invokevirtual 33, 3) := by decide +kernel
theorem dW_318 : decode code 318 = .ok (.aload_n 2, 1) := by decide +kernel
theorem dW_319 : decode code 319 = .ok (.invokevirtual 37, 3) := by decide +kernel
theorem dW_322 : decode code 322 = .ok (.if_icmp .eq 1028, 3) := by decide +kernel
theorem dW_325 : decode code 325 = .ok (.iconst 0, 1) := by decide +kernel
theorem dW_326 : decode code 326 = .ok (.ireturn, 1) := by decide +kernel
theorem dW_327 : decode code 327 = .ok (.aload_n 1, 1) := by decide +kernel
theorem dW_328 : decode code 328 = .ok (.invokevirtual 38, 3) := by decide +kernel
theorem dW_331 : decode code 331 = .ok (.aload_n 2, 1) := by decide +kernel
theorem dW_332 : decode code 332 = .ok (.invokevirtual 41, 3) := by decide +kernel
theorem dW_335 : decode code 335 = .ok (.if_icmp .eq 1015, 3) := by decide +kernel
theorem dW_338 : decode code 338 = .ok (.iconst 0, 1) := by decide +kernel
theorem dW_339 : decode code 339 = .ok (.ireturn, 1) := by decide +kernel
theorem dW_340 : decode code 340 = .ok (.aload_n 1, 1) := by decide +kernel
theorem dW_341 : decode code 341 = .ok (.aload_n 0, 1) := by decide +kernel
theorem dW_342 : decode code 342 = .ok (.iload 4, 2) := by decide +kernel
theorem dW_344 : decode code 344 = .ok (.iconst 1, 1) := by decide +kernel
theorem dW_345 : decode code 345 = .ok (.iadd, 1) := by decide +kernel
theorem dW_346 : decode code 346 = .ok (.iaload, 1) := by decide +kernel
theorem dW_347 : decode code 347 = .ok (.aload_n 0, 1) := by decide +kernel
theorem dW_348 : decode code 348 = .ok (.iload 4, 2) := by decide +kernel
theorem dW_350 : decode code 350 = .ok (.iconst 2, 1) := by decide +kernel
theorem dW_351 : decode code 351 = .ok (.iadd, 1) := by decide +kernel
theorem dW_352 : decode code 352 = .ok (.iaload, 1) := by decide +kernel
theorem dW_353 : decode code 353 = .ok (.aload_n 3, 1) := by decide +kernel
theorem dW_354 : decode code 354 = .ok (.invokestatic 42, 3) := by decide +kernel
theorem dW_357 : decode code 357 = .ok (.istore 5, 2) := by decide +kernel
theorem dW_359 : decode code 359 = .ok (.aload_n 2, 1) := by decide +kernel
theorem dW_360 : decode code 360 = .ok (.aload_n 0, 1) := by decide +kernel
theorem dW_361 : decode code 361 = .ok (.iload 4, 2) := by decide +kernel
theorem dW_363 : decode code 363 = .ok (.iconst 1, 1) := by decide +kernel
theorem dW_364 : decode code 364 = .ok (.iadd, 1) := by decide +kernel
theorem dW_365 : decode code 365 = .ok (.iaload, 1) := by decide +kernel
theorem dW_366 : decode code 366 = .ok (.aload_n 0, 1) := by decide +kernel
theorem dW_367 : decode code 367 = .ok (.iload 4, 2) := by decide +kernel
theorem dW_369 : decode code 369 = .ok (.iconst 2, 1) := by decide +kernel
theorem dW_370 : decode code 370 = .ok (.iadd, 1) := by decide +kernel
theorem dW_371 : decode code 371 = .ok (.iaload, 1) := by decide +kernel
theorem dW_372 : decode code 372 = .ok (.invokevirtual 47, 3) := by decide +kernel
theorem dW_375 : decode code 375 = .ok (.istore 6, 2) := by decide +kernel
theorem dW_377 : decode code 377 = .ok (.aload_n 2, 1) := by decide +kernel
theorem dW_378 : decode code 378 = .ok (.invokevirtual 48, 3) := by decide +kernel
theorem dW_381 : decode code 381 = .ok (.iload 5, 2) := by decide +kernel
theorem dW_383 : decode code 383 = .ok (.if_icmp .eq 5, 3) := by decide +kernel
theorem dW_386 : decode code 386 = .ok (.iconst 0, 1) := by decide +kernel
theorem dW_387 : decode code 387 = .ok (.ireturn, 1) := by decide +kernel
theorem dW_388 : decode code 388 = .ok (.iload 5, 2) := by decide +kernel
theorem dW_390 : decode code 390 = .ok (.ifCond .ne 15, 3) := by decide +kernel
theorem dW_393 : decode code 393 = .ok (.aload_n 3, 1) := by decide +kernel
theorem dW_394 : decode code 394 = .ok (.iconst 0, 1) := by decide +kernel
theorem dW_395 : decode code 395 = .ok (.laload, 1) := by decide +kernel
theorem dW_396 : decode code 396 = .ok (.iload 6, 2) := by decide +kernel
theorem dW_398 : decode code 398 = .ok (.i2l, 1) := by decide +kernel
theorem dW_399 : decode code 399 = .ok (.lcmp, 1) := by decide +kernel
theorem dW_400 : decode code 400 = .ok (.ifCond .eq 5, 3) := by decide +kernel
theorem dW_403 : decode code 403 = .ok (.iconst 0, 1) := by decide +kernel
theorem dW_404 : decode code 404 = .ok (.ireturn, 1) := by decide +kernel
theorem dW_405 : decode code 405 = .ok (.goto 945, 3) := by decide +kernel
theorem dW_408 : decode code 408 = .ok (.aload_n 1, 1) := by decide +kernel
theorem dW_409 : decode code 409 = .ok (.aload_n 0, 1) := by decide +kernel
theorem dW_410 : decode code 410 = .ok (.iload 4, 2) := by decide +kernel
theorem dW_412 : decode code 412 = .ok (.iconst 1, 1) := by decide +kernel
theorem dW_413 : decode code 413 = .ok (.iadd, 1) := by decide +kernel
theorem dW_414 : decode code 414 = .ok (.iaload, 1) := by decide +kernel
theorem dW_415 : decode code 415 = .ok (.aload_n 0, 1) := by decide +kernel
theorem dW_416 : decode code 416 = .ok (.iload 4, 2) := by decide +kernel
theorem dW_418 : decode code 418 = .ok (.iconst 2, 1) := by decide +kernel
theorem dW_419 : decode code 419 = .ok (.iadd, 1) := by decide +kernel
theorem dW_420 : decode code 420 = .ok (.iaload, 1) := by decide +kernel
theorem dW_421 : decode code 421 = .ok (.invokevirtual 51, 3) := by decide +kernel
theorem dW_424 : decode code 424 = .ok (.aload_n 2, 1) := by decide +kernel
theorem dW_425 : decode code 425 = .ok (.aload_n 0, 1) := by decide +kernel
theorem dW_426 : decode code 426 = .ok (.iload 4, 2) := by decide +kernel
theorem dW_428 : decode code 428 = .ok (.iconst 1, 1) := by decide +kernel
theorem dW_429 : decode code 429 = .ok (.iadd, 1) := by decide +kernel
theorem dW_430 : decode code 430 = .ok (.iaload, 1) := by decide +kernel
theorem dW_431 : decode code 431 = .ok (.aload_n 0, 1) := by decide +kernel
theorem dW_432 : decode code 432 = .ok (.iload 4, 2) := by decide +kernel
theorem dW_434 : decode code 434 = .ok (.iconst 2, 1) := by decide +kernel
theorem dW_435 : decode code 435 = .ok (.iadd, 1) := by decide +kernel
theorem dW_436 : decode code 436 = .ok (.iaload, 1) := by decide +kernel
theorem dW_437 : decode code 437 = .ok (.invokevirtual 54, 3) := by decide +kernel
theorem dW_440 : decode code 440 = .ok (.if_icmp .eq 910, 3) := by decide +kernel
theorem dW_443 : decode code 443 = .ok (.iconst 0, 1) := by decide +kernel
theorem dW_444 : decode code 444 = .ok (.ireturn, 1) := by decide +kernel
theorem dW_445 : decode code 445 = .ok (.aload_n 1, 1) := by decide +kernel
theorem dW_446 : decode code 446 = .ok (.aload_n 0, 1) := by decide +kernel
theorem dW_447 : decode code 447 = .ok (.iload 4, 2) := by decide +kernel
theorem dW_449 : decode code 449 = .ok (.iconst 1, 1) := by decide +kernel
theorem dW_450 : decode code 450 = .ok (.iadd, 1) := by decide +kernel
theorem dW_451 : decode code 451 = .ok (.iaload, 1) := by decide +kernel
theorem dW_452 : decode code 452 = .ok (.aload_n 0, 1) := by decide +kernel
theorem dW_453 : decode code 453 = .ok (.iload 4, 2) := by decide +kernel
theorem dW_455 : decode code 455 = .ok (.iconst 2, 1) := by decide +kernel
theorem dW_456 : decode code 456 = .ok (.iadd, 1) := by decide +kernel
theorem dW_457 : decode code 457 = .ok (.iaload, 1) := by decide +kernel
theorem dW_458 : decode code 458 = .ok (.invokevirtual 55, 3) := by decide +kernel
theorem dW_461 : decode code 461 = .ok (.aload_n 2, 1) := by decide +kernel
theorem dW_462 : decode code 462 = .ok (.aload_n 0, 1) := by decide +kernel
theorem dW_463 : decode code 463 = .ok (.iload 4, 2) := by decide +kernel
theorem dW_465 : decode code 465 = .ok (.iconst 1, 1) := by decide +kernel
theorem dW_466 : decode code 466 = .ok (.iadd, 1) := by decide +kernel
theorem dW_467 : decode code 467 = .ok (.iaload, 1) := by decide +kernel
theorem dW_468 : decode code 468 = .ok (.aload_n 0, 1) := by decide +kernel
theorem dW_469 : decode code 469 = .ok (.iload 4, 2) := by decide +kernel
theorem dW_471 : decode code 471 = .ok (.iconst 2, 1) := by decide +kernel
theorem dW_472 : decode code 472 = .ok (.iadd, 1) := by decide +kernel
theorem dW_473 : decode code 473 = .ok (.iaload, 1) := by decide +kernel
theorem dW_474 : decode code 474 = .ok (.invokevirtual 58, 3) := by decide +kernel
theorem dW_477 : decode code 477 = .ok (.if_icmp .eq 873, 3) := by decide +kernel
theorem dW_480 : decode code 480 = .ok (.iconst 0, 1) := by decide +kernel
theorem dW_481 : decode code 481 = .ok (.ireturn, 1) := by decide +kernel
theorem dW_482 : decode code 482 = .ok (.aload_n 1, 1) := by decide +kernel
theorem dW_483 : decode code 483 = .ok (.aload_n 0, 1) := by decide +kernel
theorem dW_484 : decode code 484 = .ok (.iload 4, 2) := by decide +kernel
theorem dW_486 : decode code 486 = .ok (.iconst 1, 1) := by decide +kernel
theorem dW_487 : decode code 487 = .ok (.iadd, 1) := by decide +kernel
theorem dW_488 : decode code 488 = .ok (.iaload, 1) := by decide +kernel
theorem dW_489 : decode code 489 = .ok (.invokevirtual 59, 3) := by decide +kernel
theorem dW_492 : decode code 492 = .ok (.aload_n 2, 1) := by decide +kernel
theorem dW_493 : decode code 493 = .ok (.aload_n 0, 1) := by decide +kernel
theorem dW_494 : decode code 494 = .ok (.iload 4, 2) := by decide +kernel
theorem dW_496 : decode code 496 = .ok (.iconst 1, 1) := by decide +kernel
theorem dW_497 : decode code 497 = .ok (.iadd, 1) := by decide +kernel
theorem dW_498 : decode code 498 = .ok (.iaload, 1) := by decide +kernel
theorem dW_499 : decode code 499 = .ok (.invokevirtual 62, 3) := by decide +kernel
theorem dW_502 : decode code 502 = .ok (.if_icmp .eq 848, 3) := by decide +kernel
theorem dW_505 : decode code 505 = .ok (.iconst 0, 1) := by decide +kernel
theorem dW_506 : decode code 506 = .ok (.ireturn, 1) := by decide +kernel
theorem dW_507 : decode code 507 = .ok (.aload_n 1, 1) := by decide +kernel
theorem dW_508 : decode code 508 = .ok (.aload_n 0, 1) := by decide +kernel
theorem dW_509 : decode code 509 = .ok (.iload 4, 2) := by decide +kernel
theorem dW_511 : decode code 511 = .ok (.iconst 1, 1) := by decide +kernel
theorem dW_512 : decode code 512 = .ok (.iadd, 1) := by decide +kernel
theorem dW_513 : decode code 513 = .ok (.iaload, 1) := by decide +kernel
theorem dW_514 : decode code 514 = .ok (.aload_n 0, 1) := by decide +kernel
theorem dW_515 : decode code 515 = .ok (.iload 4, 2) := by decide +kernel
theorem dW_517 : decode code 517 = .ok (.iconst 2, 1) := by decide +kernel
theorem dW_518 : decode code 518 = .ok (.iadd, 1) := by decide +kernel
theorem dW_519 : decode code 519 = .ok (.iaload, 1) := by decide +kernel
theorem dW_520 : decode code 520 = .ok (.invokevirtual 63, 3) := by decide +kernel
theorem dW_523 : decode code 523 = .ok (.aload_n 2, 1) := by decide +kernel
theorem dW_524 : decode code 524 = .ok (.aload_n 0, 1) := by decide +kernel
theorem dW_525 : decode code 525 = .ok (.iload 4, 2) := by decide +kernel
theorem dW_527 : decode code 527 = .ok (.iconst 1, 1) := by decide +kernel
theorem dW_528 : decode code 528 = .ok (.iadd, 1) := by decide +kernel
theorem dW_529 : decode code 529 = .ok (.iaload, 1) := by decide +kernel
theorem dW_530 : decode code 530 = .ok (.aload_n 0, 1) := by decide +kernel
theorem dW_531 : decode code 531 = .ok (.iload 4, 2) := by decide +kernel
theorem dW_533 : decode code 533 = .ok (.iconst 2, 1) := by decide +kernel
theorem dW_534 : decode code 534 = .ok (.iadd, 1) := by decide +kernel
theorem dW_535 : decode code 535 = .ok (.iaload, 1) := by decide +kernel
theorem dW_536 : decode code 536 = .ok (.invokevirtual 66, 3) := by decide +kernel
theorem dW_539 : decode code 539 = .ok (.if_icmp .eq 811, 3) := by decide +kernel
theorem dW_542 : decode code 542 = .ok (.iconst 0, 1) := by decide +kernel
theorem dW_543 : decode code 543 = .ok (.ireturn, 1) := by decide +kernel
theorem dW_544 : decode code 544 = .ok (.aload_n 1, 1) := by decide +kernel
theorem dW_545 : decode code 545 = .ok (.aload_n 0, 1) := by decide +kernel
theorem dW_546 : decode code 546 = .ok (.iload 4, 2) := by decide +kernel
theorem dW_548 : decode code 548 = .ok (.iconst 1, 1) := by decide +kernel
theorem dW_549 : decode code 549 = .ok (.iadd, 1) := by decide +kernel
theorem dW_550 : decode code 550 = .ok (.iaload, 1) := by decide +kernel
theorem dW_551 : decode code 551 = .ok (.invokevirtual 67, 3) := by decide +kernel
theorem dW_554 : decode code 554 = .ok (.aload_n 2, 1) := by decide +kernel
theorem dW_555 : decode code 555 = .ok (.aload_n 0, 1) := by decide +kernel
theorem dW_556 : decode code 556 = .ok (.iload 4, 2) := by decide +kernel
theorem dW_558 : decode code 558 = .ok (.iconst 1, 1) := by decide +kernel
theorem dW_559 : decode code 559 = .ok (.iadd, 1) := by decide +kernel
theorem dW_560 : decode code 560 = .ok (.iaload, 1) := by decide +kernel
theorem dW_561 : decode code 561 = .ok (.invokevirtual 70, 3) := by decide +kernel
theorem dW_564 : decode code 564 = .ok (.if_icmp .eq 786, 3) := by decide +kernel
theorem dW_567 : decode code 567 = .ok (.iconst 0, 1) := by decide +kernel
theorem dW_568 : decode code 568 = .ok (.ireturn, 1) := by decide +kernel
theorem dW_569 : decode code 569 = .ok (.aload_n 1, 1) := by decide +kernel
theorem dW_570 : decode code 570 = .ok (.aload_n 0, 1) := by decide +kernel
theorem dW_571 : decode code 571 = .ok (.iload 4, 2) := by decide +kernel
theorem dW_573 : decode code 573 = .ok (.iconst 1, 1) := by decide +kernel
theorem dW_574 : decode code 574 = .ok (.iadd, 1) := by decide +kernel
theorem dW_575 : decode code 575 = .ok (.iaload, 1) := by decide +kernel
theorem dW_576 : decode code 576 = .ok (.invokevirtual 71, 3) := by decide +kernel
theorem dW_579 : decode code 579 = .ok (.aload_n 2, 1) := by decide +kernel
theorem dW_580 : decode code 580 = .ok (.aload_n 0, 1) := by decide +kernel
theorem dW_581 : decode code 581 = .ok (.iload 4, 2) := by decide +kernel
theorem dW_583 : decode code 583 = .ok (.iconst 1, 1) := by decide +kernel
theorem dW_584 : decode code 584 = .ok (.iadd, 1) := by decide +kernel
theorem dW_585 : decode code 585 = .ok (.iaload, 1) := by decide +kernel
theorem dW_586 : decode code 586 = .ok (.invokevirtual 74, 3) := by decide +kernel
theorem dW_589 : decode code 589 = .ok (.if_icmp .eq 761, 3) := by decide +kernel
theorem dW_592 : decode code 592 = .ok (.iconst 0, 1) := by decide +kernel
theorem dW_593 : decode code 593 = .ok (.ireturn, 1) := by decide +kernel
theorem dW_594 : decode code 594 = .ok (.aload_n 1, 1) := by decide +kernel
theorem dW_595 : decode code 595 = .ok (.aload_n 0, 1) := by decide +kernel
theorem dW_596 : decode code 596 = .ok (.iload 4, 2) := by decide +kernel
theorem dW_598 : decode code 598 = .ok (.iconst 1, 1) := by decide +kernel
theorem dW_599 : decode code 599 = .ok (.iadd, 1) := by decide +kernel
theorem dW_600 : decode code 600 = .ok (.iaload, 1) := by decide +kernel
theorem dW_601 : decode code 601 = .ok (.aload_n 0, 1) := by decide +kernel
theorem dW_602 : decode code 602 = .ok (.iload 4, 2) := by decide +kernel
theorem dW_604 : decode code 604 = .ok (.iconst 2, 1) := by decide +kernel
theorem dW_605 : decode code 605 = .ok (.iadd, 1) := by decide +kernel
theorem dW_606 : decode code 606 = .ok (.iaload, 1) := by decide +kernel
theorem dW_607 : decode code 607 = .ok (.aload_n 0, 1) := by decide +kernel
theorem dW_608 : decode code 608 = .ok (.iload 4, 2) := by decide +kernel
theorem dW_610 : decode code 610 = .ok (.iconst 3, 1) := by decide +kernel
theorem dW_611 : decode code 611 = .ok (.iadd, 1) := by decide +kernel
theorem dW_612 : decode code 612 = .ok (.iaload, 1) := by decide +kernel
theorem dW_613 : decode code 613 = .ok (.invokevirtual 75, 3) := by decide +kernel
theorem dW_616 : decode code 616 = .ok (.aload_n 2, 1) := by decide +kernel
theorem dW_617 : decode code 617 = .ok (.aload_n 0, 1) := by decide +kernel
theorem dW_618 : decode code 618 = .ok (.iload 4, 2) := by decide +kernel
theorem dW_620 : decode code 620 = .ok (.iconst 1, 1) := by decide +kernel
theorem dW_621 : decode code 621 = .ok (.iadd, 1) := by decide +kernel
theorem dW_622 : decode code 622 = .ok (.iaload, 1) := by decide +kernel
theorem dW_623 : decode code 623 = .ok (.aload_n 0, 1) := by decide +kernel
theorem dW_624 : decode code 624 = .ok (.iload 4, 2) := by decide +kernel
theorem dW_626 : decode code 626 = .ok (.iconst 2, 1) := by decide +kernel
theorem dW_627 : decode code 627 = .ok (.iadd, 1) := by decide +kernel
theorem dW_628 : decode code 628 = .ok (.iaload, 1) := by decide +kernel
theorem dW_629 : decode code 629 = .ok (.aload_n 0, 1) := by decide +kernel
theorem dW_630 : decode code 630 = .ok (.iload 4, 2) := by decide +kernel
theorem dW_632 : decode code 632 = .ok (.iconst 3, 1) := by decide +kernel
theorem dW_633 : decode code 633 = .ok (.iadd, 1) := by decide +kernel
theorem dW_634 : decode code 634 = .ok (.iaload, 1) := by decide +kernel
theorem dW_635 : decode code 635 = .ok (.invokevirtual 79, 3) := by decide +kernel
theorem dW_638 : decode code 638 = .ok (.if_icmp .eq 712, 3) := by decide +kernel
theorem dW_641 : decode code 641 = .ok (.iconst 0, 1) := by decide +kernel
theorem dW_642 : decode code 642 = .ok (.ireturn, 1) := by decide +kernel
theorem dW_643 : decode code 643 = .ok (.aload_n 1, 1) := by decide +kernel
theorem dW_644 : decode code 644 = .ok (.aload_n 0, 1) := by decide +kernel
theorem dW_645 : decode code 645 = .ok (.iload 4, 2) := by decide +kernel
theorem dW_647 : decode code 647 = .ok (.iconst 1, 1) := by decide +kernel
theorem dW_648 : decode code 648 = .ok (.iadd, 1) := by decide +kernel
theorem dW_649 : decode code 649 = .ok (.iaload, 1) := by decide +kernel
theorem dW_650 : decode code 650 = .ok (.invokevirtual 80, 3) := by decide +kernel
theorem dW_653 : decode code 653 = .ok (.aload_n 2, 1) := by decide +kernel
theorem dW_654 : decode code 654 = .ok (.aload_n 0, 1) := by decide +kernel
theorem dW_655 : decode code 655 = .ok (.iload 4, 2) := by decide +kernel
theorem dW_657 : decode code 657 = .ok (.iconst 1, 1) := by decide +kernel
theorem dW_658 : decode code 658 = .ok (.iadd, 1) := by decide +kernel
theorem dW_659 : decode code 659 = .ok (.iaload, 1) := by decide +kernel
theorem dW_660 : decode code 660 = .ok (.invokevirtual 83, 3) := by decide +kernel
theorem dW_663 : decode code 663 = .ok (.if_icmp .eq 687, 3) := by decide +kernel
theorem dW_666 : decode code 666 = .ok (.iconst 0, 1) := by decide +kernel
theorem dW_667 : decode code 667 = .ok (.ireturn, 1) := by decide +kernel
theorem dW_668 : decode code 668 = .ok (.aload_n 1, 1) := by decide +kernel
theorem dW_669 : decode code 669 = .ok (.invokevirtual 84, 3) := by decide +kernel
theorem dW_672 : decode code 672 = .ok (.aload_n 2, 1) := by decide +kernel
theorem dW_673 : decode code 673 = .ok (.invokevirtual 87, 3) := by decide +kernel
theorem dW_676 : decode code 676 = .ok (.if_icmp .eq 674, 3) := by decide +kernel
theorem dW_679 : decode code 679 = .ok (.iconst 0, 1) := by decide +kernel
theorem dW_680 : decode code 680 = .ok (.ireturn, 1) := by decide +kernel
theorem dW_681 : decode code 681 = .ok (.aload_n 1, 1) := by decide +kernel
theorem dW_682 : decode code 682 = .ok (.aload_n 0, 1) := by decide +kernel
theorem dW_683 : decode code 683 = .ok (.iload 4, 2) := by decide +kernel
theorem dW_685 : decode code 685 = .ok (.iconst 1, 1) := by decide +kernel
theorem dW_686 : decode code 686 = .ok (.iadd, 1) := by decide +kernel
theorem dW_687 : decode code 687 = .ok (.iaload, 1) := by decide +kernel
theorem dW_688 : decode code 688 = .ok (.invokevirtual 88, 3) := by decide +kernel
theorem dW_691 : decode code 691 = .ok (.aload_n 2, 1) := by decide +kernel
theorem dW_692 : decode code 692 = .ok (.aload_n 0, 1) := by decide +kernel
theorem dW_693 : decode code 693 = .ok (.iload 4, 2) := by decide +kernel
theorem dW_695 : decode code 695 = .ok (.iconst 1, 1) := by decide +kernel
theorem dW_696 : decode code 696 = .ok (.iadd, 1) := by decide +kernel
theorem dW_697 : decode code 697 = .ok (.iaload, 1) := by decide +kernel
theorem dW_698 : decode code 698 = .ok (.invokevirtual 91, 3) := by decide +kernel
theorem dW_701 : decode code 701 = .ok (.if_icmp .eq 649, 3) := by decide +kernel
theorem dW_704 : decode code 704 = .ok (.iconst 0, 1) := by decide +kernel
theorem dW_705 : decode code 705 = .ok (.ireturn, 1) := by decide +kernel
theorem dW_706 : decode code 706 = .ok (.aload_n 1, 1) := by decide +kernel
theorem dW_707 : decode code 707 = .ok (.invokevirtual 92, 3) := by decide +kernel
theorem dW_710 : decode code 710 = .ok (.aload_n 2, 1) := by decide +kernel
theorem dW_711 : decode code 711 = .ok (.invokevirtual 95, 3) := by decide +kernel
theorem dW_714 : decode code 714 = .ok (.if_icmp .eq 636, 3) := by decide +kernel
theorem dW_717 : decode code 717 = .ok (.iconst 0, 1) := by decide +kernel
theorem dW_718 : decode code 718 = .ok (.ireturn, 1) := by decide +kernel
theorem dW_719 : decode code 719 = .ok (.aload_n 1, 1) := by decide +kernel
theorem dW_720 : decode code 720 = .ok (.invokevirtual 96, 3) := by decide +kernel
theorem dW_723 : decode code 723 = .ok (.aload_n 2, 1) := by decide +kernel
theorem dW_724 : decode code 724 = .ok (.invokevirtual 99, 3) := by decide +kernel
theorem dW_727 : decode code 727 = .ok (.if_icmp .eq 623, 3) := by decide +kernel
theorem dW_730 : decode code 730 = .ok (.iconst 0, 1) := by decide +kernel
theorem dW_731 : decode code 731 = .ok (.ireturn, 1) := by decide +kernel
theorem dW_732 : decode code 732 = .ok (.aload_n 1, 1) := by decide +kernel
theorem dW_733 : decode code 733 = .ok (.aload_n 0, 1) := by decide +kernel
theorem dW_734 : decode code 734 = .ok (.iload 4, 2) := by decide +kernel
theorem dW_736 : decode code 736 = .ok (.iconst 1, 1) := by decide +kernel
theorem dW_737 : decode code 737 = .ok (.iadd, 1) := by decide +kernel
theorem dW_738 : decode code 738 = .ok (.iaload, 1) := by decide +kernel
theorem dW_739 : decode code 739 = .ok (.aload_n 0, 1) := by decide +kernel
theorem dW_740 : decode code 740 = .ok (.iload 4, 2) := by decide +kernel
theorem dW_742 : decode code 742 = .ok (.iconst 2, 1) := by decide +kernel
theorem dW_743 : decode code 743 = .ok (.iadd, 1) := by decide +kernel
theorem dW_744 : decode code 744 = .ok (.iaload, 1) := by decide +kernel
theorem dW_745 : decode code 745 = .ok (.invokevirtual 100, 3) := by decide +kernel
theorem dW_748 : decode code 748 = .ok (.aload_n 2, 1) := by decide +kernel
theorem dW_749 : decode code 749 = .ok (.aload_n 0, 1) := by decide +kernel
theorem dW_750 : decode code 750 = .ok (.iload 4, 2) := by decide +kernel
theorem dW_752 : decode code 752 = .ok (.iconst 1, 1) := by decide +kernel
theorem dW_753 : decode code 753 = .ok (.iadd, 1) := by decide +kernel
theorem dW_754 : decode code 754 = .ok (.iaload, 1) := by decide +kernel
theorem dW_755 : decode code 755 = .ok (.aload_n 0, 1) := by decide +kernel
theorem dW_756 : decode code 756 = .ok (.iload 4, 2) := by decide +kernel
theorem dW_758 : decode code 758 = .ok (.iconst 2, 1) := by decide +kernel
theorem dW_759 : decode code 759 = .ok (.iadd, 1) := by decide +kernel
theorem dW_760 : decode code 760 = .ok (.iaload, 1) := by decide +kernel
theorem dW_761 : decode code 761 = .ok (.invokevirtual 103, 3) := by decide +kernel
theorem dW_764 : decode code 764 = .ok (.if_icmp .eq 586, 3) := by decide +kernel
theorem dW_767 : decode code 767 = .ok (.iconst 0, 1) := by decide +kernel
theorem dW_768 : decode code 768 = .ok (.ireturn, 1) := by decide +kernel
theorem dW_769 : decode code 769 = .ok (.aload_n 1, 1) := by decide +kernel
theorem dW_770 : decode code 770 = .ok (.aload_n 0, 1) := by decide +kernel
theorem dW_771 : decode code 771 = .ok (.iload 4, 2) := by decide +kernel
theorem dW_773 : decode code 773 = .ok (.iconst 1, 1) := by decide +kernel
theorem dW_774 : decode code 774 = .ok (.iadd, 1) := by decide +kernel
theorem dW_775 : decode code 775 = .ok (.iaload, 1) := by decide +kernel
theorem dW_776 : decode code 776 = .ok (.aload_n 0, 1) := by decide +kernel
theorem dW_777 : decode code 777 = .ok (.iload 4, 2) := by decide +kernel
theorem dW_779 : decode code 779 = .ok (.iconst 2, 1) := by decide +kernel
theorem dW_780 : decode code 780 = .ok (.iadd, 1) := by decide +kernel
theorem dW_781 : decode code 781 = .ok (.iaload, 1) := by decide +kernel
theorem dW_782 : decode code 782 = .ok (.invokevirtual 104, 3) := by decide +kernel
theorem dW_785 : decode code 785 = .ok (.aload_n 2, 1) := by decide +kernel
theorem dW_786 : decode code 786 = .ok (.aload_n 0, 1) := by decide +kernel
theorem dW_787 : decode code 787 = .ok (.iload 4, 2) := by decide +kernel
theorem dW_789 : decode code 789 = .ok (.iconst 1, 1) := by decide +kernel
theorem dW_790 : decode code 790 = .ok (.iadd, 1) := by decide +kernel
theorem dW_791 : decode code 791 = .ok (.iaload, 1) := by decide +kernel
theorem dW_792 : decode code 792 = .ok (.aload_n 0, 1) := by decide +kernel
theorem dW_793 : decode code 793 = .ok (.iload 4, 2) := by decide +kernel
theorem dW_795 : decode code 795 = .ok (.iconst 2, 1) := by decide +kernel
theorem dW_796 : decode code 796 = .ok (.iadd, 1) := by decide +kernel
theorem dW_797 : decode code 797 = .ok (.iaload, 1) := by decide +kernel
theorem dW_798 : decode code 798 = .ok (.invokevirtual 107, 3) := by decide +kernel
theorem dW_801 : decode code 801 = .ok (.if_icmp .eq 549, 3) := by decide +kernel
theorem dW_804 : decode code 804 = .ok (.iconst 0, 1) := by decide +kernel
theorem dW_805 : decode code 805 = .ok (.ireturn, 1) := by decide +kernel
theorem dW_806 : decode code 806 = .ok (.aload_n 1, 1) := by decide +kernel
theorem dW_807 : decode code 807 = .ok (.invokevirtual 108, 3) := by decide +kernel
theorem dW_810 : decode code 810 = .ok (.aload_n 2, 1) := by decide +kernel
theorem dW_811 : decode code 811 = .ok (.invokevirtual 111, 3) := by decide +kernel
theorem dW_814 : decode code 814 = .ok (.if_icmp .eq 536, 3) := by decide +kernel
theorem dW_817 : decode code 817 = .ok (.iconst 0, 1) := by decide +kernel
theorem dW_818 : decode code 818 = .ok (.ireturn, 1) := by decide +kernel
theorem dW_819 : decode code 819 = .ok (.aload_n 1, 1) := by decide +kernel
theorem dW_820 : decode code 820 = .ok (.invokevirtual 112, 3) := by decide +kernel
theorem dW_823 : decode code 823 = .ok (.aload_n 2, 1) := by decide +kernel
theorem dW_824 : decode code 824 = .ok (.invokevirtual 115, 3) := by decide +kernel
theorem dW_827 : decode code 827 = .ok (.if_icmp .eq 523, 3) := by decide +kernel
theorem dW_830 : decode code 830 = .ok (.iconst 0, 1) := by decide +kernel
theorem dW_831 : decode code 831 = .ok (.ireturn, 1) := by decide +kernel
theorem dW_832 : decode code 832 = .ok (.aload_n 1, 1) := by decide +kernel
theorem dW_833 : decode code 833 = .ok (.aload_n 0, 1) := by decide +kernel
theorem dW_834 : decode code 834 = .ok (.iload 4, 2) := by decide +kernel
theorem dW_836 : decode code 836 = .ok (.iconst 1, 1) := by decide +kernel
theorem dW_837 : decode code 837 = .ok (.iadd, 1) := by decide +kernel
theorem dW_838 : decode code 838 = .ok (.iaload, 1) := by decide +kernel
theorem dW_839 : decode code 839 = .ok (.aload_n 0, 1) := by decide +kernel
theorem dW_840 : decode code 840 = .ok (.iload 4, 2) := by decide +kernel
theorem dW_842 : decode code 842 = .ok (.iconst 2, 1) := by decide +kernel
theorem dW_843 : decode code 843 = .ok (.iadd, 1) := by decide +kernel
theorem dW_844 : decode code 844 = .ok (.iaload, 1) := by decide +kernel
theorem dW_845 : decode code 845 = .ok (.invokevirtual 116, 3) := by decide +kernel
theorem dW_848 : decode code 848 = .ok (.aload_n 2, 1) := by decide +kernel
theorem dW_849 : decode code 849 = .ok (.aload_n 0, 1) := by decide +kernel
theorem dW_850 : decode code 850 = .ok (.iload 4, 2) := by decide +kernel
theorem dW_852 : decode code 852 = .ok (.iconst 1, 1) := by decide +kernel
theorem dW_853 : decode code 853 = .ok (.iadd, 1) := by decide +kernel
theorem dW_854 : decode code 854 = .ok (.iaload, 1) := by decide +kernel
theorem dW_855 : decode code 855 = .ok (.aload_n 0, 1) := by decide +kernel
theorem dW_856 : decode code 856 = .ok (.iload 4, 2) := by decide +kernel
theorem dW_858 : decode code 858 = .ok (.iconst 2, 1) := by decide +kernel
theorem dW_859 : decode code 859 = .ok (.iadd, 1) := by decide +kernel
theorem dW_860 : decode code 860 = .ok (.iaload, 1) := by decide +kernel
theorem dW_861 : decode code 861 = .ok (.invokevirtual 119, 3) := by decide +kernel
theorem dW_864 : decode code 864 = .ok (.if_icmp .eq 486, 3) := by decide +kernel
theorem dW_867 : decode code 867 = .ok (.iconst 0, 1) := by decide +kernel
theorem dW_868 : decode code 868 = .ok (.ireturn, 1) := by decide +kernel
theorem dW_869 : decode code 869 = .ok (.aload_n 1, 1) := by decide +kernel
theorem dW_870 : decode code 870 = .ok (.aload_n 0, 1) := by decide +kernel
theorem dW_871 : decode code 871 = .ok (.iload 4, 2) := by decide +kernel
theorem dW_873 : decode code 873 = .ok (.iconst 1, 1) := by decide +kernel
theorem dW_874 : decode code 874 = .ok (.iadd, 1) := by decide +kernel
theorem dW_875 : decode code 875 = .ok (.iaload, 1) := by decide +kernel
theorem dW_876 : decode code 876 = .ok (.invokevirtual 120, 3) := by decide +kernel
theorem dW_879 : decode code 879 = .ok (.aload_n 2, 1) := by decide +kernel
theorem dW_880 : decode code 880 = .ok (.aload_n 0, 1) := by decide +kernel
theorem dW_881 : decode code 881 = .ok (.iload 4, 2) := by decide +kernel
theorem dW_883 : decode code 883 = .ok (.iconst 1, 1) := by decide +kernel
theorem dW_884 : decode code 884 = .ok (.iadd, 1) := by decide +kernel
theorem dW_885 : decode code 885 = .ok (.iaload, 1) := by decide +kernel
theorem dW_886 : decode code 886 = .ok (.invokevirtual 123, 3) := by decide +kernel
theorem dW_889 : decode code 889 = .ok (.if_icmp .eq 461, 3) := by decide +kernel
theorem dW_892 : decode code 892 = .ok (.iconst 0, 1) := by decide +kernel
theorem dW_893 : decode code 893 = .ok (.ireturn, 1) := by decide +kernel
theorem dW_894 : decode code 894 = .ok (.aload_n 1, 1) := by decide +kernel
theorem dW_895 : decode code 895 = .ok (.aload_n 0, 1) := by decide +kernel
theorem dW_896 : decode code 896 = .ok (.iload 4, 2) := by decide +kernel
theorem dW_898 : decode code 898 = .ok (.iconst 1, 1) := by decide +kernel
theorem dW_899 : decode code 899 = .ok (.iadd, 1) := by decide +kernel
theorem dW_900 : decode code 900 = .ok (.iaload, 1) := by decide +kernel
theorem dW_901 : decode code 901 = .ok (.aload_n 0, 1) := by decide +kernel
theorem dW_902 : decode code 902 = .ok (.iload 4, 2) := by decide +kernel
theorem dW_904 : decode code 904 = .ok (.iconst 2, 1) := by decide +kernel
theorem dW_905 : decode code 905 = .ok (.iadd, 1) := by decide +kernel
theorem dW_906 : decode code 906 = .ok (.iaload, 1) := by decide +kernel
theorem dW_907 : decode code 907 = .ok (.invokevirtual 124, 3) := by decide +kernel
theorem dW_910 : decode code 910 = .ok (.aload_n 2, 1) := by decide +kernel
theorem dW_911 : decode code 911 = .ok (.aload_n 0, 1) := by decide +kernel
theorem dW_912 : decode code 912 = .ok (.iload 4, 2) := by decide +kernel
theorem dW_914 : decode code 914 = .ok (.iconst 1, 1) := by decide +kernel
theorem dW_915 : decode code 915 = .ok (.iadd, 1) := by decide +kernel
theorem dW_916 : decode code 916 = .ok (.iaload, 1) := by decide +kernel
theorem dW_917 : decode code 917 = .ok (.aload_n 0, 1) := by decide +kernel
theorem dW_918 : decode code 918 = .ok (.iload 4, 2) := by decide +kernel
theorem dW_920 : decode code 920 = .ok (.iconst 2, 1) := by decide +kernel
theorem dW_921 : decode code 921 = .ok (.iadd, 1) := by decide +kernel
theorem dW_922 : decode code 922 = .ok (.iaload, 1) := by decide +kernel
theorem dW_923 : decode code 923 = .ok (.invokevirtual 127, 3) := by decide +kernel
theorem dW_926 : decode code 926 = .ok (.if_icmp .eq 424, 3) := by decide +kernel
theorem dW_929 : decode code 929 = .ok (.iconst 0, 1) := by decide +kernel
theorem dW_930 : decode code 930 = .ok (.ireturn, 1) := by decide +kernel
theorem dW_931 : decode code 931 = .ok (.aload_n 1, 1) := by decide +kernel
theorem dW_932 : decode code 932 = .ok (.invokevirtual 128, 3) := by decide +kernel
theorem dW_935 : decode code 935 = .ok (.aload_n 2, 1) := by decide +kernel
theorem dW_936 : decode code 936 = .ok (.invokevirtual 131, 3) := by decide +kernel
theorem dW_939 : decode code 939 = .ok (.if_icmp .eq 411, 3) := by decide +kernel
theorem dW_942 : decode code 942 = .ok (.iconst 0, 1) := by decide +kernel
theorem dW_943 : decode code 943 = .ok (.ireturn, 1) := by decide +kernel
theorem dW_944 : decode code 944 = .ok (.aload_n 1, 1) := by decide +kernel
theorem dW_945 : decode code 945 = .ok (.invokevirtual 132, 3) := by decide +kernel
theorem dW_948 : decode code 948 = .ok (.aload_n 2, 1) := by decide +kernel
theorem dW_949 : decode code 949 = .ok (.invokevirtual 135, 3) := by decide +kernel
theorem dW_952 : decode code 952 = .ok (.if_icmp .eq 398, 3) := by decide +kernel
theorem dW_955 : decode code 955 = .ok (.iconst 0, 1) := by decide +kernel
theorem dW_956 : decode code 956 = .ok (.ireturn, 1) := by decide +kernel
theorem dW_957 : decode code 957 = .ok (.aload_n 1, 1) := by decide +kernel
theorem dW_958 : decode code 958 = .ok (.invokevirtual 136, 3) := by decide +kernel
theorem dW_961 : decode code 961 = .ok (.aload_n 2, 1) := by decide +kernel
theorem dW_962 : decode code 962 = .ok (.invokevirtual 139, 3) := by decide +kernel
theorem dW_965 : decode code 965 = .ok (.if_icmp .eq 385, 3) := by decide +kernel
theorem dW_968 : decode code 968 = .ok (.iconst 0, 1) := by decide +kernel
theorem dW_969 : decode code 969 = .ok (.ireturn, 1) := by decide +kernel
theorem dW_970 : decode code 970 = .ok (.aload_n 1, 1) := by decide +kernel
theorem dW_971 : decode code 971 = .ok (.aload_n 0, 1) := by decide +kernel
theorem dW_972 : decode code 972 = .ok (.iload 4, 2) := by decide +kernel
theorem dW_974 : decode code 974 = .ok (.iconst 1, 1) := by decide +kernel
theorem dW_975 : decode code 975 = .ok (.iadd, 1) := by decide +kernel
theorem dW_976 : decode code 976 = .ok (.iaload, 1) := by decide +kernel
theorem dW_977 : decode code 977 = .ok (.invokevirtual 140, 3) := by decide +kernel
theorem dW_980 : decode code 980 = .ok (.aload_n 2, 1) := by decide +kernel
theorem dW_981 : decode code 981 = .ok (.aload_n 0, 1) := by decide +kernel
theorem dW_982 : decode code 982 = .ok (.iload 4, 2) := by decide +kernel
theorem dW_984 : decode code 984 = .ok (.iconst 1, 1) := by decide +kernel
theorem dW_985 : decode code 985 = .ok (.iadd, 1) := by decide +kernel
theorem dW_986 : decode code 986 = .ok (.iaload, 1) := by decide +kernel
theorem dW_987 : decode code 987 = .ok (.invokevirtual 143, 3) := by decide +kernel
theorem dW_990 : decode code 990 = .ok (.if_icmp .eq 360, 3) := by decide +kernel
theorem dW_993 : decode code 993 = .ok (.iconst 0, 1) := by decide +kernel
theorem dW_994 : decode code 994 = .ok (.ireturn, 1) := by decide +kernel
theorem dW_995 : decode code 995 = .ok (.aload_n 1, 1) := by decide +kernel
theorem dW_996 : decode code 996 = .ok (.aload_n 0, 1) := by decide +kernel
theorem dW_997 : decode code 997 = .ok (.iload 4, 2) := by decide +kernel
theorem dW_999 : decode code 999 = .ok (.iconst 1, 1) := by decide +kernel
theorem dW_1000 : decode code 1000 = .ok (.iadd, 1) := by decide +kernel
theorem dW_1001 : decode code 1001 = .ok (.iaload, 1) := by decide +kernel
theorem dW_1002 : decode code 1002 = .ok (.aload_n 3, 1) := by decide +kernel
theorem dW_1003 : decode code 1003 = .ok (.invokestatic 144, 3) := by decide +kernel
theorem dW_1006 : decode code 1006 = .ok (.istore 5, 2) := by decide +kernel
theorem dW_1008 : decode code 1008 = .ok (.aload_n 2, 1) := by decide +kernel
theorem dW_1009 : decode code 1009 = .ok (.aload_n 0, 1) := by decide +kernel
theorem dW_1010 : decode code 1010 = .ok (.iload 4, 2) := by decide +kernel
theorem dW_1012 : decode code 1012 = .ok (.iconst 1, 1) := by decide +kernel
theorem dW_1013 : decode code 1013 = .ok (.iadd, 1) := by decide +kernel
theorem dW_1014 : decode code 1014 = .ok (.iaload, 1) := by decide +kernel
theorem dW_1015 : decode code 1015 = .ok (.invokevirtual 147, 3) := by decide +kernel
theorem dW_1018 : decode code 1018 = .ok (.istore 6, 2) := by decide +kernel
theorem dW_1020 : decode code 1020 = .ok (.aload_n 2, 1) := by decide +kernel
theorem dW_1021 : decode code 1021 = .ok (.invokevirtual 48, 3) := by decide +kernel
theorem dW_1024 : decode code 1024 = .ok (.iload 5, 2) := by decide +kernel
theorem dW_1026 : decode code 1026 = .ok (.if_icmp .eq 5, 3) := by decide +kernel
theorem dW_1029 : decode code 1029 = .ok (.iconst 0, 1) := by decide +kernel
theorem dW_1030 : decode code 1030 = .ok (.ireturn, 1) := by decide +kernel
theorem dW_1031 : decode code 1031 = .ok (.iload 5, 2) := by decide +kernel
theorem dW_1033 : decode code 1033 = .ok (.ifCond .ne 15, 3) := by decide +kernel
theorem dW_1036 : decode code 1036 = .ok (.aload_n 3, 1) := by decide +kernel
theorem dW_1037 : decode code 1037 = .ok (.iconst 0, 1) := by decide +kernel
theorem dW_1038 : decode code 1038 = .ok (.laload, 1) := by decide +kernel
theorem dW_1039 : decode code 1039 = .ok (.iload 6, 2) := by decide +kernel
theorem dW_1041 : decode code 1041 = .ok (.i2l, 1) := by decide +kernel
theorem dW_1042 : decode code 1042 = .ok (.lcmp, 1) := by decide +kernel
theorem dW_1043 : decode code 1043 = .ok (.ifCond .eq 5, 3) := by decide +kernel
theorem dW_1046 : decode code 1046 = .ok (.iconst 0, 1) := by decide +kernel
theorem dW_1047 : decode code 1047 = .ok (.ireturn, 1) := by decide +kernel
theorem dW_1048 : decode code 1048 = .ok (.goto 302, 3) := by decide +kernel
theorem dW_1051 : decode code 1051 = .ok (.aload_n 1, 1) := by decide +kernel
theorem dW_1052 : decode code 1052 = .ok (.aload_n 0, 1) := by decide +kernel
theorem dW_1053 : decode code 1053 = .ok (.iload 4, 2) := by decide +kernel
theorem dW_1055 : decode code 1055 = .ok (.iconst 1, 1) := by decide +kernel
theorem dW_1056 : decode code 1056 = .ok (.iadd, 1) := by decide +kernel
theorem dW_1057 : decode code 1057 = .ok (.iaload, 1) := by decide +kernel
theorem dW_1058 : decode code 1058 = .ok (.invokevirtual 148, 3) := by decide +kernel
theorem dW_1061 : decode code 1061 = .ok (.aload_n 2, 1) := by decide +kernel
theorem dW_1062 : decode code 1062 = .ok (.aload_n 0, 1) := by decide +kernel
theorem dW_1063 : decode code 1063 = .ok (.iload 4, 2) := by decide +kernel
theorem dW_1065 : decode code 1065 = .ok (.iconst 1, 1) := by decide +kernel
theorem dW_1066 : decode code 1066 = .ok (.iadd, 1) := by decide +kernel
theorem dW_1067 : decode code 1067 = .ok (.iaload, 1) := by decide +kernel
theorem dW_1068 : decode code 1068 = .ok (.invokevirtual 151, 3) := by decide +kernel
theorem dW_1071 : decode code 1071 = .ok (.if_icmp .eq 279, 3) := by decide +kernel
theorem dW_1074 : decode code 1074 = .ok (.iconst 0, 1) := by decide +kernel
theorem dW_1075 : decode code 1075 = .ok (.ireturn, 1) := by decide +kernel
theorem dW_1076 : decode code 1076 = .ok (.aload_n 1, 1) := by decide +kernel
theorem dW_1077 : decode code 1077 = .ok (.aload_n 0, 1) := by decide +kernel
theorem dW_1078 : decode code 1078 = .ok (.iload 4, 2) := by decide +kernel
theorem dW_1080 : decode code 1080 = .ok (.iconst 1, 1) := by decide +kernel
theorem dW_1081 : decode code 1081 = .ok (.iadd, 1) := by decide +kernel
theorem dW_1082 : decode code 1082 = .ok (.iaload, 1) := by decide +kernel
theorem dW_1083 : decode code 1083 = .ok (.invokevirtual 152, 3) := by decide +kernel
theorem dW_1086 : decode code 1086 = .ok (.aload_n 2, 1) := by decide +kernel
theorem dW_1087 : decode code 1087 = .ok (.aload_n 0, 1) := by decide +kernel
theorem dW_1088 : decode code 1088 = .ok (.iload 4, 2) := by decide +kernel
theorem dW_1090 : decode code 1090 = .ok (.iconst 1, 1) := by decide +kernel
theorem dW_1091 : decode code 1091 = .ok (.iadd, 1) := by decide +kernel
theorem dW_1092 : decode code 1092 = .ok (.iaload, 1) := by decide +kernel
theorem dW_1093 : decode code 1093 = .ok (.invokevirtual 155, 3) := by decide +kernel
theorem dW_1096 : decode code 1096 = .ok (.if_icmp .eq 254, 3) := by decide +kernel
theorem dW_1099 : decode code 1099 = .ok (.iconst 0, 1) := by decide +kernel
theorem dW_1100 : decode code 1100 = .ok (.ireturn, 1) := by decide +kernel
theorem dW_1101 : decode code 1101 = .ok (.aload_n 1, 1) := by decide +kernel
theorem dW_1102 : decode code 1102 = .ok (.aload_n 0, 1) := by decide +kernel
theorem dW_1103 : decode code 1103 = .ok (.iload 4, 2) := by decide +kernel
theorem dW_1105 : decode code 1105 = .ok (.iconst 1, 1) := by decide +kernel
theorem dW_1106 : decode code 1106 = .ok (.iadd, 1) := by decide +kernel
theorem dW_1107 : decode code 1107 = .ok (.iaload, 1) := by decide +kernel
theorem dW_1108 : decode code 1108 = .ok (.aload_n 0, 1) := by decide +kernel
theorem dW_1109 : decode code 1109 = .ok (.iload 4, 2) := by decide +kernel
theorem dW_1111 : decode code 1111 = .ok (.iconst 2, 1) := by decide +kernel
theorem dW_1112 : decode code 1112 = .ok (.iadd, 1) := by decide +kernel
theorem dW_1113 : decode code 1113 = .ok (.iaload, 1) := by decide +kernel
theorem dW_1114 : decode code 1114 = .ok (.invokevirtual 156, 3) := by decide +kernel
theorem dW_1117 : decode code 1117 = .ok (.aload_n 2, 1) := by decide +kernel
theorem dW_1118 : decode code 1118 = .ok (.aload_n 0, 1) := by decide +kernel
theorem dW_1119 : decode code 1119 = .ok (.iload 4, 2) := by decide +kernel
theorem dW_1121 : decode code 1121 = .ok (.iconst 1, 1) := by decide +kernel
theorem dW_1122 : decode code 1122 = .ok (.iadd, 1) := by decide +kernel
theorem dW_1123 : decode code 1123 = .ok (.iaload, 1) := by decide +kernel
theorem dW_1124 : decode code 1124 = .ok (.aload_n 0, 1) := by decide +kernel
theorem dW_1125 : decode code 1125 = .ok (.iload 4, 2) := by decide +kernel
theorem dW_1127 : decode code 1127 = .ok (.iconst 2, 1) := by decide +kernel
theorem dW_1128 : decode code 1128 = .ok (.iadd, 1) := by decide +kernel
theorem dW_1129 : decode code 1129 = .ok (.iaload, 1) := by decide +kernel
theorem dW_1130 : decode code 1130 = .ok (.invokevirtual 159, 3) := by decide +kernel
theorem dW_1133 : decode code 1133 = .ok (.if_icmp .eq 217, 3) := by decide +kernel
theorem dW_1136 : decode code 1136 = .ok (.iconst 0, 1) := by decide +kernel
theorem dW_1137 : decode code 1137 = .ok (.ireturn, 1) := by decide +kernel
theorem dW_1138 : decode code 1138 = .ok (.aload_n 1, 1) := by decide +kernel
theorem dW_1139 : decode code 1139 = .ok (.aload_n 0, 1) := by decide +kernel
theorem dW_1140 : decode code 1140 = .ok (.iload 4, 2) := by decide +kernel
theorem dW_1142 : decode code 1142 = .ok (.iconst 1, 1) := by decide +kernel
theorem dW_1143 : decode code 1143 = .ok (.iadd, 1) := by decide +kernel
theorem dW_1144 : decode code 1144 = .ok (.iaload, 1) := by decide +kernel
theorem dW_1145 : decode code 1145 = .ok (.aload_n 0, 1) := by decide +kernel
theorem dW_1146 : decode code 1146 = .ok (.iload 4, 2) := by decide +kernel
theorem dW_1148 : decode code 1148 = .ok (.iconst 2, 1) := by decide +kernel
theorem dW_1149 : decode code 1149 = .ok (.iadd, 1) := by decide +kernel
theorem dW_1150 : decode code 1150 = .ok (.iaload, 1) := by decide +kernel
theorem dW_1151 : decode code 1151 = .ok (.aload_n 0, 1) := by decide +kernel
theorem dW_1152 : decode code 1152 = .ok (.iload 4, 2) := by decide +kernel
theorem dW_1154 : decode code 1154 = .ok (.iconst 3, 1) := by decide +kernel
theorem dW_1155 : decode code 1155 = .ok (.iadd, 1) := by decide +kernel
theorem dW_1156 : decode code 1156 = .ok (.iaload, 1) := by decide +kernel
theorem dW_1157 : decode code 1157 = .ok (.invokevirtual 160, 3) := by decide +kernel
theorem dW_1160 : decode code 1160 = .ok (.aload_n 2, 1) := by decide +kernel
theorem dW_1161 : decode code 1161 = .ok (.aload_n 0, 1) := by decide +kernel
theorem dW_1162 : decode code 1162 = .ok (.iload 4, 2) := by decide +kernel
theorem dW_1164 : decode code 1164 = .ok (.iconst 1, 1) := by decide +kernel
theorem dW_1165 : decode code 1165 = .ok (.iadd, 1) := by decide +kernel
theorem dW_1166 : decode code 1166 = .ok (.iaload, 1) := by decide +kernel
theorem dW_1167 : decode code 1167 = .ok (.aload_n 0, 1) := by decide +kernel
theorem dW_1168 : decode code 1168 = .ok (.iload 4, 2) := by decide +kernel
theorem dW_1170 : decode code 1170 = .ok (.iconst 2, 1) := by decide +kernel
theorem dW_1171 : decode code 1171 = .ok (.iadd, 1) := by decide +kernel
theorem dW_1172 : decode code 1172 = .ok (.iaload, 1) := by decide +kernel
theorem dW_1173 : decode code 1173 = .ok (.aload_n 0, 1) := by decide +kernel
theorem dW_1174 : decode code 1174 = .ok (.iload 4, 2) := by decide +kernel
theorem dW_1176 : decode code 1176 = .ok (.iconst 3, 1) := by decide +kernel
theorem dW_1177 : decode code 1177 = .ok (.iadd, 1) := by decide +kernel
theorem dW_1178 : decode code 1178 = .ok (.iaload, 1) := by decide +kernel
theorem dW_1179 : decode code 1179 = .ok (.invokevirtual 163, 3) := by decide +kernel
theorem dW_1182 : decode code 1182 = .ok (.if_icmp .eq 168, 3) := by decide +kernel
theorem dW_1185 : decode code 1185 = .ok (.iconst 0, 1) := by decide +kernel
theorem dW_1186 : decode code 1186 = .ok (.ireturn, 1) := by decide +kernel
theorem dW_1187 : decode code 1187 = .ok (.aload_n 1, 1) := by decide +kernel
theorem dW_1188 : decode code 1188 = .ok (.aload_n 0, 1) := by decide +kernel
theorem dW_1189 : decode code 1189 = .ok (.iload 4, 2) := by decide +kernel
theorem dW_1191 : decode code 1191 = .ok (.iconst 1, 1) := by decide +kernel
theorem dW_1192 : decode code 1192 = .ok (.iadd, 1) := by decide +kernel
theorem dW_1193 : decode code 1193 = .ok (.iaload, 1) := by decide +kernel
theorem dW_1194 : decode code 1194 = .ok (.invokevirtual 164, 3) := by decide +kernel
theorem dW_1197 : decode code 1197 = .ok (.aload_n 2, 1) := by decide +kernel
theorem dW_1198 : decode code 1198 = .ok (.aload_n 0, 1) := by decide +kernel
theorem dW_1199 : decode code 1199 = .ok (.iload 4, 2) := by decide +kernel
theorem dW_1201 : decode code 1201 = .ok (.iconst 1, 1) := by decide +kernel
theorem dW_1202 : decode code 1202 = .ok (.iadd, 1) := by decide +kernel
theorem dW_1203 : decode code 1203 = .ok (.iaload, 1) := by decide +kernel
theorem dW_1204 : decode code 1204 = .ok (.invokevirtual 167, 3) := by decide +kernel
theorem dW_1207 : decode code 1207 = .ok (.if_icmp .eq 143, 3) := by decide +kernel
theorem dW_1210 : decode code 1210 = .ok (.iconst 0, 1) := by decide +kernel
theorem dW_1211 : decode code 1211 = .ok (.ireturn, 1) := by decide +kernel
theorem dW_1212 : decode code 1212 = .ok (.aload_n 1, 1) := by decide +kernel
theorem dW_1213 : decode code 1213 = .ok (.aload_n 0, 1) := by decide +kernel
theorem dW_1214 : decode code 1214 = .ok (.iload 4, 2) := by decide +kernel
theorem dW_1216 : decode code 1216 = .ok (.iconst 1, 1) := by decide +kernel
theorem dW_1217 : decode code 1217 = .ok (.iadd, 1) := by decide +kernel
theorem dW_1218 : decode code 1218 = .ok (.iaload, 1) := by decide +kernel
theorem dW_1219 : decode code 1219 = .ok (.invokevirtual 168, 3) := by decide +kernel
theorem dW_1222 : decode code 1222 = .ok (.aload_n 2, 1) := by decide +kernel
theorem dW_1223 : decode code 1223 = .ok (.aload_n 0, 1) := by decide +kernel
theorem dW_1224 : decode code 1224 = .ok (.iload 4, 2) := by decide +kernel
theorem dW_1226 : decode code 1226 = .ok (.iconst 1, 1) := by decide +kernel
theorem dW_1227 : decode code 1227 = .ok (.iadd, 1) := by decide +kernel
theorem dW_1228 : decode code 1228 = .ok (.iaload, 1) := by decide +kernel
theorem dW_1229 : decode code 1229 = .ok (.invokevirtual 171, 3) := by decide +kernel
theorem dW_1232 : decode code 1232 = .ok (.if_icmp .eq 118, 3) := by decide +kernel
theorem dW_1235 : decode code 1235 = .ok (.iconst 0, 1) := by decide +kernel
theorem dW_1236 : decode code 1236 = .ok (.ireturn, 1) := by decide +kernel
theorem dW_1237 : decode code 1237 = .ok (.aload_n 1, 1) := by decide +kernel
theorem dW_1238 : decode code 1238 = .ok (.invokevirtual 172, 3) := by decide +kernel
theorem dW_1241 : decode code 1241 = .ok (.aload_n 2, 1) := by decide +kernel
theorem dW_1242 : decode code 1242 = .ok (.invokevirtual 175, 3) := by decide +kernel
theorem dW_1245 : decode code 1245 = .ok (.if_icmp .eq 105, 3) := by decide +kernel
theorem dW_1248 : decode code 1248 = .ok (.iconst 0, 1) := by decide +kernel
theorem dW_1249 : decode code 1249 = .ok (.ireturn, 1) := by decide +kernel
theorem dW_1250 : decode code 1250 = .ok (.aload_n 1, 1) := by decide +kernel
theorem dW_1251 : decode code 1251 = .ok (.aload_n 0, 1) := by decide +kernel
theorem dW_1252 : decode code 1252 = .ok (.iload 4, 2) := by decide +kernel
theorem dW_1254 : decode code 1254 = .ok (.iconst 1, 1) := by decide +kernel
theorem dW_1255 : decode code 1255 = .ok (.iadd, 1) := by decide +kernel
theorem dW_1256 : decode code 1256 = .ok (.iaload, 1) := by decide +kernel
theorem dW_1257 : decode code 1257 = .ok (.invokevirtual 176, 3) := by decide +kernel
theorem dW_1260 : decode code 1260 = .ok (.aload_n 2, 1) := by decide +kernel
theorem dW_1261 : decode code 1261 = .ok (.aload_n 0, 1) := by decide +kernel
theorem dW_1262 : decode code 1262 = .ok (.iload 4, 2) := by decide +kernel
theorem dW_1264 : decode code 1264 = .ok (.iconst 1, 1) := by decide +kernel
theorem dW_1265 : decode code 1265 = .ok (.iadd, 1) := by decide +kernel
theorem dW_1266 : decode code 1266 = .ok (.iaload, 1) := by decide +kernel
theorem dW_1267 : decode code 1267 = .ok (.invokevirtual 179, 3) := by decide +kernel
theorem dW_1270 : decode code 1270 = .ok (.if_icmp .eq 80, 3) := by decide +kernel
theorem dW_1273 : decode code 1273 = .ok (.iconst 0, 1) := by decide +kernel
theorem dW_1274 : decode code 1274 = .ok (.ireturn, 1) := by decide +kernel
theorem dW_1275 : decode code 1275 = .ok (.aload_n 1, 1) := by decide +kernel
theorem dW_1276 : decode code 1276 = .ok (.aload_n 0, 1) := by decide +kernel
theorem dW_1277 : decode code 1277 = .ok (.iload 4, 2) := by decide +kernel
theorem dW_1279 : decode code 1279 = .ok (.iconst 1, 1) := by decide +kernel
theorem dW_1280 : decode code 1280 = .ok (.iadd, 1) := by decide +kernel
theorem dW_1281 : decode code 1281 = .ok (.iaload, 1) := by decide +kernel
theorem dW_1282 : decode code 1282 = .ok (.invokevirtual 180, 3) := by decide +kernel
theorem dW_1285 : decode code 1285 = .ok (.aload_n 2, 1) := by decide +kernel
theorem dW_1286 : decode code 1286 = .ok (.aload_n 0, 1) := by decide +kernel
theorem dW_1287 : decode code 1287 = .ok (.iload 4, 2) := by decide +kernel
theorem dW_1289 : decode code 1289 = .ok (.iconst 1, 1) := by decide +kernel
theorem dW_1290 : decode code 1290 = .ok (.iadd, 1) := by decide +kernel
theorem dW_1291 : decode code 1291 = .ok (.iaload, 1) := by decide +kernel
theorem dW_1292 : decode code 1292 = .ok (.invokevirtual 183, 3) := by decide +kernel
theorem dW_1295 : decode code 1295 = .ok (.if_icmp .eq 55, 3) := by decide +kernel
theorem dW_1298 : decode code 1298 = .ok (.iconst 0, 1) := by decide +kernel
theorem dW_1299 : decode code 1299 = .ok (.ireturn, 1) := by decide +kernel
theorem dW_1300 : decode code 1300 = .ok (.aload_n 1, 1) := by decide +kernel
theorem dW_1301 : decode code 1301 = .ok (.aload_n 0, 1) := by decide +kernel
theorem dW_1302 : decode code 1302 = .ok (.iload 4, 2) := by decide +kernel
theorem dW_1304 : decode code 1304 = .ok (.iconst 1, 1) := by decide +kernel
theorem dW_1305 : decode code 1305 = .ok (.iadd, 1) := by decide +kernel
theorem dW_1306 : decode code 1306 = .ok (.iaload, 1) := by decide +kernel
theorem dW_1307 : decode code 1307 = .ok (.invokevirtual 184, 3) := by decide +kernel
theorem dW_1310 : decode code 1310 = .ok (.aload_n 2, 1) := by decide +kernel
theorem dW_1311 : decode code 1311 = .ok (.aload_n 0, 1) := by decide +kernel
theorem dW_1312 : decode code 1312 = .ok (.iload 4, 2) := by decide +kernel
theorem dW_1314 : decode code 1314 = .ok (.iconst 1, 1) := by decide +kernel
theorem dW_1315 : decode code 1315 = .ok (.iadd, 1) := by decide +kernel
theorem dW_1316 : decode code 1316 = .ok (.iaload, 1) := by decide +kernel
theorem dW_1317 : decode code 1317 = .ok (.invokevirtual 187, 3) := by decide +kernel
theorem dW_1320 : decode code 1320 = .ok (.if_icmp .eq 30, 3) := by decide +kernel
theorem dW_1323 : decode code 1323 = .ok (.iconst 0, 1) := by decide +kernel
theorem dW_1324 : decode code 1324 = .ok (.ireturn, 1) := by decide +kernel
theorem dW_1325 : decode code 1325 = .ok (.aload_n 1, 1) := by decide +kernel
theorem dW_1326 : decode code 1326 = .ok (.aload_n 0, 1) := by decide +kernel
theorem dW_1327 : decode code 1327 = .ok (.iload 4, 2) := by decide +kernel
theorem dW_1329 : decode code 1329 = .ok (.iconst 1, 1) := by decide +kernel
theorem dW_1330 : decode code 1330 = .ok (.iadd, 1) := by decide +kernel
theorem dW_1331 : decode code 1331 = .ok (.iaload, 1) := by decide +kernel
theorem dW_1332 : decode code 1332 = .ok (.invokevirtual 188, 3) := by decide +kernel
theorem dW_1335 : decode code 1335 = .ok (.aload_n 2, 1) := by decide +kernel
theorem dW_1336 : decode code 1336 = .ok (.aload_n 0, 1) := by decide +kernel
theorem dW_1337 : decode code 1337 = .ok (.iload 4, 2) := by decide +kernel
theorem dW_1339 : decode code 1339 = .ok (.iconst 1, 1) := by decide +kernel
theorem dW_1340 : decode code 1340 = .ok (.iadd, 1) := by decide +kernel
theorem dW_1341 : decode code 1341 = .ok (.iaload, 1) := by decide +kernel
theorem dW_1342 : decode code 1342 = .ok (.invokevirtual 191, 3) := by decide +kernel
theorem dW_1345 : decode code 1345 = .ok (.if_icmp .eq 5, 3) := by decide +kernel
theorem dW_1348 : decode code 1348 = .ok (.iconst 0, 1) := by decide +kernel
theorem dW_1349 : decode code 1349 = .ok (.ireturn, 1) := by decide +kernel
theorem dW_1350 : decode code 1350 = .ok (.iinc 4 6, 3) := by decide +kernel
theorem dW_1353 : decode code 1353 = .ok (.goto (-1330), 3) := by decide +kernel
theorem dW_1356 : decode code 1356 = .ok (.iconst 1, 1) := by decide +kernel
theorem dW_1357 : decode code 1357 = .ok (.ireturn, 1) := by decide +kernel
