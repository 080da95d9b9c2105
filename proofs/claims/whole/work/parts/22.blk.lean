/-! 0: StringHandsLaw.law.([I)Z -/
theorem c0_16 : cd 0 16 = some (.sipush 0, 1) := by decide +kernel
theorem c0_17 : cd 0 17 = some (.istore 3, 1) := by decide +kernel
theorem c0_18 : cd 0 18 = some (.iload 3, 1) := by decide +kernel
theorem c0_19 : cd 0 19 = some (.aload 0, 1) := by decide +kernel
theorem c0_20 : cd 0 20 = some (.arraylength, 1) := by decide +kernel
theorem c0_21 : cd 0 21 = some (.sipush 6, 2) := by decide +kernel
theorem c0_23 : cd 0 23 = some (.isub, 1) := by decide +kernel
theorem c0_24 : cd 0 24 = some (.if_icmp .gt 1648, 3) := by decide +kernel
theorem c0_27 : cd 0 27 = some (.aload 0, 1) := by decide +kernel
theorem c0_28 : cd 0 28 = some (.iload 3, 1) := by decide +kernel
theorem c0_29 : cd 0 29 = some (.iaload, 1) := by decide +kernel
theorem c0_30 : cd 0 30 = some (.sipush 63, 2) := by decide +kernel
theorem c0_32 : cd 0 32 = some (.iand, 1) := by decide +kernel
theorem c0_33 : cd 0 33 = some (.tableswitch 1642 0 48 #[244, 307, 330, 353, 386, 419, 442, 465, 488, 511, 534, 567, 590, 613, 646, 669, 702, 725, 758, 791, 814, 837, 860, 873, 886, 919, 942, 975, 998, 1021, 1034, 1067, 1090, 1123, 1146, 1159, 1172, 1235, 1268, 1301, 1344, 1377, 1410, 1433, 1456, 1499, 1573, 1596, 1619], 211) := by decide +kernel
theorem c0_244 : cd 0 244 = some (.aload 1, 1) := by decide +kernel
theorem c0_245 : cd 0 245 = some (.aload 0, 1) := by decide +kernel
theorem c0_246 : cd 0 246 = some (.iload 3, 1) := by decide +kernel
theorem c0_247 : cd 0 247 = some (.sipush 1, 1) := by decide +kernel
theorem c0_248 : cd 0 248 = some (.iadd, 1) := by decide +kernel
theorem c0_249 : cd 0 249 = some (.iaload, 1) := by decide +kernel
theorem c0_250 : cd 0 250 = some (.aload 0, 1) := by decide +kernel
theorem c0_251 : cd 0 251 = some (.iload 3, 1) := by decide +kernel
theorem c0_252 : cd 0 252 = some (.sipush 2, 1) := by decide +kernel
theorem c0_253 : cd 0 253 = some (.iadd, 1) := by decide +kernel
theorem c0_254 : cd 0 254 = some (.iaload, 1) := by decide +kernel
theorem c0_255 : cd 0 255 = some (.aload 0, 1) := by decide +kernel
theorem c0_256 : cd 0 256 = some (.iload 3, 1) := by decide +kernel
theorem c0_257 : cd 0 257 = some (.sipush 3, 1) := by decide +kernel
theorem c0_258 : cd 0 258 = some (.iadd, 1) := by decide +kernel
theorem c0_259 : cd 0 259 = some (.iaload, 1) := by decide +kernel
theorem c0_260 : cd 0 260 = some (.aload 0, 1) := by decide +kernel
theorem c0_261 : cd 0 261 = some (.iload 3, 1) := by decide +kernel
theorem c0_262 : cd 0 262 = some (.sipush 4, 1) := by decide +kernel
theorem c0_263 : cd 0 263 = some (.iadd, 1) := by decide +kernel
theorem c0_264 : cd 0 264 = some (.iaload, 1) := by decide +kernel
theorem c0_265 : cd 0 265 = some (.aload 0, 1) := by decide +kernel
theorem c0_266 : cd 0 266 = some (.iload 3, 1) := by decide +kernel
theorem c0_267 : cd 0 267 = some (.sipush 5, 1) := by decide +kernel
theorem c0_268 : cd 0 268 = some (.iadd, 1) := by decide +kernel
theorem c0_269 : cd 0 269 = some (.iaload, 1) := by decide +kernel
theorem c0_270 : cd 0 270 = some (.invokevirtual 1, 3) := by decide +kernel
theorem c0_273 : cd 0 273 = some (.aload 2, 1) := by decide +kernel
theorem c0_274 : cd 0 274 = some (.aload 0, 1) := by decide +kernel
theorem c0_275 : cd 0 275 = some (.iload 3, 1) := by decide +kernel
theorem c0_276 : cd 0 276 = some (.sipush 1, 1) := by decide +kernel
theorem c0_277 : cd 0 277 = some (.iadd, 1) := by decide +kernel
theorem c0_278 : cd 0 278 = some (.iaload, 1) := by decide +kernel
theorem c0_279 : cd 0 279 = some (.aload 0, 1) := by decide +kernel
theorem c0_280 : cd 0 280 = some (.iload 3, 1) := by decide +kernel
theorem c0_281 : cd 0 281 = some (.sipush 2, 1) := by decide +kernel
theorem c0_282 : cd 0 282 = some (.iadd, 1) := by decide +kernel
theorem c0_283 : cd 0 283 = some (.iaload, 1) := by decide +kernel
theorem c0_284 : cd 0 284 = some (.aload 0, 1) := by decide +kernel
theorem c0_285 : cd 0 285 = some (.iload 3, 1) := by decide +kernel
theorem c0_286 : cd 0 286 = some (.sipush 3, 1) := by decide +kernel
theorem c0_287 : cd 0 287 = some (.iadd, 1) := by decide +kernel
theorem c0_288 : cd 0 288 = some (.iaload, 1) := by decide +kernel
theorem c0_289 : cd 0 289 = some (.aload 0, 1) := by decide +kernel
theorem c0_290 : cd 0 290 = some (.iload 3, 1) := by decide +kernel
theorem c0_291 : cd 0 291 = some (.sipush 4, 1) := by decide +kernel
theorem c0_292 : cd 0 292 = some (.iadd, 1) := by decide +kernel
theorem c0_293 : cd 0 293 = some (.iaload, 1) := by decide +kernel
theorem c0_294 : cd 0 294 = some (.aload 0, 1) := by decide +kernel
theorem c0_295 : cd 0 295 = some (.iload 3, 1) := by decide +kernel
theorem c0_296 : cd 0 296 = some (.sipush 5, 1) := by decide +kernel
theorem c0_297 : cd 0 297 = some (.iadd, 1) := by decide +kernel
theorem c0_298 : cd 0 298 = some (.iaload, 1) := by decide +kernel
theorem c0_299 : cd 0 299 = some (.invokevirtual 2, 3) := by decide +kernel
theorem c0_302 : cd 0 302 = some (.if_icmp .eq 1642, 3) := by decide +kernel
theorem c0_305 : cd 0 305 = some (.sipush 0, 1) := by decide +kernel
theorem c0_306 : cd 0 306 = some (.ireturn, 1) := by decide +kernel
theorem c0_307 : cd 0 307 = some (.aload 1, 1) := by decide +kernel
theorem c0_308 : cd 0 308 = some (.aload 0, 1) := by decide +kernel
theorem c0_309 : cd 0 309 = some (.iload 3, 1) := by decide +kernel
theorem c0_310 : cd 0 310 = some (.sipush 1, 1) := by decide +kernel
theorem c0_311 : cd 0 311 = some (.iadd, 1) := by decide +kernel
theorem c0_312 : cd 0 312 = some (.iaload, 1) := by decide +kernel
theorem c0_313 : cd 0 313 = some (.invokevirtual 3, 3) := by decide +kernel
theorem c0_316 : cd 0 316 = some (.aload 2, 1) := by decide +kernel
theorem c0_317 : cd 0 317 = some (.aload 0, 1) := by decide +kernel
theorem c0_318 : cd 0 318 = some (.iload 3, 1) := by decide +kernel
theorem c0_319 : cd 0 319 = some (.sipush 1, 1) := by decide +kernel
theorem c0_320 : cd 0 320 = some (.iadd, 1) := by decide +kernel
theorem c0_321 : cd 0 321 = some (.iaload, 1) := by decide +kernel
theorem c0_322 : cd 0 322 = some (.invokevirtual 4, 3) := by decide +kernel
theorem c0_325 : cd 0 325 = some (.if_icmp .eq 1642, 3) := by decide +kernel
theorem c0_328 : cd 0 328 = some (.sipush 0, 1) := by decide +kernel
theorem c0_329 : cd 0 329 = some (.ireturn, 1) := by decide +kernel
theorem c0_330 : cd 0 330 = some (.aload 1, 1) := by decide +kernel
theorem c0_331 : cd 0 331 = some (.aload 0, 1) := by decide +kernel
theorem c0_332 : cd 0 332 = some (.iload 3, 1) := by decide +kernel
theorem c0_333 : cd 0 333 = some (.sipush 1, 1) := by decide +kernel
theorem c0_334 : cd 0 334 = some (.iadd, 1) := by decide +kernel
theorem c0_335 : cd 0 335 = some (.iaload, 1) := by decide +kernel
theorem c0_336 : cd 0 336 = some (.invokevirtual 5, 3) := by decide +kernel
theorem c0_339 : cd 0 339 = some (.aload 2, 1) := by decide +kernel
theorem c0_340 : cd 0 340 = some (.aload 0, 1) := by decide +kernel
theorem c0_341 : cd 0 341 = some (.iload 3, 1) := by decide +kernel
theorem c0_342 : cd 0 342 = some (.sipush 1, 1) := by decide +kernel
theorem c0_343 : cd 0 343 = some (.iadd, 1) := by decide +kernel
theorem c0_344 : cd 0 344 = some (.iaload, 1) := by decide +kernel
theorem c0_345 : cd 0 345 = some (.invokevirtual 6, 3) := by decide +kernel
theorem c0_348 : cd 0 348 = some (.if_icmp .eq 1642, 3) := by decide +kernel
theorem c0_351 : cd 0 351 = some (.sipush 0, 1) := by decide +kernel
theorem c0_352 : cd 0 352 = some (.ireturn, 1) := by decide +kernel
theorem c0_353 : cd 0 353 = some (.aload 1, 1) := by decide +kernel
theorem c0_354 : cd 0 354 = some (.aload 0, 1) := by decide +kernel
theorem c0_355 : cd 0 355 = some (.iload 3, 1) := by decide +kernel
theorem c0_356 : cd 0 356 = some (.sipush 1, 1) := by decide +kernel
theorem c0_357 : cd 0 357 = some (.iadd, 1) := by decide +kernel
theorem c0_358 : cd 0 358 = some (.iaload, 1) := by decide +kernel
theorem c0_359 : cd 0 359 = some (.aload 0, 1) := by decide +kernel
theorem c0_360 : cd 0 360 = some (.iload 3, 1) := by decide +kernel
theorem c0_361 : cd 0 361 = some (.sipush 2, 1) := by decide +kernel
theorem c0_362 : cd 0 362 = some (.iadd, 1) := by decide +kernel
theorem c0_363 : cd 0 363 = some (.iaload, 1) := by decide +kernel
theorem c0_364 : cd 0 364 = some (.invokevirtual 7, 3) := by decide +kernel
theorem c0_367 : cd 0 367 = some (.aload 2, 1) := by decide +kernel
theorem c0_368 : cd 0 368 = some (.aload 0, 1) := by decide +kernel
theorem c0_369 : cd 0 369 = some (.iload 3, 1) := by decide +kernel
theorem c0_370 : cd 0 370 = some (.sipush 1, 1) := by decide +kernel
theorem c0_371 : cd 0 371 = some (.iadd, 1) := by decide +kernel
theorem c0_372 : cd 0 372 = some (.iaload, 1) := by decide +kernel
theorem c0_373 : cd 0 373 = some (.aload 0, 1) := by decide +kernel
theorem c0_374 : cd 0 374 = some (.iload 3, 1) := by decide +kernel
theorem c0_375 : cd 0 375 = some (.sipush 2, 1) := by decide +kernel
theorem c0_376 : cd 0 376 = some (.iadd, 1) := by decide +kernel
theorem c0_377 : cd 0 377 = some (.iaload, 1) := by decide +kernel
theorem c0_378 : cd 0 378 = some (.invokevirtual 8, 3) := by decide +kernel
theorem c0_381 : cd 0 381 = some (.if_icmp .eq 1642, 3) := by decide +kernel
theorem c0_384 : cd 0 384 = some (.sipush 0, 1) := by decide +kernel
theorem c0_385 : cd 0 385 = some (.ireturn, 1) := by decide +kernel
theorem c0_386 : cd 0 386 = some (.aload 1, 1) := by decide +kernel
theorem c0_387 : cd 0 387 = some (.aload 0, 1) := by decide +kernel
theorem c0_388 : cd 0 388 = some (.iload 3, 1) := by decide +kernel
theorem c0_389 : cd 0 389 = some (.sipush 1, 1) := by decide +kernel
theorem c0_390 : cd 0 390 = some (.iadd, 1) := by decide +kernel
theorem c0_391 : cd 0 391 = some (.iaload, 1) := by decide +kernel
theorem c0_392 : cd 0 392 = some (.aload 0, 1) := by decide +kernel
theorem c0_393 : cd 0 393 = some (.iload 3, 1) := by decide +kernel
theorem c0_394 : cd 0 394 = some (.sipush 2, 1) := by decide +kernel
theorem c0_395 : cd 0 395 = some (.iadd, 1) := by decide +kernel
theorem c0_396 : cd 0 396 = some (.iaload, 1) := by decide +kernel
theorem c0_397 : cd 0 397 = some (.invokevirtual 9, 3) := by decide +kernel
theorem c0_400 : cd 0 400 = some (.aload 2, 1) := by decide +kernel
theorem c0_401 : cd 0 401 = some (.aload 0, 1) := by decide +kernel
theorem c0_402 : cd 0 402 = some (.iload 3, 1) := by decide +kernel
theorem c0_403 : cd 0 403 = some (.sipush 1, 1) := by decide +kernel
theorem c0_404 : cd 0 404 = some (.iadd, 1) := by decide +kernel
theorem c0_405 : cd 0 405 = some (.iaload, 1) := by decide +kernel
theorem c0_406 : cd 0 406 = some (.aload 0, 1) := by decide +kernel
theorem c0_407 : cd 0 407 = some (.iload 3, 1) := by decide +kernel
theorem c0_408 : cd 0 408 = some (.sipush 2, 1) := by decide +kernel
theorem c0_409 : cd 0 409 = some (.iadd, 1) := by decide +kernel
theorem c0_410 : cd 0 410 = some (.iaload, 1) := by decide +kernel
theorem c0_411 : cd 0 411 = some (.invokevirtual 10, 3) := by decide +kernel
theorem c0_414 : cd 0 414 = some (.if_icmp .eq 1642, 3) := by decide +kernel
theorem c0_417 : cd 0 417 = some (.sipush 0, 1) := by decide +kernel
theorem c0_418 : cd 0 418 = some (.ireturn, 1) := by decide +kernel
theorem c0_419 : cd 0 419 = some (.aload 1, 1) := by decide +kernel
theorem c0_420 : cd 0 420 = some (.aload 0, 1) := by decide +kernel
theorem c0_421 : cd 0 421 = some (.iload 3, 1) := by decide +kernel
theorem c0_422 : cd 0 422 = some (.sipush 1, 1) := by decide +kernel
theorem c0_423 : cd 0 423 = some (.iadd, 1) := by decide +kernel
theorem c0_424 : cd 0 424 = some (.iaload, 1) := by decide +kernel
theorem c0_425 : cd 0 425 = some (.invokevirtual 11, 3) := by decide +kernel
theorem c0_428 : cd 0 428 = some (.aload 2, 1) := by decide +kernel
theorem c0_429 : cd 0 429 = some (.aload 0, 1) := by decide +kernel
theorem c0_430 : cd 0 430 = some (.iload 3, 1) := by decide +kernel
theorem c0_431 : cd 0 431 = some (.sipush 1, 1) := by decide +kernel
theorem c0_432 : cd 0 432 = some (.iadd, 1) := by decide +kernel
theorem c0_433 : cd 0 433 = some (.iaload, 1) := by decide +kernel
theorem c0_434 : cd 0 434 = some (.invokevirtual 12, 3) := by decide +kernel
theorem c0_437 : cd 0 437 = some (.if_icmp .eq 1642, 3) := by decide +kernel
theorem c0_440 : cd 0 440 = some (.sipush 0, 1) := by decide +kernel
theorem c0_441 : cd 0 441 = some (.ireturn, 1) := by decide +kernel
theorem c0_442 : cd 0 442 = some (.aload 1, 1) := by decide +kernel
theorem c0_443 : cd 0 443 = some (.aload 0, 1) := by decide +kernel
theorem c0_444 : cd 0 444 = some (.iload 3, 1) := by decide +kernel
theorem c0_445 : cd 0 445 = some (.sipush 1, 1) := by decide +kernel
theorem c0_446 : cd 0 446 = some (.iadd, 1) := by decide +kernel
theorem c0_447 : cd 0 447 = some (.iaload, 1) := by decide +kernel
theorem c0_448 : cd 0 448 = some (.invokevirtual 13, 3) := by decide +kernel
theorem c0_451 : cd 0 451 = some (.aload 2, 1) := by decide +kernel
theorem c0_452 : cd 0 452 = some (.aload 0, 1) := by decide +kernel
theorem c0_453 : cd 0 453 = some (.iload 3, 1) := by decide +kernel
theorem c0_454 : cd 0 454 = some (.sipush 1, 1) := by decide +kernel
theorem c0_455 : cd 0 455 = some (.iadd, 1) := by decide +kernel
theorem c0_456 : cd 0 456 = some (.iaload, 1) := by decide +kernel
theorem c0_457 : cd 0 457 = some (.invokevirtual 14, 3) := by decide +kernel
theorem c0_460 : cd 0 460 = some (.if_icmp .eq 1642, 3) := by decide +kernel
theorem c0_463 : cd 0 463 = some (.sipush 0, 1) := by decide +kernel
theorem c0_464 : cd 0 464 = some (.ireturn, 1) := by decide +kernel
theorem c0_465 : cd 0 465 = some (.aload 1, 1) := by decide +kernel
theorem c0_466 : cd 0 466 = some (.aload 0, 1) := by decide +kernel
theorem c0_467 : cd 0 467 = some (.iload 3, 1) := by decide +kernel
theorem c0_468 : cd 0 468 = some (.sipush 1, 1) := by decide +kernel
theorem c0_469 : cd 0 469 = some (.iadd, 1) := by decide +kernel
theorem c0_470 : cd 0 470 = some (.iaload, 1) := by decide +kernel
theorem c0_471 : cd 0 471 = some (.invokevirtual 15, 3) := by decide +kernel
theorem c0_474 : cd 0 474 = some (.aload 2, 1) := by decide +kernel
theorem c0_475 : cd 0 475 = some (.aload 0, 1) := by decide +kernel
theorem c0_476 : cd 0 476 = some (.iload 3, 1) := by decide +kernel
theorem c0_477 : cd 0 477 = some (.sipush 1, 1) := by decide +kernel
theorem c0_478 : cd 0 478 = some (.iadd, 1) := by decide +kernel
theorem c0_479 : cd 0 479 = some (.iaload, 1) := by decide +kernel
theorem c0_480 : cd 0 480 = some (.invokevirtual 16, 3) := by decide +kernel
theorem c0_483 : cd 0 483 = some (.if_icmp .eq 1642, 3) := by decide +kernel
theorem c0_486 : cd 0 486 = some (.sipush 0, 1) := by decide +kernel
theorem c0_487 : cd 0 487 = some (.ireturn, 1) := by decide +kernel
theorem c0_488 : cd 0 488 = some (.aload 1, 1) := by decide +kernel
theorem c0_489 : cd 0 489 = some (.aload 0, 1) := by decide +kernel
theorem c0_490 : cd 0 490 = some (.iload 3, 1) := by decide +kernel
theorem c0_491 : cd 0 491 = some (.sipush 1, 1) := by decide +kernel
theorem c0_492 : cd 0 492 = some (.iadd, 1) := by decide +kernel
theorem c0_493 : cd 0 493 = some (.iaload, 1) := by decide +kernel
theorem c0_494 : cd 0 494 = some (.invokevirtual 17, 3) := by decide +kernel
theorem c0_497 : cd 0 497 = some (.aload 2, 1) := by decide +kernel
theorem c0_498 : cd 0 498 = some (.aload 0, 1) := by decide +kernel
theorem c0_499 : cd 0 499 = some (.iload 3, 1) := by decide +kernel
theorem c0_500 : cd 0 500 = some (.sipush 1, 1) := by decide +kernel
theorem c0_501 : cd 0 501 = some (.iadd, 1) := by decide +kernel
theorem c0_502 : cd 0 502 = some (.iaload, 1) := by decide +kernel
theorem c0_503 : cd 0 503 = some (.invokevirtual 18, 3) := by decide +kernel
theorem c0_506 : cd 0 506 = some (.if_icmp .eq 1642, 3) := by decide +kernel
theorem c0_509 : cd 0 509 = some (.sipush 0, 1) := by decide +kernel
theorem c0_510 : cd 0 510 = some (.ireturn, 1) := by decide +kernel
theorem c0_511 : cd 0 511 = some (.aload 1, 1) := by decide +kernel
theorem c0_512 : cd 0 512 = some (.aload 0, 1) := by decide +kernel
theorem c0_513 : cd 0 513 = some (.iload 3, 1) := by decide +kernel
theorem c0_514 : cd 0 514 = some (.sipush 1, 1) := by decide +kernel
theorem c0_515 : cd 0 515 = some (.iadd, 1) := by decide +kernel
theorem c0_516 : cd 0 516 = some (.iaload, 1) := by decide +kernel
theorem c0_517 : cd 0 517 = some (.invokevirtual 19, 3) := by decide +kernel
theorem c0_520 : cd 0 520 = some (.aload 2, 1) := by decide +kernel
theorem c0_521 : cd 0 521 = some (.aload 0, 1) := by decide +kernel
theorem c0_522 : cd 0 522 = some (.iload 3, 1) := by decide +kernel
theorem c0_523 : cd 0 523 = some (.sipush 1, 1) := by decide +kernel
theorem c0_524 : cd 0 524 = some (.iadd, 1) := by decide +kernel
theorem c0_525 : cd 0 525 = some (.iaload, 1) := by decide +kernel
theorem c0_526 : cd 0 526 = some (.invokevirtual 20, 3) := by decide +kernel
theorem c0_529 : cd 0 529 = some (.if_icmp .eq 1642, 3) := by decide +kernel
theorem c0_532 : cd 0 532 = some (.sipush 0, 1) := by decide +kernel
theorem c0_533 : cd 0 533 = some (.ireturn, 1) := by decide +kernel
theorem c0_534 : cd 0 534 = some (.aload 1, 1) := by decide +kernel
theorem c0_535 : cd 0 535 = some (.aload 0, 1) := by decide +kernel
theorem c0_536 : cd 0 536 = some (.iload 3, 1) := by decide +kernel
theorem c0_537 : cd 0 537 = some (.sipush 1, 1) := by decide +kernel
theorem c0_538 : cd 0 538 = some (.iadd, 1) := by decide +kernel
theorem c0_539 : cd 0 539 = some (.iaload, 1) := by decide +kernel
theorem c0_540 : cd 0 540 = some (.aload 0, 1) := by decide +kernel
theorem c0_541 : cd 0 541 = some (.iload 3, 1) := by decide +kernel
theorem c0_542 : cd 0 542 = some (.sipush 2, 1) := by decide +kernel
theorem c0_543 : cd 0 543 = some (.iadd, 1) := by decide +kernel
theorem c0_544 : cd 0 544 = some (.iaload, 1) := by decide +kernel
theorem c0_545 : cd 0 545 = some (.invokevirtual 21, 3) := by decide +kernel
theorem c0_548 : cd 0 548 = some (.aload 2, 1) := by decide +kernel
theorem c0_549 : cd 0 549 = some (.aload 0, 1) := by decide +kernel
theorem c0_550 : cd 0 550 = some (.iload 3, 1) := by decide +kernel
theorem c0_551 : cd 0 551 = some (.sipush 1, 1) := by decide +kernel
theorem c0_552 : cd 0 552 = some (.iadd, 1) := by decide +kernel
theorem c0_553 : cd 0 553 = some (.iaload, 1) := by decide +kernel
theorem c0_554 : cd 0 554 = some (.aload 0, 1) := by decide +kernel
theorem c0_555 : cd 0 555 = some (.iload 3, 1) := by decide +kernel
theorem c0_556 : cd 0 556 = some (.sipush 2, 1) := by decide +kernel
theorem c0_557 : cd 0 557 = some (.iadd, 1) := by decide +kernel
theorem c0_558 : cd 0 558 = some (.iaload, 1) := by decide +kernel
theorem c0_559 : cd 0 559 = some (.invokevirtual 22, 3) := by decide +kernel
theorem c0_562 : cd 0 562 = some (.if_icmp .eq 1642, 3) := by decide +kernel
theorem c0_565 : cd 0 565 = some (.sipush 0, 1) := by decide +kernel
theorem c0_566 : cd 0 566 = some (.ireturn, 1) := by decide +kernel
theorem c0_567 : cd 0 567 = some (.aload 1, 1) := by decide +kernel
theorem c0_568 : cd 0 568 = some (.aload 0, 1) := by decide +kernel
theorem c0_569 : cd 0 569 = some (.iload 3, 1) := by decide +kernel
theorem c0_570 : cd 0 570 = some (.sipush 1, 1) := by decide +kernel
theorem c0_571 : cd 0 571 = some (.iadd, 1) := by decide +kernel
theorem c0_572 : cd 0 572 = some (.iaload, 1) := by decide +kernel
theorem c0_573 : cd 0 573 = some (.invokevirtual 23, 3) := by decide +kernel
theorem c0_576 : cd 0 576 = some (.aload 2, 1) := by decide +kernel
theorem c0_577 : cd 0 577 = some (.aload 0, 1) := by decide +kernel
theorem c0_578 : cd 0 578 = some (.iload 3, 1) := by decide +kernel
theorem c0_579 : cd 0 579 = some (.sipush 1, 1) := by decide +kernel
theorem c0_580 : cd 0 580 = some (.iadd, 1) := by decide +kernel
theorem c0_581 : cd 0 581 = some (.iaload, 1) := by decide +kernel
theorem c0_582 : cd 0 582 = some (.invokevirtual 24, 3) := by decide +kernel
theorem c0_585 : cd 0 585 = some (.if_icmp .eq 1642, 3) := by decide +kernel
theorem c0_588 : cd 0 588 = some (.sipush 0, 1) := by decide +kernel
theorem c0_589 : cd 0 589 = some (.ireturn, 1) := by decide +kernel
theorem c0_590 : cd 0 590 = some (.aload 1, 1) := by decide +kernel
theorem c0_591 : cd 0 591 = some (.aload 0, 1) := by decide +kernel
theorem c0_592 : cd 0 592 = some (.iload 3, 1) := by decide +kernel
theorem c0_593 : cd 0 593 = some (.sipush 1, 1) := by decide +kernel
theorem c0_594 : cd 0 594 = some (.iadd, 1) := by decide +kernel
theorem c0_595 : cd 0 595 = some (.iaload, 1) := by decide +kernel
theorem c0_596 : cd 0 596 = some (.invokevirtual 25, 3) := by decide +kernel
theorem c0_599 : cd 0 599 = some (.aload 2, 1) := by decide +kernel
theorem c0_600 : cd 0 600 = some (.aload 0, 1) := by decide +kernel
theorem c0_601 : cd 0 601 = some (.iload 3, 1) := by decide +kernel
theorem c0_602 : cd 0 602 = some (.sipush 1, 1) := by decide +kernel
theorem c0_603 : cd 0 603 = some (.iadd, 1) := by decide +kernel
theorem c0_604 : cd 0 604 = some (.iaload, 1) := by decide +kernel
theorem c0_605 : cd 0 605 = some (.invokevirtual 26, 3) := by decide +kernel
theorem c0_608 : cd 0 608 = some (.if_icmp .eq 1642, 3) := by decide +kernel
theorem c0_611 : cd 0 611 = some (.sipush 0, 1) := by decide +kernel
theorem c0_612 : cd 0 612 = some (.ireturn, 1) := by decide +kernel
theorem c0_613 : cd 0 613 = some (.aload 1, 1) := by decide +kernel
theorem c0_614 : cd 0 614 = some (.aload 0, 1) := by decide +kernel
theorem c0_615 : cd 0 615 = some (.iload 3, 1) := by decide +kernel
theorem c0_616 : cd 0 616 = some (.sipush 1, 1) := by decide +kernel
theorem c0_617 : cd 0 617 = some (.iadd, 1) := by decide +kernel
theorem c0_618 : cd 0 618 = some (.iaload, 1) := by decide +kernel
theorem c0_619 : cd 0 619 = some (.aload 0, 1) := by decide +kernel
theorem c0_620 : cd 0 620 = some (.iload 3, 1) := by decide +kernel
theorem c0_621 : cd 0 621 = some (.sipush 2, 1) := by decide +kernel
theorem c0_622 : cd 0 622 = some (.iadd, 1) := by decide +kernel
theorem c0_623 : cd 0 623 = some (.iaload, 1) := by decide +kernel
theorem c0_624 : cd 0 624 = some (.invokevirtual 27, 3) := by decide +kernel
theorem c0_627 : cd 0 627 = some (.aload 2, 1) := by decide +kernel
theorem c0_628 : cd 0 628 = some (.aload 0, 1) := by decide +kernel
theorem c0_629 : cd 0 629 = some (.iload 3, 1) := by decide +kernel
theorem c0_630 : cd 0 630 = some (.sipush 1, 1) := by decide +kernel
theorem c0_631 : cd 0 631 = some (.iadd, 1) := by decide +kernel
theorem c0_632 : cd 0 632 = some (.iaload, 1) := by decide +kernel
theorem c0_633 : cd 0 633 = some (.aload 0, 1) := by decide +kernel
theorem c0_634 : cd 0 634 = some (.iload 3, 1) := by decide +kernel
theorem c0_635 : cd 0 635 = some (.sipush 2, 1) := by decide +kernel
theorem c0_636 : cd 0 636 = some (.iadd, 1) := by decide +kernel
theorem c0_637 : cd 0 637 = some (.iaload, 1) := by decide +kernel
theorem c0_638 : cd 0 638 = some (.invokevirtual 28, 3) := by decide +kernel
theorem c0_641 : cd 0 641 = some (.if_icmp .eq 1642, 3) := by decide +kernel
theorem c0_644 : cd 0 644 = some (.sipush 0, 1) := by decide +kernel
theorem c0_645 : cd 0 645 = some (.ireturn, 1) := by decide +kernel
theorem c0_646 : cd 0 646 = some (.aload 1, 1) := by decide +kernel
theorem c0_647 : cd 0 647 = some (.aload 0, 1) := by decide +kernel
theorem c0_648 : cd 0 648 = some (.iload 3, 1) := by decide +kernel
theorem c0_649 : cd 0 649 = some (.sipush 1, 1) := by decide +kernel
theorem c0_650 : cd 0 650 = some (.iadd, 1) := by decide +kernel
theorem c0_651 : cd 0 651 = some (.iaload, 1) := by decide +kernel
theorem c0_652 : cd 0 652 = some (.invokevirtual 29, 3) := by decide +kernel
theorem c0_655 : cd 0 655 = some (.aload 2, 1) := by decide +kernel
theorem c0_656 : cd 0 656 = some (.aload 0, 1) := by decide +kernel
theorem c0_657 : cd 0 657 = some (.iload 3, 1) := by decide +kernel
theorem c0_658 : cd 0 658 = some (.sipush 1, 1) := by decide +kernel
theorem c0_659 : cd 0 659 = some (.iadd, 1) := by decide +kernel
theorem c0_660 : cd 0 660 = some (.iaload, 1) := by decide +kernel
theorem c0_661 : cd 0 661 = some (.invokevirtual 30, 3) := by decide +kernel
theorem c0_664 : cd 0 664 = some (.if_icmp .eq 1642, 3) := by decide +kernel
theorem c0_667 : cd 0 667 = some (.sipush 0, 1) := by decide +kernel
theorem c0_668 : cd 0 668 = some (.ireturn, 1) := by decide +kernel
theorem c0_669 : cd 0 669 = some (.aload 1, 1) := by decide +kernel
theorem c0_670 : cd 0 670 = some (.aload 0, 1) := by decide +kernel
theorem c0_671 : cd 0 671 = some (.iload 3, 1) := by decide +kernel
theorem c0_672 : cd 0 672 = some (.sipush 1, 1) := by decide +kernel
theorem c0_673 : cd 0 673 = some (.iadd, 1) := by decide +kernel
theorem c0_674 : cd 0 674 = some (.iaload, 1) := by decide +kernel
theorem c0_675 : cd 0 675 = some (.aload 0, 1) := by decide +kernel
theorem c0_676 : cd 0 676 = some (.iload 3, 1) := by decide +kernel
theorem c0_677 : cd 0 677 = some (.sipush 2, 1) := by decide +kernel
theorem c0_678 : cd 0 678 = some (.iadd, 1) := by decide +kernel
theorem c0_679 : cd 0 679 = some (.iaload, 1) := by decide +kernel
theorem c0_680 : cd 0 680 = some (.invokevirtual 31, 3) := by decide +kernel
theorem c0_683 : cd 0 683 = some (.aload 2, 1) := by decide +kernel
theorem c0_684 : cd 0 684 = some (.aload 0, 1) := by decide +kernel
theorem c0_685 : cd 0 685 = some (.iload 3, 1) := by decide +kernel
theorem c0_686 : cd 0 686 = some (.sipush 1, 1) := by decide +kernel
theorem c0_687 : cd 0 687 = some (.iadd, 1) := by decide +kernel
theorem c0_688 : cd 0 688 = some (.iaload, 1) := by decide +kernel
theorem c0_689 : cd 0 689 = some (.aload 0, 1) := by decide +kernel
theorem c0_690 : cd 0 690 = some (.iload 3, 1) := by decide +kernel
theorem c0_691 : cd 0 691 = some (.sipush 2, 1) := by decide +kernel
theorem c0_692 : cd 0 692 = some (.iadd, 1) := by decide +kernel
theorem c0_693 : cd 0 693 = some (.iaload, 1) := by decide +kernel
theorem c0_694 : cd 0 694 = some (.invokevirtual 32, 3) := by decide +kernel
theorem c0_697 : cd 0 697 = some (.if_icmp .eq 1642, 3) := by decide +kernel
theorem c0_700 : cd 0 700 = some (.sipush 0, 1) := by decide +kernel
theorem c0_701 : cd 0 701 = some (.ireturn, 1) := by decide +kernel
theorem c0_702 : cd 0 702 = some (.aload 1, 1) := by decide +kernel
theorem c0_703 : cd 0 703 = some (.aload 0, 1) := by decide +kernel
theorem c0_704 : cd 0 704 = some (.iload 3, 1) := by decide +kernel
theorem c0_705 : cd 0 705 = some (.sipush 1, 1) := by decide +kernel
theorem c0_706 : cd 0 706 = some (.iadd, 1) := by decide +kernel
theorem c0_707 : cd 0 707 = some (.iaload, 1) := by decide +kernel
theorem c0_708 : cd 0 708 = some (.invokevirtual 33, 3) := by decide +kernel
theorem c0_711 : cd 0 711 = some (.aload 2, 1) := by decide +kernel
theorem c0_712 : cd 0 712 = some (.aload 0, 1) := by decide +kernel
theorem c0_713 : cd 0 713 = some (.iload 3, 1) := by decide +kernel
theorem c0_714 : cd 0 714 = some (.sipush 1, 1) := by decide +kernel
theorem c0_715 : cd 0 715 = some (.iadd, 1) := by decide +kernel
theorem c0_716 : cd 0 716 = some (.iaload, 1) := by decide +kernel
theorem c0_717 : cd 0 717 = some (.invokevirtual 34, 3) := by decide +kernel
theorem c0_720 : cd 0 720 = some (.if_icmp .eq 1642, 3) := by decide +kernel
theorem c0_723 : cd 0 723 = some (.sipush 0, 1) := by decide +kernel
theorem c0_724 : cd 0 724 = some (.ireturn, 1) := by decide +kernel
theorem c0_725 : cd 0 725 = some (.aload 1, 1) := by decide +kernel
theorem c0_726 : cd 0 726 = some (.aload 0, 1) := by decide +kernel
theorem c0_727 : cd 0 727 = some (.iload 3, 1) := by decide +kernel
theorem c0_728 : cd 0 728 = some (.sipush 1, 1) := by decide +kernel
theorem c0_729 : cd 0 729 = some (.iadd, 1) := by decide +kernel
theorem c0_730 : cd 0 730 = some (.iaload, 1) := by decide +kernel
theorem c0_731 : cd 0 731 = some (.aload 0, 1) := by decide +kernel
theorem c0_732 : cd 0 732 = some (.iload 3, 1) := by decide +kernel
theorem c0_733 : cd 0 733 = some (.sipush 2, 1) := by decide +kernel
theorem c0_734 : cd 0 734 = some (.iadd, 1) := by decide +kernel
theorem c0_735 : cd 0 735 = some (.iaload, 1) := by decide +kernel
theorem c0_736 : cd 0 736 = some (.invokevirtual 35, 3) := by decide +kernel
theorem c0_739 : cd 0 739 = some (.aload 2, 1) := by decide +kernel
theorem c0_740 : cd 0 740 = some (.aload 0, 1) := by decide +kernel
theorem c0_741 : cd 0 741 = some (.iload 3, 1) := by decide +kernel
theorem c0_742 : cd 0 742 = some (.sipush 1, 1) := by decide +kernel
theorem c0_743 : cd 0 743 = some (.iadd, 1) := by decide +kernel
theorem c0_744 : cd 0 744 = some (.iaload, 1) := by decide +kernel
theorem c0_745 : cd 0 745 = some (.aload 0, 1) := by decide +kernel
theorem c0_746 : cd 0 746 = some (.iload 3, 1) := by decide +kernel
theorem c0_747 : cd 0 747 = some (.sipush 2, 1) := by decide +kernel
theorem c0_748 : cd 0 748 = some (.iadd, 1) := by decide +kernel
theorem c0_749 : cd 0 749 = some (.iaload, 1) := by decide +kernel
theorem c0_750 : cd 0 750 = some (.invokevirtual 36, 3) := by decide +kernel
theorem c0_753 : cd 0 753 = some (.if_icmp .eq 1642, 3) := by decide +kernel
theorem c0_756 : cd 0 756 = some (.sipush 0, 1) := by decide +kernel
theorem c0_757 : cd 0 757 = some (.ireturn, 1) := by decide +kernel
theorem c0_758 : cd 0 758 = some (.aload 1, 1) := by decide +kernel
theorem c0_759 : cd 0 759 = some (.aload 0, 1) := by decide +kernel
theorem c0_760 : cd 0 760 = some (.iload 3, 1) := by decide +kernel
theorem c0_761 : cd 0 761 = some (.sipush 1, 1) := by decide +kernel
theorem c0_762 : cd 0 762 = some (.iadd, 1) := by decide +kernel
theorem c0_763 : cd 0 763 = some (.iaload, 1) := by decide +kernel
theorem c0_764 : cd 0 764 = some (.aload 0, 1) := by decide +kernel
theorem c0_765 : cd 0 765 = some (.iload 3, 1) := by decide +kernel
theorem c0_766 : cd 0 766 = some (.sipush 2, 1) := by decide +kernel
theorem c0_767 : cd 0 767 = some (.iadd, 1) := by decide +kernel
theorem c0_768 : cd 0 768 = some (.iaload, 1) := by decide +kernel
theorem c0_769 : cd 0 769 = some (.invokevirtual 37, 3) := by decide +kernel
theorem c0_772 : cd 0 772 = some (.aload 2, 1) := by decide +kernel
theorem c0_773 : cd 0 773 = some (.aload 0, 1) := by decide +kernel
theorem c0_774 : cd 0 774 = some (.iload 3, 1) := by decide +kernel
theorem c0_775 : cd 0 775 = some (.sipush 1, 1) := by decide +kernel
theorem c0_776 : cd 0 776 = some (.iadd, 1) := by decide +kernel
theorem c0_777 : cd 0 777 = some (.iaload, 1) := by decide +kernel
theorem c0_778 : cd 0 778 = some (.aload 0, 1) := by decide +kernel
theorem c0_779 : cd 0 779 = some (.iload 3, 1) := by decide +kernel
theorem c0_780 : cd 0 780 = some (.sipush 2, 1) := by decide +kernel
theorem c0_781 : cd 0 781 = some (.iadd, 1) := by decide +kernel
theorem c0_782 : cd 0 782 = some (.iaload, 1) := by decide +kernel
theorem c0_783 : cd 0 783 = some (.invokevirtual 38, 3) := by decide +kernel
theorem c0_786 : cd 0 786 = some (.if_icmp .eq 1642, 3) := by decide +kernel
theorem c0_789 : cd 0 789 = some (.sipush 0, 1) := by decide +kernel
theorem c0_790 : cd 0 790 = some (.ireturn, 1) := by decide +kernel
theorem c0_791 : cd 0 791 = some (.aload 1, 1) := by decide +kernel
theorem c0_792 : cd 0 792 = some (.aload 0, 1) := by decide +kernel
theorem c0_793 : cd 0 793 = some (.iload 3, 1) := by decide +kernel
theorem c0_794 : cd 0 794 = some (.sipush 1, 1) := by decide +kernel
theorem c0_795 : cd 0 795 = some (.iadd, 1) := by decide +kernel
theorem c0_796 : cd 0 796 = some (.iaload, 1) := by decide +kernel
theorem c0_797 : cd 0 797 = some (.invokevirtual 39, 3) := by decide +kernel
theorem c0_800 : cd 0 800 = some (.aload 2, 1) := by decide +kernel
theorem c0_801 : cd 0 801 = some (.aload 0, 1) := by decide +kernel
theorem c0_802 : cd 0 802 = some (.iload 3, 1) := by decide +kernel
theorem c0_803 : cd 0 803 = some (.sipush 1, 1) := by decide +kernel
theorem c0_804 : cd 0 804 = some (.iadd, 1) := by decide +kernel
theorem c0_805 : cd 0 805 = some (.iaload, 1) := by decide +kernel
theorem c0_806 : cd 0 806 = some (.invokevirtual 40, 3) := by decide +kernel
theorem c0_809 : cd 0 809 = some (.if_icmp .eq 1642, 3) := by decide +kernel
theorem c0_812 : cd 0 812 = some (.sipush 0, 1) := by decide +kernel
theorem c0_813 : cd 0 813 = some (.ireturn, 1) := by decide +kernel
theorem c0_814 : cd 0 814 = some (.aload 1, 1) := by decide +kernel
theorem c0_815 : cd 0 815 = some (.aload 0, 1) := by decide +kernel
theorem c0_816 : cd 0 816 = some (.iload 3, 1) := by decide +kernel
theorem c0_817 : cd 0 817 = some (.sipush 1, 1) := by decide +kernel
theorem c0_818 : cd 0 818 = some (.iadd, 1) := by decide +kernel
theorem c0_819 : cd 0 819 = some (.iaload, 1) := by decide +kernel
theorem c0_820 : cd 0 820 = some (.invokevirtual 41, 3) := by decide +kernel
theorem c0_823 : cd 0 823 = some (.aload 2, 1) := by decide +kernel
theorem c0_824 : cd 0 824 = some (.aload 0, 1) := by decide +kernel
theorem c0_825 : cd 0 825 = some (.iload 3, 1) := by decide +kernel
theorem c0_826 : cd 0 826 = some (.sipush 1, 1) := by decide +kernel
theorem c0_827 : cd 0 827 = some (.iadd, 1) := by decide +kernel
theorem c0_828 : cd 0 828 = some (.iaload, 1) := by decide +kernel
theorem c0_829 : cd 0 829 = some (.invokevirtual 42, 3) := by decide +kernel
theorem c0_832 : cd 0 832 = some (.if_icmp .eq 1642, 3) := by decide +kernel
theorem c0_835 : cd 0 835 = some (.sipush 0, 1) := by decide +kernel
theorem c0_836 : cd 0 836 = some (.ireturn, 1) := by decide +kernel
theorem c0_837 : cd 0 837 = some (.aload 1, 1) := by decide +kernel
theorem c0_838 : cd 0 838 = some (.aload 0, 1) := by decide +kernel
theorem c0_839 : cd 0 839 = some (.iload 3, 1) := by decide +kernel
theorem c0_840 : cd 0 840 = some (.sipush 1, 1) := by decide +kernel
theorem c0_841 : cd 0 841 = some (.iadd, 1) := by decide +kernel
theorem c0_842 : cd 0 842 = some (.iaload, 1) := by decide +kernel
theorem c0_843 : cd 0 843 = some (.invokevirtual 43, 3) := by decide +kernel
theorem c0_846 : cd 0 846 = some (.aload 2, 1) := by decide +kernel
theorem c0_847 : cd 0 847 = some (.aload 0, 1) := by decide +kernel
theorem c0_848 : cd 0 848 = some (.iload 3, 1) := by decide +kernel
theorem c0_849 : cd 0 849 = some (.sipush 1, 1) := by decide +kernel
theorem c0_850 : cd 0 850 = some (.iadd, 1) := by decide +kernel
theorem c0_851 : cd 0 851 = some (.iaload, 1) := by decide +kernel
theorem c0_852 : cd 0 852 = some (.invokevirtual 44, 3) := by decide +kernel
theorem c0_855 : cd 0 855 = some (.if_icmp .eq 1642, 3) := by decide +kernel
theorem c0_858 : cd 0 858 = some (.sipush 0, 1) := by decide +kernel
theorem c0_859 : cd 0 859 = some (.ireturn, 1) := by decide +kernel
theorem c0_860 : cd 0 860 = some (.aload 1, 1) := by decide +kernel
theorem c0_861 : cd 0 861 = some (.invokevirtual 45, 3) := by decide +kernel
theorem c0_864 : cd 0 864 = some (.aload 2, 1) := by decide +kernel
theorem c0_865 : cd 0 865 = some (.invokevirtual 46, 3) := by decide +kernel
theorem c0_868 : cd 0 868 = some (.if_icmp .eq 1642, 3) := by decide +kernel
theorem c0_871 : cd 0 871 = some (.sipush 0, 1) := by decide +kernel
theorem c0_872 : cd 0 872 = some (.ireturn, 1) := by decide +kernel
theorem c0_873 : cd 0 873 = some (.aload 1, 1) := by decide +kernel
theorem c0_874 : cd 0 874 = some (.invokevirtual 47, 3) := by decide +kernel
theorem c0_877 : cd 0 877 = some (.aload 2, 1) := by decide +kernel
theorem c0_878 : cd 0 878 = some (.invokevirtual 48, 3) := by decide +kernel
theorem c0_881 : cd 0 881 = some (.if_icmp .eq 1642, 3) := by decide +kernel
theorem c0_884 : cd 0 884 = some (.sipush 0, 1) := by decide +kernel
theorem c0_885 : cd 0 885 = some (.ireturn, 1) := by decide +kernel
theorem c0_886 : cd 0 886 = some (.aload 1, 1) := by decide +kernel
theorem c0_887 : cd 0 887 = some (.aload 0, 1) := by decide +kernel
theorem c0_888 : cd 0 888 = some (.iload 3, 1) := by decide +kernel
theorem c0_889 : cd 0 889 = some (.sipush 1, 1) := by decide +kernel
theorem c0_890 : cd 0 890 = some (.iadd, 1) := by decide +kernel
theorem c0_891 : cd 0 891 = some (.iaload, 1) := by decide +kernel
theorem c0_892 : cd 0 892 = some (.aload 0, 1) := by decide +kernel
theorem c0_893 : cd 0 893 = some (.iload 3, 1) := by decide +kernel
theorem c0_894 : cd 0 894 = some (.sipush 2, 1) := by decide +kernel
theorem c0_895 : cd 0 895 = some (.iadd, 1) := by decide +kernel
theorem c0_896 : cd 0 896 = some (.iaload, 1) := by decide +kernel
theorem c0_897 : cd 0 897 = some (.invokevirtual 49, 3) := by decide +kernel
theorem c0_900 : cd 0 900 = some (.aload 2, 1) := by decide +kernel
theorem c0_901 : cd 0 901 = some (.aload 0, 1) := by decide +kernel
theorem c0_902 : cd 0 902 = some (.iload 3, 1) := by decide +kernel
theorem c0_903 : cd 0 903 = some (.sipush 1, 1) := by decide +kernel
theorem c0_904 : cd 0 904 = some (.iadd, 1) := by decide +kernel
theorem c0_905 : cd 0 905 = some (.iaload, 1) := by decide +kernel
theorem c0_906 : cd 0 906 = some (.aload 0, 1) := by decide +kernel
theorem c0_907 : cd 0 907 = some (.iload 3, 1) := by decide +kernel
theorem c0_908 : cd 0 908 = some (.sipush 2, 1) := by decide +kernel
theorem c0_909 : cd 0 909 = some (.iadd, 1) := by decide +kernel
theorem c0_910 : cd 0 910 = some (.iaload, 1) := by decide +kernel
theorem c0_911 : cd 0 911 = some (.invokevirtual 50, 3) := by decide +kernel
theorem c0_914 : cd 0 914 = some (.if_icmp .eq 1642, 3) := by decide +kernel
theorem c0_917 : cd 0 917 = some (.sipush 0, 1) := by decide +kernel
theorem c0_918 : cd 0 918 = some (.ireturn, 1) := by decide +kernel
theorem c0_919 : cd 0 919 = some (.aload 1, 1) := by decide +kernel
theorem c0_920 : cd 0 920 = some (.aload 0, 1) := by decide +kernel
theorem c0_921 : cd 0 921 = some (.iload 3, 1) := by decide +kernel
theorem c0_922 : cd 0 922 = some (.sipush 1, 1) := by decide +kernel
theorem c0_923 : cd 0 923 = some (.iadd, 1) := by decide +kernel
theorem c0_924 : cd 0 924 = some (.iaload, 1) := by decide +kernel
theorem c0_925 : cd 0 925 = some (.invokevirtual 51, 3) := by decide +kernel
theorem c0_928 : cd 0 928 = some (.aload 2, 1) := by decide +kernel
theorem c0_929 : cd 0 929 = some (.aload 0, 1) := by decide +kernel
theorem c0_930 : cd 0 930 = some (.iload 3, 1) := by decide +kernel
theorem c0_931 : cd 0 931 = some (.sipush 1, 1) := by decide +kernel
theorem c0_932 : cd 0 932 = some (.iadd, 1) := by decide +kernel
theorem c0_933 : cd 0 933 = some (.iaload, 1) := by decide +kernel
theorem c0_934 : cd 0 934 = some (.invokevirtual 52, 3) := by decide +kernel
theorem c0_937 : cd 0 937 = some (.if_icmp .eq 1642, 3) := by decide +kernel
theorem c0_940 : cd 0 940 = some (.sipush 0, 1) := by decide +kernel
theorem c0_941 : cd 0 941 = some (.ireturn, 1) := by decide +kernel
theorem c0_942 : cd 0 942 = some (.aload 1, 1) := by decide +kernel
theorem c0_943 : cd 0 943 = some (.aload 0, 1) := by decide +kernel
theorem c0_944 : cd 0 944 = some (.iload 3, 1) := by decide +kernel
theorem c0_945 : cd 0 945 = some (.sipush 1, 1) := by decide +kernel
theorem c0_946 : cd 0 946 = some (.iadd, 1) := by decide +kernel
theorem c0_947 : cd 0 947 = some (.iaload, 1) := by decide +kernel
theorem c0_948 : cd 0 948 = some (.aload 0, 1) := by decide +kernel
theorem c0_949 : cd 0 949 = some (.iload 3, 1) := by decide +kernel
theorem c0_950 : cd 0 950 = some (.sipush 2, 1) := by decide +kernel
theorem c0_951 : cd 0 951 = some (.iadd, 1) := by decide +kernel
theorem c0_952 : cd 0 952 = some (.iaload, 1) := by decide +kernel
theorem c0_953 : cd 0 953 = some (.invokevirtual 53, 3) := by decide +kernel
theorem c0_956 : cd 0 956 = some (.aload 2, 1) := by decide +kernel
theorem c0_957 : cd 0 957 = some (.aload 0, 1) := by decide +kernel
theorem c0_958 : cd 0 958 = some (.iload 3, 1) := by decide +kernel
theorem c0_959 : cd 0 959 = some (.sipush 1, 1) := by decide +kernel
theorem c0_960 : cd 0 960 = some (.iadd, 1) := by decide +kernel
theorem c0_961 : cd 0 961 = some (.iaload, 1) := by decide +kernel
theorem c0_962 : cd 0 962 = some (.aload 0, 1) := by decide +kernel
theorem c0_963 : cd 0 963 = some (.iload 3, 1) := by decide +kernel
theorem c0_964 : cd 0 964 = some (.sipush 2, 1) := by decide +kernel
theorem c0_965 : cd 0 965 = some (.iadd, 1) := by decide +kernel
theorem c0_966 : cd 0 966 = some (.iaload, 1) := by decide +kernel
theorem c0_967 : cd 0 967 = some (.invokevirtual 54, 3) := by decide +kernel
theorem c0_970 : cd 0 970 = some (.if_icmp .eq 1642, 3) := by decide +kernel
theorem c0_973 : cd 0 973 = some (.sipush 0, 1) := by decide +kernel
theorem c0_974 : cd 0 974 = some (.ireturn, 1) := by decide +kernel
theorem c0_975 : cd 0 975 = some (.aload 1, 1) := by decide +kernel
theorem c0_976 : cd 0 976 = some (.aload 0, 1) := by decide +kernel
theorem c0_977 : cd 0 977 = some (.iload 3, 1) := by decide +kernel
theorem c0_978 : cd 0 978 = some (.sipush 1, 1) := by decide +kernel
theorem c0_979 : cd 0 979 = some (.iadd, 1) := by decide +kernel
theorem c0_980 : cd 0 980 = some (.iaload, 1) := by decide +kernel
theorem c0_981 : cd 0 981 = some (.invokevirtual 55, 3) := by decide +kernel
theorem c0_984 : cd 0 984 = some (.aload 2, 1) := by decide +kernel
theorem c0_985 : cd 0 985 = some (.aload 0, 1) := by decide +kernel
theorem c0_986 : cd 0 986 = some (.iload 3, 1) := by decide +kernel
theorem c0_987 : cd 0 987 = some (.sipush 1, 1) := by decide +kernel
theorem c0_988 : cd 0 988 = some (.iadd, 1) := by decide +kernel
theorem c0_989 : cd 0 989 = some (.iaload, 1) := by decide +kernel
theorem c0_990 : cd 0 990 = some (.invokevirtual 56, 3) := by decide +kernel
theorem c0_993 : cd 0 993 = some (.if_icmp .eq 1642, 3) := by decide +kernel
theorem c0_996 : cd 0 996 = some (.sipush 0, 1) := by decide +kernel
theorem c0_997 : cd 0 997 = some (.ireturn, 1) := by decide +kernel
theorem c0_998 : cd 0 998 = some (.aload 1, 1) := by decide +kernel
theorem c0_999 : cd 0 999 = some (.aload 0, 1) := by decide +kernel
theorem c0_1000 : cd 0 1000 = some (.iload 3, 1) := by decide +kernel
theorem c0_1001 : cd 0 1001 = some (.sipush 1, 1) := by decide +kernel
theorem c0_1002 : cd 0 1002 = some (.iadd, 1) := by decide +kernel
theorem c0_1003 : cd 0 1003 = some (.iaload, 1) := by decide +kernel
theorem c0_1004 : cd 0 1004 = some (.invokevirtual 57, 3) := by decide +kernel
theorem c0_1007 : cd 0 1007 = some (.aload 2, 1) := by decide +kernel
theorem c0_1008 : cd 0 1008 = some (.aload 0, 1) := by decide +kernel
theorem c0_1009 : cd 0 1009 = some (.iload 3, 1) := by decide +kernel
theorem c0_1010 : cd 0 1010 = some (.sipush 1, 1) := by decide +kernel
theorem c0_1011 : cd 0 1011 = some (.iadd, 1) := by decide +kernel
theorem c0_1012 : cd 0 1012 = some (.iaload, 1) := by decide +kernel
theorem c0_1013 : cd 0 1013 = some (.invokevirtual 58, 3) := by decide +kernel
theorem c0_1016 : cd 0 1016 = some (.if_icmp .eq 1642, 3) := by decide +kernel
theorem c0_1019 : cd 0 1019 = some (.sipush 0, 1) := by decide +kernel
theorem c0_1020 : cd 0 1020 = some (.ireturn, 1) := by decide +kernel
theorem c0_1021 : cd 0 1021 = some (.aload 1, 1) := by decide +kernel
theorem c0_1022 : cd 0 1022 = some (.invokevirtual 59, 3) := by decide +kernel
theorem c0_1025 : cd 0 1025 = some (.aload 2, 1) := by decide +kernel
theorem c0_1026 : cd 0 1026 = some (.invokevirtual 60, 3) := by decide +kernel
theorem c0_1029 : cd 0 1029 = some (.if_icmp .eq 1642, 3) := by decide +kernel
theorem c0_1032 : cd 0 1032 = some (.sipush 0, 1) := by decide +kernel
theorem c0_1033 : cd 0 1033 = some (.ireturn, 1) := by decide +kernel
theorem c0_1034 : cd 0 1034 = some (.aload 1, 1) := by decide +kernel
theorem c0_1035 : cd 0 1035 = some (.aload 0, 1) := by decide +kernel
theorem c0_1036 : cd 0 1036 = some (.iload 3, 1) := by decide +kernel
theorem c0_1037 : cd 0 1037 = some (.sipush 1, 1) := by decide +kernel
theorem c0_1038 : cd 0 1038 = some (.iadd, 1) := by decide +kernel
theorem c0_1039 : cd 0 1039 = some (.iaload, 1) := by decide +kernel
theorem c0_1040 : cd 0 1040 = some (.aload 0, 1) := by decide +kernel
theorem c0_1041 : cd 0 1041 = some (.iload 3, 1) := by decide +kernel
theorem c0_1042 : cd 0 1042 = some (.sipush 2, 1) := by decide +kernel
theorem c0_1043 : cd 0 1043 = some (.iadd, 1) := by decide +kernel
theorem c0_1044 : cd 0 1044 = some (.iaload, 1) := by decide +kernel
theorem c0_1045 : cd 0 1045 = some (.invokevirtual 61, 3) := by decide +kernel
theorem c0_1048 : cd 0 1048 = some (.aload 2, 1) := by decide +kernel
theorem c0_1049 : cd 0 1049 = some (.aload 0, 1) := by decide +kernel
theorem c0_1050 : cd 0 1050 = some (.iload 3, 1) := by decide +kernel
theorem c0_1051 : cd 0 1051 = some (.sipush 1, 1) := by decide +kernel
theorem c0_1052 : cd 0 1052 = some (.iadd, 1) := by decide +kernel
theorem c0_1053 : cd 0 1053 = some (.iaload, 1) := by decide +kernel
theorem c0_1054 : cd 0 1054 = some (.aload 0, 1) := by decide +kernel
theorem c0_1055 : cd 0 1055 = some (.iload 3, 1) := by decide +kernel
theorem c0_1056 : cd 0 1056 = some (.sipush 2, 1) := by decide +kernel
theorem c0_1057 : cd 0 1057 = some (.iadd, 1) := by decide +kernel
theorem c0_1058 : cd 0 1058 = some (.iaload, 1) := by decide +kernel
theorem c0_1059 : cd 0 1059 = some (.invokevirtual 62, 3) := by decide +kernel
theorem c0_1062 : cd 0 1062 = some (.if_icmp .eq 1642, 3) := by decide +kernel
theorem c0_1065 : cd 0 1065 = some (.sipush 0, 1) := by decide +kernel
theorem c0_1066 : cd 0 1066 = some (.ireturn, 1) := by decide +kernel
theorem c0_1067 : cd 0 1067 = some (.aload 1, 1) := by decide +kernel
theorem c0_1068 : cd 0 1068 = some (.aload 0, 1) := by decide +kernel
theorem c0_1069 : cd 0 1069 = some (.iload 3, 1) := by decide +kernel
theorem c0_1070 : cd 0 1070 = some (.sipush 1, 1) := by decide +kernel
theorem c0_1071 : cd 0 1071 = some (.iadd, 1) := by decide +kernel
theorem c0_1072 : cd 0 1072 = some (.iaload, 1) := by decide +kernel
theorem c0_1073 : cd 0 1073 = some (.invokevirtual 63, 3) := by decide +kernel
theorem c0_1076 : cd 0 1076 = some (.aload 2, 1) := by decide +kernel
theorem c0_1077 : cd 0 1077 = some (.aload 0, 1) := by decide +kernel
theorem c0_1078 : cd 0 1078 = some (.iload 3, 1) := by decide +kernel
theorem c0_1079 : cd 0 1079 = some (.sipush 1, 1) := by decide +kernel
theorem c0_1080 : cd 0 1080 = some (.iadd, 1) := by decide +kernel
theorem c0_1081 : cd 0 1081 = some (.iaload, 1) := by decide +kernel
theorem c0_1082 : cd 0 1082 = some (.invokevirtual 64, 3) := by decide +kernel
theorem c0_1085 : cd 0 1085 = some (.if_icmp .eq 1642, 3) := by decide +kernel
theorem c0_1088 : cd 0 1088 = some (.sipush 0, 1) := by decide +kernel
theorem c0_1089 : cd 0 1089 = some (.ireturn, 1) := by decide +kernel
theorem c0_1090 : cd 0 1090 = some (.aload 1, 1) := by decide +kernel
theorem c0_1091 : cd 0 1091 = some (.aload 0, 1) := by decide +kernel
theorem c0_1092 : cd 0 1092 = some (.iload 3, 1) := by decide +kernel
theorem c0_1093 : cd 0 1093 = some (.sipush 1, 1) := by decide +kernel
theorem c0_1094 : cd 0 1094 = some (.iadd, 1) := by decide +kernel
theorem c0_1095 : cd 0 1095 = some (.iaload, 1) := by decide +kernel
theorem c0_1096 : cd 0 1096 = some (.aload 0, 1) := by decide +kernel
theorem c0_1097 : cd 0 1097 = some (.iload 3, 1) := by decide +kernel
theorem c0_1098 : cd 0 1098 = some (.sipush 2, 1) := by decide +kernel
theorem c0_1099 : cd 0 1099 = some (.iadd, 1) := by decide +kernel
theorem c0_1100 : cd 0 1100 = some (.iaload, 1) := by decide +kernel
theorem c0_1101 : cd 0 1101 = some (.invokevirtual 65, 3) := by decide +kernel
theorem c0_1104 : cd 0 1104 = some (.aload 2, 1) := by decide +kernel
theorem c0_1105 : cd 0 1105 = some (.aload 0, 1) := by decide +kernel
theorem c0_1106 : cd 0 1106 = some (.iload 3, 1) := by decide +kernel
theorem c0_1107 : cd 0 1107 = some (.sipush 1, 1) := by decide +kernel
theorem c0_1108 : cd 0 1108 = some (.iadd, 1) := by decide +kernel
theorem c0_1109 : cd 0 1109 = some (.iaload, 1) := by decide +kernel
theorem c0_1110 : cd 0 1110 = some (.aload 0, 1) := by decide +kernel
theorem c0_1111 : cd 0 1111 = some (.iload 3, 1) := by decide +kernel
theorem c0_1112 : cd 0 1112 = some (.sipush 2, 1) := by decide +kernel
theorem c0_1113 : cd 0 1113 = some (.iadd, 1) := by decide +kernel
theorem c0_1114 : cd 0 1114 = some (.iaload, 1) := by decide +kernel
theorem c0_1115 : cd 0 1115 = some (.invokevirtual 66, 3) := by decide +kernel
theorem c0_1118 : cd 0 1118 = some (.if_icmp .eq 1642, 3) := by decide +kernel
theorem c0_1121 : cd 0 1121 = some (.sipush 0, 1) := by decide +kernel
theorem c0_1122 : cd 0 1122 = some (.ireturn, 1) := by decide +kernel
theorem c0_1123 : cd 0 1123 = some (.aload 1, 1) := by decide +kernel
theorem c0_1124 : cd 0 1124 = some (.aload 0, 1) := by decide +kernel
theorem c0_1125 : cd 0 1125 = some (.iload 3, 1) := by decide +kernel
theorem c0_1126 : cd 0 1126 = some (.sipush 1, 1) := by decide +kernel
theorem c0_1127 : cd 0 1127 = some (.iadd, 1) := by decide +kernel
theorem c0_1128 : cd 0 1128 = some (.iaload, 1) := by decide +kernel
theorem c0_1129 : cd 0 1129 = some (.invokevirtual 67, 3) := by decide +kernel
theorem c0_1132 : cd 0 1132 = some (.aload 2, 1) := by decide +kernel
theorem c0_1133 : cd 0 1133 = some (.aload 0, 1) := by decide +kernel
theorem c0_1134 : cd 0 1134 = some (.iload 3, 1) := by decide +kernel
theorem c0_1135 : cd 0 1135 = some (.sipush 1, 1) := by decide +kernel
theorem c0_1136 : cd 0 1136 = some (.iadd, 1) := by decide +kernel
theorem c0_1137 : cd 0 1137 = some (.iaload, 1) := by decide +kernel
theorem c0_1138 : cd 0 1138 = some (.invokevirtual 68, 3) := by decide +kernel
theorem c0_1141 : cd 0 1141 = some (.if_icmp .eq 1642, 3) := by decide +kernel
theorem c0_1144 : cd 0 1144 = some (.sipush 0, 1) := by decide +kernel
theorem c0_1145 : cd 0 1145 = some (.ireturn, 1) := by decide +kernel
theorem c0_1146 : cd 0 1146 = some (.aload 1, 1) := by decide +kernel
theorem c0_1147 : cd 0 1147 = some (.invokevirtual 69, 3) := by decide +kernel
theorem c0_1150 : cd 0 1150 = some (.aload 2, 1) := by decide +kernel
theorem c0_1151 : cd 0 1151 = some (.invokevirtual 70, 3) := by decide +kernel
theorem c0_1154 : cd 0 1154 = some (.if_icmp .eq 1642, 3) := by decide +kernel
theorem c0_1157 : cd 0 1157 = some (.sipush 0, 1) := by decide +kernel
theorem c0_1158 : cd 0 1158 = some (.ireturn, 1) := by decide +kernel
theorem c0_1159 : cd 0 1159 = some (.aload 1, 1) := by decide +kernel
theorem c0_1160 : cd 0 1160 = some (.invokevirtual 71, 3) := by decide +kernel
theorem c0_1163 : cd 0 1163 = some (.aload 2, 1) := by decide +kernel
theorem c0_1164 : cd 0 1164 = some (.invokevirtual 72, 3) := by decide +kernel
theorem c0_1167 : cd 0 1167 = some (.if_icmp .eq 1642, 3) := by decide +kernel
theorem c0_1170 : cd 0 1170 = some (.sipush 0, 1) := by decide +kernel
theorem c0_1171 : cd 0 1171 = some (.ireturn, 1) := by decide +kernel
theorem c0_1172 : cd 0 1172 = some (.aload 1, 1) := by decide +kernel
theorem c0_1173 : cd 0 1173 = some (.aload 0, 1) := by decide +kernel
theorem c0_1174 : cd 0 1174 = some (.iload 3, 1) := by decide +kernel
theorem c0_1175 : cd 0 1175 = some (.sipush 1, 1) := by decide +kernel
theorem c0_1176 : cd 0 1176 = some (.iadd, 1) := by decide +kernel
theorem c0_1177 : cd 0 1177 = some (.iaload, 1) := by decide +kernel
theorem c0_1178 : cd 0 1178 = some (.aload 0, 1) := by decide +kernel
theorem c0_1179 : cd 0 1179 = some (.iload 3, 1) := by decide +kernel
theorem c0_1180 : cd 0 1180 = some (.sipush 2, 1) := by decide +kernel
theorem c0_1181 : cd 0 1181 = some (.iadd, 1) := by decide +kernel
theorem c0_1182 : cd 0 1182 = some (.iaload, 1) := by decide +kernel
theorem c0_1183 : cd 0 1183 = some (.aload 0, 1) := by decide +kernel
theorem c0_1184 : cd 0 1184 = some (.iload 3, 1) := by decide +kernel
theorem c0_1185 : cd 0 1185 = some (.sipush 3, 1) := by decide +kernel
theorem c0_1186 : cd 0 1186 = some (.iadd, 1) := by decide +kernel
theorem c0_1187 : cd 0 1187 = some (.iaload, 1) := by decide +kernel
theorem c0_1188 : cd 0 1188 = some (.aload 0, 1) := by decide +kernel
theorem c0_1189 : cd 0 1189 = some (.iload 3, 1) := by decide +kernel
theorem c0_1190 : cd 0 1190 = some (.sipush 4, 1) := by decide +kernel
theorem c0_1191 : cd 0 1191 = some (.iadd, 1) := by decide +kernel
theorem c0_1192 : cd 0 1192 = some (.iaload, 1) := by decide +kernel
theorem c0_1193 : cd 0 1193 = some (.aload 0, 1) := by decide +kernel
theorem c0_1194 : cd 0 1194 = some (.iload 3, 1) := by decide +kernel
theorem c0_1195 : cd 0 1195 = some (.sipush 5, 1) := by decide +kernel
theorem c0_1196 : cd 0 1196 = some (.iadd, 1) := by decide +kernel
theorem c0_1197 : cd 0 1197 = some (.iaload, 1) := by decide +kernel
theorem c0_1198 : cd 0 1198 = some (.invokevirtual 73, 3) := by decide +kernel
theorem c0_1201 : cd 0 1201 = some (.aload 2, 1) := by decide +kernel
theorem c0_1202 : cd 0 1202 = some (.aload 0, 1) := by decide +kernel
theorem c0_1203 : cd 0 1203 = some (.iload 3, 1) := by decide +kernel
theorem c0_1204 : cd 0 1204 = some (.sipush 1, 1) := by decide +kernel
theorem c0_1205 : cd 0 1205 = some (.iadd, 1) := by decide +kernel
theorem c0_1206 : cd 0 1206 = some (.iaload, 1) := by decide +kernel
theorem c0_1207 : cd 0 1207 = some (.aload 0, 1) := by decide +kernel
theorem c0_1208 : cd 0 1208 = some (.iload 3, 1) := by decide +kernel
theorem c0_1209 : cd 0 1209 = some (.sipush 2, 1) := by decide +kernel
theorem c0_1210 : cd 0 1210 = some (.iadd, 1) := by decide +kernel
theorem c0_1211 : cd 0 1211 = some (.iaload, 1) := by decide +kernel
theorem c0_1212 : cd 0 1212 = some (.aload 0, 1) := by decide +kernel
theorem c0_1213 : cd 0 1213 = some (.iload 3, 1) := by decide +kernel
theorem c0_1214 : cd 0 1214 = some (.sipush 3, 1) := by decide +kernel
theorem c0_1215 : cd 0 1215 = some (.iadd, 1) := by decide +kernel
theorem c0_1216 : cd 0 1216 = some (.iaload, 1) := by decide +kernel
theorem c0_1217 : cd 0 1217 = some (.aload 0, 1) := by decide +kernel
theorem c0_1218 : cd 0 1218 = some (.iload 3, 1) := by decide +kernel
theorem c0_1219 : cd 0 1219 = some (.sipush 4, 1) := by decide +kernel
theorem c0_1220 : cd 0 1220 = some (.iadd, 1) := by decide +kernel
theorem c0_1221 : cd 0 1221 = some (.iaload, 1) := by decide +kernel
theorem c0_1222 : cd 0 1222 = some (.aload 0, 1) := by decide +kernel
theorem c0_1223 : cd 0 1223 = some (.iload 3, 1) := by decide +kernel
theorem c0_1224 : cd 0 1224 = some (.sipush 5, 1) := by decide +kernel
theorem c0_1225 : cd 0 1225 = some (.iadd, 1) := by decide +kernel
theorem c0_1226 : cd 0 1226 = some (.iaload, 1) := by decide +kernel
theorem c0_1227 : cd 0 1227 = some (.invokevirtual 74, 3) := by decide +kernel
theorem c0_1230 : cd 0 1230 = some (.if_icmp .eq 1642, 3) := by decide +kernel
theorem c0_1233 : cd 0 1233 = some (.sipush 0, 1) := by decide +kernel
theorem c0_1234 : cd 0 1234 = some (.ireturn, 1) := by decide +kernel
theorem c0_1235 : cd 0 1235 = some (.aload 1, 1) := by decide +kernel
theorem c0_1236 : cd 0 1236 = some (.aload 0, 1) := by decide +kernel
theorem c0_1237 : cd 0 1237 = some (.iload 3, 1) := by decide +kernel
theorem c0_1238 : cd 0 1238 = some (.sipush 1, 1) := by decide +kernel
theorem c0_1239 : cd 0 1239 = some (.iadd, 1) := by decide +kernel
theorem c0_1240 : cd 0 1240 = some (.iaload, 1) := by decide +kernel
theorem c0_1241 : cd 0 1241 = some (.aload 0, 1) := by decide +kernel
theorem c0_1242 : cd 0 1242 = some (.iload 3, 1) := by decide +kernel
theorem c0_1243 : cd 0 1243 = some (.sipush 2, 1) := by decide +kernel
theorem c0_1244 : cd 0 1244 = some (.iadd, 1) := by decide +kernel
theorem c0_1245 : cd 0 1245 = some (.iaload, 1) := by decide +kernel
theorem c0_1246 : cd 0 1246 = some (.invokevirtual 75, 3) := by decide +kernel
theorem c0_1249 : cd 0 1249 = some (.aload 2, 1) := by decide +kernel
theorem c0_1250 : cd 0 1250 = some (.aload 0, 1) := by decide +kernel
theorem c0_1251 : cd 0 1251 = some (.iload 3, 1) := by decide +kernel
theorem c0_1252 : cd 0 1252 = some (.sipush 1, 1) := by decide +kernel
theorem c0_1253 : cd 0 1253 = some (.iadd, 1) := by decide +kernel
theorem c0_1254 : cd 0 1254 = some (.iaload, 1) := by decide +kernel
theorem c0_1255 : cd 0 1255 = some (.aload 0, 1) := by decide +kernel
theorem c0_1256 : cd 0 1256 = some (.iload 3, 1) := by decide +kernel
theorem c0_1257 : cd 0 1257 = some (.sipush 2, 1) := by decide +kernel
theorem c0_1258 : cd 0 1258 = some (.iadd, 1) := by decide +kernel
theorem c0_1259 : cd 0 1259 = some (.iaload, 1) := by decide +kernel
theorem c0_1260 : cd 0 1260 = some (.invokevirtual 76, 3) := by decide +kernel
theorem c0_1263 : cd 0 1263 = some (.if_icmp .eq 1642, 3) := by decide +kernel
theorem c0_1266 : cd 0 1266 = some (.sipush 0, 1) := by decide +kernel
theorem c0_1267 : cd 0 1267 = some (.ireturn, 1) := by decide +kernel
theorem c0_1268 : cd 0 1268 = some (.aload 1, 1) := by decide +kernel
theorem c0_1269 : cd 0 1269 = some (.aload 0, 1) := by decide +kernel
theorem c0_1270 : cd 0 1270 = some (.iload 3, 1) := by decide +kernel
theorem c0_1271 : cd 0 1271 = some (.sipush 1, 1) := by decide +kernel
theorem c0_1272 : cd 0 1272 = some (.iadd, 1) := by decide +kernel
theorem c0_1273 : cd 0 1273 = some (.iaload, 1) := by decide +kernel
theorem c0_1274 : cd 0 1274 = some (.aload 0, 1) := by decide +kernel
theorem c0_1275 : cd 0 1275 = some (.iload 3, 1) := by decide +kernel
theorem c0_1276 : cd 0 1276 = some (.sipush 2, 1) := by decide +kernel
theorem c0_1277 : cd 0 1277 = some (.iadd, 1) := by decide +kernel
theorem c0_1278 : cd 0 1278 = some (.iaload, 1) := by decide +kernel
theorem c0_1279 : cd 0 1279 = some (.invokevirtual 77, 3) := by decide +kernel
theorem c0_1282 : cd 0 1282 = some (.aload 2, 1) := by decide +kernel
theorem c0_1283 : cd 0 1283 = some (.aload 0, 1) := by decide +kernel
theorem c0_1284 : cd 0 1284 = some (.iload 3, 1) := by decide +kernel
theorem c0_1285 : cd 0 1285 = some (.sipush 1, 1) := by decide +kernel
theorem c0_1286 : cd 0 1286 = some (.iadd, 1) := by decide +kernel
theorem c0_1287 : cd 0 1287 = some (.iaload, 1) := by decide +kernel
theorem c0_1288 : cd 0 1288 = some (.aload 0, 1) := by decide +kernel
theorem c0_1289 : cd 0 1289 = some (.iload 3, 1) := by decide +kernel
theorem c0_1290 : cd 0 1290 = some (.sipush 2, 1) := by decide +kernel
theorem c0_1291 : cd 0 1291 = some (.iadd, 1) := by decide +kernel
theorem c0_1292 : cd 0 1292 = some (.iaload, 1) := by decide +kernel
theorem c0_1293 : cd 0 1293 = some (.invokevirtual 78, 3) := by decide +kernel
theorem c0_1296 : cd 0 1296 = some (.if_icmp .eq 1642, 3) := by decide +kernel
theorem c0_1299 : cd 0 1299 = some (.sipush 0, 1) := by decide +kernel
theorem c0_1300 : cd 0 1300 = some (.ireturn, 1) := by decide +kernel
theorem c0_1301 : cd 0 1301 = some (.aload 1, 1) := by decide +kernel
theorem c0_1302 : cd 0 1302 = some (.aload 0, 1) := by decide +kernel
theorem c0_1303 : cd 0 1303 = some (.iload 3, 1) := by decide +kernel
theorem c0_1304 : cd 0 1304 = some (.sipush 1, 1) := by decide +kernel
theorem c0_1305 : cd 0 1305 = some (.iadd, 1) := by decide +kernel
theorem c0_1306 : cd 0 1306 = some (.iaload, 1) := by decide +kernel
theorem c0_1307 : cd 0 1307 = some (.aload 0, 1) := by decide +kernel
theorem c0_1308 : cd 0 1308 = some (.iload 3, 1) := by decide +kernel
theorem c0_1309 : cd 0 1309 = some (.sipush 2, 1) := by decide +kernel
theorem c0_1310 : cd 0 1310 = some (.iadd, 1) := by decide +kernel
theorem c0_1311 : cd 0 1311 = some (.iaload, 1) := by decide +kernel
theorem c0_1312 : cd 0 1312 = some (.aload 0, 1) := by decide +kernel
theorem c0_1313 : cd 0 1313 = some (.iload 3, 1) := by decide +kernel
theorem c0_1314 : cd 0 1314 = some (.sipush 3, 1) := by decide +kernel
theorem c0_1315 : cd 0 1315 = some (.iadd, 1) := by decide +kernel
theorem c0_1316 : cd 0 1316 = some (.iaload, 1) := by decide +kernel
theorem c0_1317 : cd 0 1317 = some (.invokevirtual 79, 3) := by decide +kernel
theorem c0_1320 : cd 0 1320 = some (.aload 2, 1) := by decide +kernel
theorem c0_1321 : cd 0 1321 = some (.aload 0, 1) := by decide +kernel
theorem c0_1322 : cd 0 1322 = some (.iload 3, 1) := by decide +kernel
theorem c0_1323 : cd 0 1323 = some (.sipush 1, 1) := by decide +kernel
theorem c0_1324 : cd 0 1324 = some (.iadd, 1) := by decide +kernel
theorem c0_1325 : cd 0 1325 = some (.iaload, 1) := by decide +kernel
theorem c0_1326 : cd 0 1326 = some (.aload 0, 1) := by decide +kernel
theorem c0_1327 : cd 0 1327 = some (.iload 3, 1) := by decide +kernel
theorem c0_1328 : cd 0 1328 = some (.sipush 2, 1) := by decide +kernel
theorem c0_1329 : cd 0 1329 = some (.iadd, 1) := by decide +kernel
theorem c0_1330 : cd 0 1330 = some (.iaload, 1) := by decide +kernel
theorem c0_1331 : cd 0 1331 = some (.aload 0, 1) := by decide +kernel
theorem c0_1332 : cd 0 1332 = some (.iload 3, 1) := by decide +kernel
theorem c0_1333 : cd 0 1333 = some (.sipush 3, 1) := by decide +kernel
theorem c0_1334 : cd 0 1334 = some (.iadd, 1) := by decide +kernel
theorem c0_1335 : cd 0 1335 = some (.iaload, 1) := by decide +kernel
theorem c0_1336 : cd 0 1336 = some (.invokevirtual 80, 3) := by decide +kernel
theorem c0_1339 : cd 0 1339 = some (.if_icmp .eq 1642, 3) := by decide +kernel
theorem c0_1342 : cd 0 1342 = some (.sipush 0, 1) := by decide +kernel
theorem c0_1343 : cd 0 1343 = some (.ireturn, 1) := by decide +kernel
theorem c0_1344 : cd 0 1344 = some (.aload 1, 1) := by decide +kernel
theorem c0_1345 : cd 0 1345 = some (.aload 0, 1) := by decide +kernel
theorem c0_1346 : cd 0 1346 = some (.iload 3, 1) := by decide +kernel
theorem c0_1347 : cd 0 1347 = some (.sipush 1, 1) := by decide +kernel
theorem c0_1348 : cd 0 1348 = some (.iadd, 1) := by decide +kernel
theorem c0_1349 : cd 0 1349 = some (.iaload, 1) := by decide +kernel
theorem c0_1350 : cd 0 1350 = some (.aload 0, 1) := by decide +kernel
theorem c0_1351 : cd 0 1351 = some (.iload 3, 1) := by decide +kernel
theorem c0_1352 : cd 0 1352 = some (.sipush 2, 1) := by decide +kernel
theorem c0_1353 : cd 0 1353 = some (.iadd, 1) := by decide +kernel
theorem c0_1354 : cd 0 1354 = some (.iaload, 1) := by decide +kernel
theorem c0_1355 : cd 0 1355 = some (.invokevirtual 81, 3) := by decide +kernel
theorem c0_1358 : cd 0 1358 = some (.aload 2, 1) := by decide +kernel
theorem c0_1359 : cd 0 1359 = some (.aload 0, 1) := by decide +kernel
theorem c0_1360 : cd 0 1360 = some (.iload 3, 1) := by decide +kernel
theorem c0_1361 : cd 0 1361 = some (.sipush 1, 1) := by decide +kernel
theorem c0_1362 : cd 0 1362 = some (.iadd, 1) := by decide +kernel
theorem c0_1363 : cd 0 1363 = some (.iaload, 1) := by decide +kernel
theorem c0_1364 : cd 0 1364 = some (.aload 0, 1) := by decide +kernel
theorem c0_1365 : cd 0 1365 = some (.iload 3, 1) := by decide +kernel
theorem c0_1366 : cd 0 1366 = some (.sipush 2, 1) := by decide +kernel
theorem c0_1367 : cd 0 1367 = some (.iadd, 1) := by decide +kernel
theorem c0_1368 : cd 0 1368 = some (.iaload, 1) := by decide +kernel
theorem c0_1369 : cd 0 1369 = some (.invokevirtual 82, 3) := by decide +kernel
theorem c0_1372 : cd 0 1372 = some (.if_icmp .eq 1642, 3) := by decide +kernel
theorem c0_1375 : cd 0 1375 = some (.sipush 0, 1) := by decide +kernel
theorem c0_1376 : cd 0 1376 = some (.ireturn, 1) := by decide +kernel
theorem c0_1377 : cd 0 1377 = some (.aload 1, 1) := by decide +kernel
theorem c0_1378 : cd 0 1378 = some (.aload 0, 1) := by decide +kernel
theorem c0_1379 : cd 0 1379 = some (.iload 3, 1) := by decide +kernel
theorem c0_1380 : cd 0 1380 = some (.sipush 1, 1) := by decide +kernel
theorem c0_1381 : cd 0 1381 = some (.iadd, 1) := by decide +kernel
theorem c0_1382 : cd 0 1382 = some (.iaload, 1) := by decide +kernel
theorem c0_1383 : cd 0 1383 = some (.aload 0, 1) := by decide +kernel
theorem c0_1384 : cd 0 1384 = some (.iload 3, 1) := by decide +kernel
theorem c0_1385 : cd 0 1385 = some (.sipush 2, 1) := by decide +kernel
theorem c0_1386 : cd 0 1386 = some (.iadd, 1) := by decide +kernel
theorem c0_1387 : cd 0 1387 = some (.iaload, 1) := by decide +kernel
theorem c0_1388 : cd 0 1388 = some (.invokevirtual 83, 3) := by decide +kernel
theorem c0_1391 : cd 0 1391 = some (.aload 2, 1) := by decide +kernel
theorem c0_1392 : cd 0 1392 = some (.aload 0, 1) := by decide +kernel
theorem c0_1393 : cd 0 1393 = some (.iload 3, 1) := by decide +kernel
theorem c0_1394 : cd 0 1394 = some (.sipush 1, 1) := by decide +kernel
theorem c0_1395 : cd 0 1395 = some (.iadd, 1) := by decide +kernel
theorem c0_1396 : cd 0 1396 = some (.iaload, 1) := by decide +kernel
theorem c0_1397 : cd 0 1397 = some (.aload 0, 1) := by decide +kernel
theorem c0_1398 : cd 0 1398 = some (.iload 3, 1) := by decide +kernel
theorem c0_1399 : cd 0 1399 = some (.sipush 2, 1) := by decide +kernel
theorem c0_1400 : cd 0 1400 = some (.iadd, 1) := by decide +kernel
theorem c0_1401 : cd 0 1401 = some (.iaload, 1) := by decide +kernel
theorem c0_1402 : cd 0 1402 = some (.invokevirtual 84, 3) := by decide +kernel
theorem c0_1405 : cd 0 1405 = some (.if_icmp .eq 1642, 3) := by decide +kernel
theorem c0_1408 : cd 0 1408 = some (.sipush 0, 1) := by decide +kernel
theorem c0_1409 : cd 0 1409 = some (.ireturn, 1) := by decide +kernel
theorem c0_1410 : cd 0 1410 = some (.aload 1, 1) := by decide +kernel
theorem c0_1411 : cd 0 1411 = some (.aload 0, 1) := by decide +kernel
theorem c0_1412 : cd 0 1412 = some (.iload 3, 1) := by decide +kernel
theorem c0_1413 : cd 0 1413 = some (.sipush 1, 1) := by decide +kernel
theorem c0_1414 : cd 0 1414 = some (.iadd, 1) := by decide +kernel
theorem c0_1415 : cd 0 1415 = some (.iaload, 1) := by decide +kernel
theorem c0_1416 : cd 0 1416 = some (.invokevirtual 85, 3) := by decide +kernel
theorem c0_1419 : cd 0 1419 = some (.aload 2, 1) := by decide +kernel
theorem c0_1420 : cd 0 1420 = some (.aload 0, 1) := by decide +kernel
theorem c0_1421 : cd 0 1421 = some (.iload 3, 1) := by decide +kernel
theorem c0_1422 : cd 0 1422 = some (.sipush 1, 1) := by decide +kernel
theorem c0_1423 : cd 0 1423 = some (.iadd, 1) := by decide +kernel
theorem c0_1424 : cd 0 1424 = some (.iaload, 1) := by decide +kernel
theorem c0_1425 : cd 0 1425 = some (.invokevirtual 86, 3) := by decide +kernel
theorem c0_1428 : cd 0 1428 = some (.if_icmp .eq 1642, 3) := by decide +kernel
theorem c0_1431 : cd 0 1431 = some (.sipush 0, 1) := by decide +kernel
theorem c0_1432 : cd 0 1432 = some (.ireturn, 1) := by decide +kernel
theorem c0_1433 : cd 0 1433 = some (.aload 1, 1) := by decide +kernel
theorem c0_1434 : cd 0 1434 = some (.aload 0, 1) := by decide +kernel
theorem c0_1435 : cd 0 1435 = some (.iload 3, 1) := by decide +kernel
theorem c0_1436 : cd 0 1436 = some (.sipush 1, 1) := by decide +kernel
theorem c0_1437 : cd 0 1437 = some (.iadd, 1) := by decide +kernel
theorem c0_1438 : cd 0 1438 = some (.iaload, 1) := by decide +kernel
theorem c0_1439 : cd 0 1439 = some (.invokevirtual 87, 3) := by decide +kernel
theorem c0_1442 : cd 0 1442 = some (.aload 2, 1) := by decide +kernel
theorem c0_1443 : cd 0 1443 = some (.aload 0, 1) := by decide +kernel
theorem c0_1444 : cd 0 1444 = some (.iload 3, 1) := by decide +kernel
theorem c0_1445 : cd 0 1445 = some (.sipush 1, 1) := by decide +kernel
theorem c0_1446 : cd 0 1446 = some (.iadd, 1) := by decide +kernel
theorem c0_1447 : cd 0 1447 = some (.iaload, 1) := by decide +kernel
theorem c0_1448 : cd 0 1448 = some (.invokevirtual 88, 3) := by decide +kernel
theorem c0_1451 : cd 0 1451 = some (.if_icmp .eq 1642, 3) := by decide +kernel
theorem c0_1454 : cd 0 1454 = some (.sipush 0, 1) := by decide +kernel
theorem c0_1455 : cd 0 1455 = some (.ireturn, 1) := by decide +kernel
theorem c0_1456 : cd 0 1456 = some (.aload 1, 1) := by decide +kernel
theorem c0_1457 : cd 0 1457 = some (.aload 0, 1) := by decide +kernel
theorem c0_1458 : cd 0 1458 = some (.iload 3, 1) := by decide +kernel
theorem c0_1459 : cd 0 1459 = some (.sipush 1, 1) := by decide +kernel
theorem c0_1460 : cd 0 1460 = some (.iadd, 1) := by decide +kernel
theorem c0_1461 : cd 0 1461 = some (.iaload, 1) := by decide +kernel
theorem c0_1462 : cd 0 1462 = some (.aload 0, 1) := by decide +kernel
theorem c0_1463 : cd 0 1463 = some (.iload 3, 1) := by decide +kernel
theorem c0_1464 : cd 0 1464 = some (.sipush 2, 1) := by decide +kernel
theorem c0_1465 : cd 0 1465 = some (.iadd, 1) := by decide +kernel
theorem c0_1466 : cd 0 1466 = some (.iaload, 1) := by decide +kernel
theorem c0_1467 : cd 0 1467 = some (.aload 0, 1) := by decide +kernel
theorem c0_1468 : cd 0 1468 = some (.iload 3, 1) := by decide +kernel
theorem c0_1469 : cd 0 1469 = some (.sipush 3, 1) := by decide +kernel
theorem c0_1470 : cd 0 1470 = some (.iadd, 1) := by decide +kernel
theorem c0_1471 : cd 0 1471 = some (.iaload, 1) := by decide +kernel
theorem c0_1472 : cd 0 1472 = some (.invokevirtual 89, 3) := by decide +kernel
theorem c0_1475 : cd 0 1475 = some (.aload 2, 1) := by decide +kernel
theorem c0_1476 : cd 0 1476 = some (.aload 0, 1) := by decide +kernel
theorem c0_1477 : cd 0 1477 = some (.iload 3, 1) := by decide +kernel
theorem c0_1478 : cd 0 1478 = some (.sipush 1, 1) := by decide +kernel
theorem c0_1479 : cd 0 1479 = some (.iadd, 1) := by decide +kernel
theorem c0_1480 : cd 0 1480 = some (.iaload, 1) := by decide +kernel
theorem c0_1481 : cd 0 1481 = some (.aload 0, 1) := by decide +kernel
theorem c0_1482 : cd 0 1482 = some (.iload 3, 1) := by decide +kernel
theorem c0_1483 : cd 0 1483 = some (.sipush 2, 1) := by decide +kernel
theorem c0_1484 : cd 0 1484 = some (.iadd, 1) := by decide +kernel
theorem c0_1485 : cd 0 1485 = some (.iaload, 1) := by decide +kernel
theorem c0_1486 : cd 0 1486 = some (.aload 0, 1) := by decide +kernel
theorem c0_1487 : cd 0 1487 = some (.iload 3, 1) := by decide +kernel
theorem c0_1488 : cd 0 1488 = some (.sipush 3, 1) := by decide +kernel
theorem c0_1489 : cd 0 1489 = some (.iadd, 1) := by decide +kernel
theorem c0_1490 : cd 0 1490 = some (.iaload, 1) := by decide +kernel
theorem c0_1491 : cd 0 1491 = some (.invokevirtual 90, 3) := by decide +kernel
theorem c0_1494 : cd 0 1494 = some (.if_icmp .eq 1642, 3) := by decide +kernel
theorem c0_1497 : cd 0 1497 = some (.sipush 0, 1) := by decide +kernel
theorem c0_1498 : cd 0 1498 = some (.ireturn, 1) := by decide +kernel
theorem c0_1499 : cd 0 1499 = some (.aload 1, 1) := by decide +kernel
theorem c0_1500 : cd 0 1500 = some (.aload 0, 1) := by decide +kernel
theorem c0_1501 : cd 0 1501 = some (.iload 3, 1) := by decide +kernel
theorem c0_1502 : cd 0 1502 = some (.sipush 1, 1) := by decide +kernel
theorem c0_1503 : cd 0 1503 = some (.iadd, 1) := by decide +kernel
theorem c0_1504 : cd 0 1504 = some (.iaload, 1) := by decide +kernel
theorem c0_1505 : cd 0 1505 = some (.aload 0, 1) := by decide +kernel
theorem c0_1506 : cd 0 1506 = some (.iload 3, 1) := by decide +kernel
theorem c0_1507 : cd 0 1507 = some (.sipush 2, 1) := by decide +kernel
theorem c0_1508 : cd 0 1508 = some (.iadd, 1) := by decide +kernel
theorem c0_1509 : cd 0 1509 = some (.iaload, 1) := by decide +kernel
theorem c0_1510 : cd 0 1510 = some (.aload 0, 1) := by decide +kernel
theorem c0_1511 : cd 0 1511 = some (.iload 3, 1) := by decide +kernel
theorem c0_1512 : cd 0 1512 = some (.sipush 3, 1) := by decide +kernel
theorem c0_1513 : cd 0 1513 = some (.iadd, 1) := by decide +kernel
theorem c0_1514 : cd 0 1514 = some (.iaload, 1) := by decide +kernel
theorem c0_1515 : cd 0 1515 = some (.i2l, 1) := by decide +kernel
theorem c0_1516 : cd 0 1516 = some (.sipush 32, 2) := by decide +kernel
theorem c0_1518 : cd 0 1518 = some (.lshl, 1) := by decide +kernel
theorem c0_1519 : cd 0 1519 = some (.aload 0, 1) := by decide +kernel
theorem c0_1520 : cd 0 1520 = some (.iload 3, 1) := by decide +kernel
theorem c0_1521 : cd 0 1521 = some (.sipush 4, 1) := by decide +kernel
theorem c0_1522 : cd 0 1522 = some (.iadd, 1) := by decide +kernel
theorem c0_1523 : cd 0 1523 = some (.iaload, 1) := by decide +kernel
theorem c0_1524 : cd 0 1524 = some (.i2l, 1) := by decide +kernel
theorem c0_1525 : cd 0 1525 = some (.bipush 4294967295, 3) := by decide +kernel
theorem c0_1528 : cd 0 1528 = some (.land, 1) := by decide +kernel
theorem c0_1529 : cd 0 1529 = some (.lor, 1) := by decide +kernel
theorem c0_1530 : cd 0 1530 = some (.invokevirtual 91, 3) := by decide +kernel
theorem c0_1533 : cd 0 1533 = some (.aload 2, 1) := by decide +kernel
theorem c0_1534 : cd 0 1534 = some (.aload 0, 1) := by decide +kernel
theorem c0_1535 : cd 0 1535 = some (.iload 3, 1) := by decide +kernel
theorem c0_1536 : cd 0 1536 = some (.sipush 1, 1) := by decide +kernel
theorem c0_1537 : cd 0 1537 = some (.iadd, 1) := by decide +kernel
theorem c0_1538 : cd 0 1538 = some (.iaload, 1) := by decide +kernel
theorem c0_1539 : cd 0 1539 = some (.aload 0, 1) := by decide +kernel
theorem c0_1540 : cd 0 1540 = some (.iload 3, 1) := by decide +kernel
theorem c0_1541 : cd 0 1541 = some (.sipush 2, 1) := by decide +kernel
theorem c0_1542 : cd 0 1542 = some (.iadd, 1) := by decide +kernel
theorem c0_1543 : cd 0 1543 = some (.iaload, 1) := by decide +kernel
theorem c0_1544 : cd 0 1544 = some (.aload 0, 1) := by decide +kernel
theorem c0_1545 : cd 0 1545 = some (.iload 3, 1) := by decide +kernel
theorem c0_1546 : cd 0 1546 = some (.sipush 3, 1) := by decide +kernel
theorem c0_1547 : cd 0 1547 = some (.iadd, 1) := by decide +kernel
theorem c0_1548 : cd 0 1548 = some (.iaload, 1) := by decide +kernel
theorem c0_1549 : cd 0 1549 = some (.i2l, 1) := by decide +kernel
theorem c0_1550 : cd 0 1550 = some (.sipush 32, 2) := by decide +kernel
theorem c0_1552 : cd 0 1552 = some (.lshl, 1) := by decide +kernel
theorem c0_1553 : cd 0 1553 = some (.aload 0, 1) := by decide +kernel
theorem c0_1554 : cd 0 1554 = some (.iload 3, 1) := by decide +kernel
theorem c0_1555 : cd 0 1555 = some (.sipush 4, 1) := by decide +kernel
theorem c0_1556 : cd 0 1556 = some (.iadd, 1) := by decide +kernel
theorem c0_1557 : cd 0 1557 = some (.iaload, 1) := by decide +kernel
theorem c0_1558 : cd 0 1558 = some (.i2l, 1) := by decide +kernel
theorem c0_1559 : cd 0 1559 = some (.bipush 4294967295, 3) := by decide +kernel
theorem c0_1562 : cd 0 1562 = some (.land, 1) := by decide +kernel
theorem c0_1563 : cd 0 1563 = some (.lor, 1) := by decide +kernel
theorem c0_1564 : cd 0 1564 = some (.invokevirtual 92, 3) := by decide +kernel
theorem c0_1567 : cd 0 1567 = some (.lcmp, 1) := by decide +kernel
theorem c0_1568 : cd 0 1568 = some (.ifCond .eq 1642, 3) := by decide +kernel
theorem c0_1571 : cd 0 1571 = some (.sipush 0, 1) := by decide +kernel
theorem c0_1572 : cd 0 1572 = some (.ireturn, 1) := by decide +kernel
theorem c0_1573 : cd 0 1573 = some (.aload 1, 1) := by decide +kernel
theorem c0_1574 : cd 0 1574 = some (.aload 0, 1) := by decide +kernel
theorem c0_1575 : cd 0 1575 = some (.iload 3, 1) := by decide +kernel
theorem c0_1576 : cd 0 1576 = some (.sipush 1, 1) := by decide +kernel
theorem c0_1577 : cd 0 1577 = some (.iadd, 1) := by decide +kernel
theorem c0_1578 : cd 0 1578 = some (.iaload, 1) := by decide +kernel
theorem c0_1579 : cd 0 1579 = some (.invokevirtual 93, 3) := by decide +kernel
theorem c0_1582 : cd 0 1582 = some (.aload 2, 1) := by decide +kernel
theorem c0_1583 : cd 0 1583 = some (.aload 0, 1) := by decide +kernel
theorem c0_1584 : cd 0 1584 = some (.iload 3, 1) := by decide +kernel
theorem c0_1585 : cd 0 1585 = some (.sipush 1, 1) := by decide +kernel
theorem c0_1586 : cd 0 1586 = some (.iadd, 1) := by decide +kernel
theorem c0_1587 : cd 0 1587 = some (.iaload, 1) := by decide +kernel
theorem c0_1588 : cd 0 1588 = some (.invokevirtual 94, 3) := by decide +kernel
theorem c0_1591 : cd 0 1591 = some (.if_icmp .eq 1642, 3) := by decide +kernel
theorem c0_1594 : cd 0 1594 = some (.sipush 0, 1) := by decide +kernel
theorem c0_1595 : cd 0 1595 = some (.ireturn, 1) := by decide +kernel
theorem c0_1596 : cd 0 1596 = some (.aload 1, 1) := by decide +kernel
theorem c0_1597 : cd 0 1597 = some (.aload 0, 1) := by decide +kernel
theorem c0_1598 : cd 0 1598 = some (.iload 3, 1) := by decide +kernel
theorem c0_1599 : cd 0 1599 = some (.sipush 1, 1) := by decide +kernel
theorem c0_1600 : cd 0 1600 = some (.iadd, 1) := by decide +kernel
theorem c0_1601 : cd 0 1601 = some (.iaload, 1) := by decide +kernel
theorem c0_1602 : cd 0 1602 = some (.invokevirtual 95, 3) := by decide +kernel
theorem c0_1605 : cd 0 1605 = some (.aload 2, 1) := by decide +kernel
theorem c0_1606 : cd 0 1606 = some (.aload 0, 1) := by decide +kernel
theorem c0_1607 : cd 0 1607 = some (.iload 3, 1) := by decide +kernel
theorem c0_1608 : cd 0 1608 = some (.sipush 1, 1) := by decide +kernel
theorem c0_1609 : cd 0 1609 = some (.iadd, 1) := by decide +kernel
theorem c0_1610 : cd 0 1610 = some (.iaload, 1) := by decide +kernel
theorem c0_1611 : cd 0 1611 = some (.invokevirtual 96, 3) := by decide +kernel
theorem c0_1614 : cd 0 1614 = some (.if_icmp .eq 1642, 3) := by decide +kernel
theorem c0_1617 : cd 0 1617 = some (.sipush 0, 1) := by decide +kernel
theorem c0_1618 : cd 0 1618 = some (.ireturn, 1) := by decide +kernel
theorem c0_1619 : cd 0 1619 = some (.aload 1, 1) := by decide +kernel
theorem c0_1620 : cd 0 1620 = some (.aload 0, 1) := by decide +kernel
theorem c0_1621 : cd 0 1621 = some (.iload 3, 1) := by decide +kernel
theorem c0_1622 : cd 0 1622 = some (.sipush 1, 1) := by decide +kernel
theorem c0_1623 : cd 0 1623 = some (.iadd, 1) := by decide +kernel
theorem c0_1624 : cd 0 1624 = some (.iaload, 1) := by decide +kernel
theorem c0_1625 : cd 0 1625 = some (.invokevirtual 97, 3) := by decide +kernel
theorem c0_1628 : cd 0 1628 = some (.aload 2, 1) := by decide +kernel
theorem c0_1629 : cd 0 1629 = some (.aload 0, 1) := by decide +kernel
theorem c0_1630 : cd 0 1630 = some (.iload 3, 1) := by decide +kernel
theorem c0_1631 : cd 0 1631 = some (.sipush 1, 1) := by decide +kernel
theorem c0_1632 : cd 0 1632 = some (.iadd, 1) := by decide +kernel
theorem c0_1633 : cd 0 1633 = some (.iaload, 1) := by decide +kernel
theorem c0_1634 : cd 0 1634 = some (.invokevirtual 98, 3) := by decide +kernel
theorem c0_1637 : cd 0 1637 = some (.if_icmp .eq 1642, 3) := by decide +kernel
theorem c0_1640 : cd 0 1640 = some (.sipush 0, 1) := by decide +kernel
theorem c0_1641 : cd 0 1641 = some (.ireturn, 1) := by decide +kernel
theorem c0_1642 : cd 0 1642 = some (.iinc 3 6, 3) := by decide +kernel
theorem c0_1645 : cd 0 1645 = some (.goto 18, 3) := by decide +kernel
theorem c0_1648 : cd 0 1648 = some (.sipush 1, 1) := by decide +kernel
theorem c0_1649 : cd 0 1649 = some (.ireturn, 1) := by decide +kernel
theorem sw0_33 {d : Nat} {ls : List (Option aV)} {st : List aV} {w : aW} {Q : Option aV → aW → Prop} {x : Int} : T d 0 33 ls (vi x :: st) w Q = ((x = 0 → T d 0 244 ls st w Q) ∧ (x = 1 → T d 0 307 ls st w Q) ∧ (x = 2 → T d 0 330 ls st w Q) ∧ (x = 3 → T d 0 353 ls st w Q) ∧ (x = 4 → T d 0 386 ls st w Q) ∧ (x = 5 → T d 0 419 ls st w Q) ∧ (x = 6 → T d 0 442 ls st w Q) ∧ (x = 7 → T d 0 465 ls st w Q) ∧ (x = 8 → T d 0 488 ls st w Q) ∧ (x = 9 → T d 0 511 ls st w Q) ∧ (x = 10 → T d 0 534 ls st w Q) ∧ (x = 11 → T d 0 567 ls st w Q) ∧ (x = 12 → T d 0 590 ls st w Q) ∧ (x = 13 → T d 0 613 ls st w Q) ∧ (x = 14 → T d 0 646 ls st w Q) ∧ (x = 15 → T d 0 669 ls st w Q) ∧ (x = 16 → T d 0 702 ls st w Q) ∧ (x = 17 → T d 0 725 ls st w Q) ∧ (x = 18 → T d 0 758 ls st w Q) ∧ (x = 19 → T d 0 791 ls st w Q) ∧ (x = 20 → T d 0 814 ls st w Q) ∧ (x = 21 → T d 0 837 ls st w Q) ∧ (x = 22 → T d 0 860 ls st w Q) ∧ (x = 23 → T d 0 873 ls st w Q) ∧ (x = 24 → T d 0 886 ls st w Q) ∧ (x = 25 → T d 0 919 ls st w Q) ∧ (x = 26 → T d 0 942 ls st w Q) ∧ (x = 27 → T d 0 975 ls st w Q) ∧ (x = 28 → T d 0 998 ls st w Q) ∧ (x = 29 → T d 0 1021 ls st w Q) ∧ (x = 30 → T d 0 1034 ls st w Q) ∧ (x = 31 → T d 0 1067 ls st w Q) ∧ (x = 32 → T d 0 1090 ls st w Q) ∧ (x = 33 → T d 0 1123 ls st w Q) ∧ (x = 34 → T d 0 1146 ls st w Q) ∧ (x = 35 → T d 0 1159 ls st w Q) ∧ (x = 36 → T d 0 1172 ls st w Q) ∧ (x = 37 → T d 0 1235 ls st w Q) ∧ (x = 38 → T d 0 1268 ls st w Q) ∧ (x = 39 → T d 0 1301 ls st w Q) ∧ (x = 40 → T d 0 1344 ls st w Q) ∧ (x = 41 → T d 0 1377 ls st w Q) ∧ (x = 42 → T d 0 1410 ls st w Q) ∧ (x = 43 → T d 0 1433 ls st w Q) ∧ (x = 44 → T d 0 1456 ls st w Q) ∧ (x = 45 → T d 0 1499 ls st w Q) ∧ (x = 46 → T d 0 1573 ls st w Q) ∧ (x = 47 → T d 0 1596 ls st w Q) ∧ (x = 48 → T d 0 1619 ls st w Q) ∧ (¬ x = 0 ∧ ¬ x = 1 ∧ ¬ x = 2 ∧ ¬ x = 3 ∧ ¬ x = 4 ∧ ¬ x = 5 ∧ ¬ x = 6 ∧ ¬ x = 7 ∧ ¬ x = 8 ∧ ¬ x = 9 ∧ ¬ x = 10 ∧ ¬ x = 11 ∧ ¬ x = 12 ∧ ¬ x = 13 ∧ ¬ x = 14 ∧ ¬ x = 15 ∧ ¬ x = 16 ∧ ¬ x = 17 ∧ ¬ x = 18 ∧ ¬ x = 19 ∧ ¬ x = 20 ∧ ¬ x = 21 ∧ ¬ x = 22 ∧ ¬ x = 23 ∧ ¬ x = 24 ∧ ¬ x = 25 ∧ ¬ x = 26 ∧ ¬ x = 27 ∧ ¬ x = 28 ∧ ¬ x = 29 ∧ ¬ x = 30 ∧ ¬ x = 31 ∧ ¬ x = 32 ∧ ¬ x = 33 ∧ ¬ x = 34 ∧ ¬ x = 35 ∧ ¬ x = 36 ∧ ¬ x = 37 ∧ ¬ x = 38 ∧ ¬ x = 39 ∧ ¬ x = 40 ∧ ¬ x = 41 ∧ ¬ x = 42 ∧ ¬ x = 43 ∧ ¬ x = 44 ∧ ¬ x = 45 ∧ ¬ x = 46 ∧ ¬ x = 47 ∧ ¬ x = 48 → T d 0 1642 ls st w Q)) := by
  rw [T_tab c0_33]
  apply propext
  constructor
  · intro h
    refine ⟨fun q => by subst q; exact h, fun q => by subst q; exact h, fun q => by subst q; exact h, fun q => by subst q; exact h, fun q => by subst q; exact h, fun q => by subst q; exact h, fun q => by subst q; exact h, fun q => by subst q; exact h, fun q => by subst q; exact h, fun q => by subst q; exact h, fun q => by subst q; exact h, fun q => by subst q; exact h, fun q => by subst q; exact h, fun q => by subst q; exact h, fun q => by subst q; exact h, fun q => by subst q; exact h, fun q => by subst q; exact h, fun q => by subst q; exact h, fun q => by subst q; exact h, fun q => by subst q; exact h, fun q => by subst q; exact h, fun q => by subst q; exact h, fun q => by subst q; exact h, fun q => by subst q; exact h, fun q => by subst q; exact h, fun q => by subst q; exact h, fun q => by subst q; exact h, fun q => by subst q; exact h, fun q => by subst q; exact h, fun q => by subst q; exact h, fun q => by subst q; exact h, fun q => by subst q; exact h, fun q => by subst q; exact h, fun q => by subst q; exact h, fun q => by subst q; exact h, fun q => by subst q; exact h, fun q => by subst q; exact h, fun q => by subst q; exact h, fun q => by subst q; exact h, fun q => by subst q; exact h, fun q => by subst q; exact h, fun q => by subst q; exact h, fun q => by subst q; exact h, fun q => by subst q; exact h, fun q => by subst q; exact h, fun q => by subst q; exact h, fun q => by subst q; exact h, fun q => by subst q; exact h, fun q => by subst q; exact h, fun q => ?_⟩
    · have e : (if x < 0 ∨ 48 < x then (1642 : Int).toNat else ((#[244, 307, 330, 353, 386, 419, 442, 465, 488, 511, 534, 567, 590, 613, 646, 669, 702, 725, 758, 791, 814, 837, 860, 873, 886, 919, 942, 975, 998, 1021, 1034, 1067, 1090, 1123, 1146, 1159, 1172, 1235, 1268, 1301, 1344, 1377, 1410, 1433, 1456, 1499, 1573, 1596, 1619] : Array Int).toList.getD (x - 0).toNat 1642).toNat) = 1642 := by rw [if_pos (by omega)]; rfl
      rw [e] at h; exact h
  · rintro ⟨h0, h1, h2, h3, h4, h5, h6, h7, h8, h9, h10, h11, h12, h13, h14, h15, h16, h17, h18, h19, h20, h21, h22, h23, h24, h25, h26, h27, h28, h29, h30, h31, h32, h33, h34, h35, h36, h37, h38, h39, h40, h41, h42, h43, h44, h45, h46, h47, h48, hd⟩
    by_cases n0 : x = 0
    · subst n0; exact h0 rfl
    by_cases n1 : x = 1
    · subst n1; exact h1 rfl
    by_cases n2 : x = 2
    · subst n2; exact h2 rfl
    by_cases n3 : x = 3
    · subst n3; exact h3 rfl
    by_cases n4 : x = 4
    · subst n4; exact h4 rfl
    by_cases n5 : x = 5
    · subst n5; exact h5 rfl
    by_cases n6 : x = 6
    · subst n6; exact h6 rfl
    by_cases n7 : x = 7
    · subst n7; exact h7 rfl
    by_cases n8 : x = 8
    · subst n8; exact h8 rfl
    by_cases n9 : x = 9
    · subst n9; exact h9 rfl
    by_cases n10 : x = 10
    · subst n10; exact h10 rfl
    by_cases n11 : x = 11
    · subst n11; exact h11 rfl
    by_cases n12 : x = 12
    · subst n12; exact h12 rfl
    by_cases n13 : x = 13
    · subst n13; exact h13 rfl
    by_cases n14 : x = 14
    · subst n14; exact h14 rfl
    by_cases n15 : x = 15
    · subst n15; exact h15 rfl
    by_cases n16 : x = 16
    · subst n16; exact h16 rfl
    by_cases n17 : x = 17
    · subst n17; exact h17 rfl
    by_cases n18 : x = 18
    · subst n18; exact h18 rfl
    by_cases n19 : x = 19
    · subst n19; exact h19 rfl
    by_cases n20 : x = 20
    · subst n20; exact h20 rfl
    by_cases n21 : x = 21
    · subst n21; exact h21 rfl
    by_cases n22 : x = 22
    · subst n22; exact h22 rfl
    by_cases n23 : x = 23
    · subst n23; exact h23 rfl
    by_cases n24 : x = 24
    · subst n24; exact h24 rfl
    by_cases n25 : x = 25
    · subst n25; exact h25 rfl
    by_cases n26 : x = 26
    · subst n26; exact h26 rfl
    by_cases n27 : x = 27
    · subst n27; exact h27 rfl
    by_cases n28 : x = 28
    · subst n28; exact h28 rfl
    by_cases n29 : x = 29
    · subst n29; exact h29 rfl
    by_cases n30 : x = 30
    · subst n30; exact h30 rfl
    by_cases n31 : x = 31
    · subst n31; exact h31 rfl
    by_cases n32 : x = 32
    · subst n32; exact h32 rfl
    by_cases n33 : x = 33
    · subst n33; exact h33 rfl
    by_cases n34 : x = 34
    · subst n34; exact h34 rfl
    by_cases n35 : x = 35
    · subst n35; exact h35 rfl
    by_cases n36 : x = 36
    · subst n36; exact h36 rfl
    by_cases n37 : x = 37
    · subst n37; exact h37 rfl
    by_cases n38 : x = 38
    · subst n38; exact h38 rfl
    by_cases n39 : x = 39
    · subst n39; exact h39 rfl
    by_cases n40 : x = 40
    · subst n40; exact h40 rfl
    by_cases n41 : x = 41
    · subst n41; exact h41 rfl
    by_cases n42 : x = 42
    · subst n42; exact h42 rfl
    by_cases n43 : x = 43
    · subst n43; exact h43 rfl
    by_cases n44 : x = 44
    · subst n44; exact h44 rfl
    by_cases n45 : x = 45
    · subst n45; exact h45 rfl
    by_cases n46 : x = 46
    · subst n46; exact h46 rfl
    by_cases n47 : x = 47
    · subst n47; exact h47 rfl
    by_cases n48 : x = 48
    · subst n48; exact h48 rfl
    · have e : (if x < 0 ∨ 48 < x then (1642 : Int).toNat else ((#[244, 307, 330, 353, 386, 419, 442, 465, 488, 511, 534, 567, 590, 613, 646, 669, 702, 725, 758, 791, 814, 837, 860, 873, 886, 919, 942, 975, 998, 1021, 1034, 1067, 1090, 1123, 1146, 1159, 1172, 1235, 1268, 1301, 1344, 1377, 1410, 1433, 1456, 1499, 1573, 1596, 1619] : Array Int).toList.getD (x - 0).toNat 1642).toNat) = 1642 := by rw [if_pos (by omega)]; rfl
      rw [e]; exact hd ⟨n0, n1, n2, n3, n4, n5, n6, n7, n8, n9, n10, n11, n12, n13, n14, n15, n16, n17, n18, n19, n20, n21, n22, n23, n24, n25, n26, n27, n28, n29, n30, n31, n32, n33, n34, n35, n36, n37, n38, n39, n40, n41, n42, n43, n44, n45, n46, n47, n48⟩
theorem g0_16 {d : Nat} {x0 x1 x2 x3 : Option aV} {w : aW} {Q : Option aV → aW → Prop} : T d 0 16 [x0, x1, x2, x3] [] w Q = T d 0 18 [x0, x1, x2, some (vi 0)] [] w Q := by
  rw [T_sipush c0_16, T_istore_3 c0_17]
  all_goals try simp only [true_and, Nat.reduceAdd, eq_self_iff_true]
theorem g0_18 {d : Nat} {a3 : Int} {r1 : Nat} {x2 : Option aV} {w : aW} {Q : Option aV → aW → Prop} : T (d + 1) 0 18 [some (vr 999), some (vr r1), x2, some (vi a3)] [] w Q = (alok 999 ∧ ((w32 ((alv w 999) - 6) < a3 → Q (some (vi 1)) w) ∧ (¬ (w32 ((alv w 999) - 6) < a3) → ((0 ≤ a3 ∧ a3 < w 999 (-1)) ∧ ((jand (w 999 a3) 63 = 0 → ((0 ≤ w32 (a3 + 1) ∧ w32 (a3 + 1) < w 999 (-1)) ∧ ((0 ≤ w32 (a3 + 2) ∧ w32 (a3 + 2) < w 999 (-1)) ∧ ((0 ≤ w32 (a3 + 3) ∧ w32 (a3 + 3) < w 999 (-1)) ∧ ((0 ≤ w32 (a3 + 4) ∧ w32 (a3 + 4) < w 999 (-1)) ∧ ((0 ≤ w32 (a3 + 5) ∧ w32 (a3 + 5) < w 999 (-1)) ∧ (lay r1 = (11, 0) ∧ T d 1 0 [some (vr r1), some (vi (w 999 (w32 (a3 + 1)))), some (vi (w 999 (w32 (a3 + 2)))), some (vi (w 999 (w32 (a3 + 3)))), some (vi (w 999 (w32 (a3 + 4)))), some (vi (w 999 (w32 (a3 + 5))))] [] w (fun r w1 => T (d + 1) 0 273 [some (vr 999), some (vr r1), x2, some (vi a3)] (r.toList ++ []) w1 Q)))))))) ∧ (jand (w 999 a3) 63 = 1 → ((0 ≤ w32 (a3 + 1) ∧ w32 (a3 + 1) < w 999 (-1)) ∧ (lay r1 = (11, 0) ∧ T d 3 0 [some (vr r1), some (vi (w 999 (w32 (a3 + 1))))] [] w (fun r w1 => T (d + 1) 0 316 [some (vr 999), some (vr r1), x2, some (vi a3)] (r.toList ++ []) w1 Q)))) ∧ (jand (w 999 a3) 63 = 2 → ((0 ≤ w32 (a3 + 1) ∧ w32 (a3 + 1) < w 999 (-1)) ∧ (lay r1 = (11, 0) ∧ T d 5 0 [some (vr r1), some (vi (w 999 (w32 (a3 + 1))))] [] w (fun r w1 => T (d + 1) 0 339 [some (vr 999), some (vr r1), x2, some (vi a3)] (r.toList ++ []) w1 Q)))) ∧ (jand (w 999 a3) 63 = 3 → ((0 ≤ w32 (a3 + 1) ∧ w32 (a3 + 1) < w 999 (-1)) ∧ ((0 ≤ w32 (a3 + 2) ∧ w32 (a3 + 2) < w 999 (-1)) ∧ (lay r1 = (11, 0) ∧ T d 7 0 [some (vr r1), some (vi (w 999 (w32 (a3 + 1)))), some (vi (w 999 (w32 (a3 + 2))))] [] w (fun r w1 => T (d + 1) 0 367 [some (vr 999), some (vr r1), x2, some (vi a3)] (r.toList ++ []) w1 Q))))) ∧ (jand (w 999 a3) 63 = 4 → ((0 ≤ w32 (a3 + 1) ∧ w32 (a3 + 1) < w 999 (-1)) ∧ ((0 ≤ w32 (a3 + 2) ∧ w32 (a3 + 2) < w 999 (-1)) ∧ (lay r1 = (11, 0) ∧ T d 9 0 [some (vr r1), some (vi (w 999 (w32 (a3 + 1)))), some (vi (w 999 (w32 (a3 + 2))))] [] w (fun r w1 => T (d + 1) 0 400 [some (vr 999), some (vr r1), x2, some (vi a3)] (r.toList ++ []) w1 Q))))) ∧ (jand (w 999 a3) 63 = 5 → ((0 ≤ w32 (a3 + 1) ∧ w32 (a3 + 1) < w 999 (-1)) ∧ (lay r1 = (11, 0) ∧ T d 11 0 [some (vr r1), some (vi (w 999 (w32 (a3 + 1))))] [] w (fun r w1 => T (d + 1) 0 428 [some (vr 999), some (vr r1), x2, some (vi a3)] (r.toList ++ []) w1 Q)))) ∧ (jand (w 999 a3) 63 = 6 → ((0 ≤ w32 (a3 + 1) ∧ w32 (a3 + 1) < w 999 (-1)) ∧ (lay r1 = (11, 0) ∧ T d 13 0 [some (vr r1), some (vi (w 999 (w32 (a3 + 1)))), none] [] w (fun r w1 => T (d + 1) 0 451 [some (vr 999), some (vr r1), x2, some (vi a3)] (r.toList ++ []) w1 Q)))) ∧ (jand (w 999 a3) 63 = 7 → ((0 ≤ w32 (a3 + 1) ∧ w32 (a3 + 1) < w 999 (-1)) ∧ (lay r1 = (11, 0) ∧ T d 15 0 [some (vr r1), some (vi (w 999 (w32 (a3 + 1)))), none, none] [] w (fun r w1 => T (d + 1) 0 474 [some (vr 999), some (vr r1), x2, some (vi a3)] (r.toList ++ []) w1 Q)))) ∧ (jand (w 999 a3) 63 = 8 → ((0 ≤ w32 (a3 + 1) ∧ w32 (a3 + 1) < w 999 (-1)) ∧ (lay r1 = (11, 0) ∧ T d 17 0 [some (vr r1), some (vi (w 999 (w32 (a3 + 1))))] [] w (fun r w1 => T (d + 1) 0 497 [some (vr 999), some (vr r1), x2, some (vi a3)] (r.toList ++ []) w1 Q)))) ∧ (jand (w 999 a3) 63 = 9 → ((0 ≤ w32 (a3 + 1) ∧ w32 (a3 + 1) < w 999 (-1)) ∧ (lay r1 = (11, 0) ∧ T d 19 0 [some (vr r1), some (vi (w 999 (w32 (a3 + 1))))] [] w (fun r w1 => T (d + 1) 0 520 [some (vr 999), some (vr r1), x2, some (vi a3)] (r.toList ++ []) w1 Q)))) ∧ (jand (w 999 a3) 63 = 10 → ((0 ≤ w32 (a3 + 1) ∧ w32 (a3 + 1) < w 999 (-1)) ∧ ((0 ≤ w32 (a3 + 2) ∧ w32 (a3 + 2) < w 999 (-1)) ∧ (lay r1 = (11, 0) ∧ T d 21 0 [some (vr r1), some (vi (w 999 (w32 (a3 + 1)))), some (vi (w 999 (w32 (a3 + 2)))), none] [] w (fun r w1 => T (d + 1) 0 548 [some (vr 999), some (vr r1), x2, some (vi a3)] (r.toList ++ []) w1 Q))))) ∧ (jand (w 999 a3) 63 = 11 → ((0 ≤ w32 (a3 + 1) ∧ w32 (a3 + 1) < w 999 (-1)) ∧ (lay r1 = (11, 0) ∧ T d 23 0 [some (vr r1), some (vi (w 999 (w32 (a3 + 1))))] [] w (fun r w1 => T (d + 1) 0 576 [some (vr 999), some (vr r1), x2, some (vi a3)] (r.toList ++ []) w1 Q)))) ∧ (jand (w 999 a3) 63 = 12 → ((0 ≤ w32 (a3 + 1) ∧ w32 (a3 + 1) < w 999 (-1)) ∧ (lay r1 = (11, 0) ∧ T d 25 0 [some (vr r1), some (vi (w 999 (w32 (a3 + 1))))] [] w (fun r w1 => T (d + 1) 0 599 [some (vr 999), some (vr r1), x2, some (vi a3)] (r.toList ++ []) w1 Q)))) ∧ (jand (w 999 a3) 63 = 13 → ((0 ≤ w32 (a3 + 1) ∧ w32 (a3 + 1) < w 999 (-1)) ∧ ((0 ≤ w32 (a3 + 2) ∧ w32 (a3 + 2) < w 999 (-1)) ∧ (lay r1 = (11, 0) ∧ T d 27 0 [some (vr r1), some (vi (w 999 (w32 (a3 + 1)))), some (vi (w 999 (w32 (a3 + 2)))), none] [] w (fun r w1 => T (d + 1) 0 627 [some (vr 999), some (vr r1), x2, some (vi a3)] (r.toList ++ []) w1 Q))))) ∧ (jand (w 999 a3) 63 = 14 → ((0 ≤ w32 (a3 + 1) ∧ w32 (a3 + 1) < w 999 (-1)) ∧ (lay r1 = (11, 0) ∧ T d 29 0 [some (vr r1), some (vi (w 999 (w32 (a3 + 1)))), none] [] w (fun r w1 => T (d + 1) 0 655 [some (vr 999), some (vr r1), x2, some (vi a3)] (r.toList ++ []) w1 Q)))) ∧ (jand (w 999 a3) 63 = 15 → ((0 ≤ w32 (a3 + 1) ∧ w32 (a3 + 1) < w 999 (-1)) ∧ ((0 ≤ w32 (a3 + 2) ∧ w32 (a3 + 2) < w 999 (-1)) ∧ (lay r1 = (11, 0) ∧ T d 31 0 [some (vr r1), some (vi (w 999 (w32 (a3 + 1)))), some (vi (w 999 (w32 (a3 + 2))))] [] w (fun r w1 => T (d + 1) 0 683 [some (vr 999), some (vr r1), x2, some (vi a3)] (r.toList ++ []) w1 Q))))) ∧ (jand (w 999 a3) 63 = 16 → ((0 ≤ w32 (a3 + 1) ∧ w32 (a3 + 1) < w 999 (-1)) ∧ (lay r1 = (11, 0) ∧ T d 33 0 [some (vr r1), some (vi (w 999 (w32 (a3 + 1))))] [] w (fun r w1 => T (d + 1) 0 711 [some (vr 999), some (vr r1), x2, some (vi a3)] (r.toList ++ []) w1 Q)))) ∧ (jand (w 999 a3) 63 = 17 → ((0 ≤ w32 (a3 + 1) ∧ w32 (a3 + 1) < w 999 (-1)) ∧ ((0 ≤ w32 (a3 + 2) ∧ w32 (a3 + 2) < w 999 (-1)) ∧ (lay r1 = (11, 0) ∧ T d 35 0 [some (vr r1), some (vi (w 999 (w32 (a3 + 1)))), some (vi (w 999 (w32 (a3 + 2)))), none, none, none] [] w (fun r w1 => T (d + 1) 0 739 [some (vr 999), some (vr r1), x2, some (vi a3)] (r.toList ++ []) w1 Q))))) ∧ (jand (w 999 a3) 63 = 18 → ((0 ≤ w32 (a3 + 1) ∧ w32 (a3 + 1) < w 999 (-1)) ∧ ((0 ≤ w32 (a3 + 2) ∧ w32 (a3 + 2) < w 999 (-1)) ∧ (lay r1 = (11, 0) ∧ T d 37 0 [some (vr r1), some (vi (w 999 (w32 (a3 + 1)))), some (vi (w 999 (w32 (a3 + 2))))] [] w (fun r w1 => T (d + 1) 0 772 [some (vr 999), some (vr r1), x2, some (vi a3)] (r.toList ++ []) w1 Q))))) ∧ (jand (w 999 a3) 63 = 19 → ((0 ≤ w32 (a3 + 1) ∧ w32 (a3 + 1) < w 999 (-1)) ∧ (lay r1 = (11, 0) ∧ T d 39 0 [some (vr r1), some (vi (w 999 (w32 (a3 + 1)))), none, none] [] w (fun r w1 => T (d + 1) 0 800 [some (vr 999), some (vr r1), x2, some (vi a3)] (r.toList ++ []) w1 Q)))) ∧ (jand (w 999 a3) 63 = 20 → ((0 ≤ w32 (a3 + 1) ∧ w32 (a3 + 1) < w 999 (-1)) ∧ (lay r1 = (11, 0) ∧ T d 41 0 [some (vr r1), some (vi (w 999 (w32 (a3 + 1)))), none] [] w (fun r w1 => T (d + 1) 0 823 [some (vr 999), some (vr r1), x2, some (vi a3)] (r.toList ++ []) w1 Q)))) ∧ (jand (w 999 a3) 63 = 21 → ((0 ≤ w32 (a3 + 1) ∧ w32 (a3 + 1) < w 999 (-1)) ∧ (lay r1 = (11, 0) ∧ T d 43 0 [some (vr r1), some (vi (w 999 (w32 (a3 + 1)))), none, none] [] w (fun r w1 => T (d + 1) 0 846 [some (vr 999), some (vr r1), x2, some (vi a3)] (r.toList ++ []) w1 Q)))) ∧ (jand (w 999 a3) 63 = 22 → (lay r1 = (11, 0) ∧ T d 45 0 [some (vr r1)] [] w (fun r w1 => T (d + 1) 0 864 [some (vr 999), some (vr r1), x2, some (vi a3)] (r.toList ++ []) w1 Q))) ∧ (jand (w 999 a3) 63 = 23 → (lay r1 = (11, 0) ∧ T d 47 0 [some (vr r1), none, none] [] w (fun r w1 => T (d + 1) 0 877 [some (vr 999), some (vr r1), x2, some (vi a3)] (r.toList ++ []) w1 Q))) ∧ (jand (w 999 a3) 63 = 24 → ((0 ≤ w32 (a3 + 1) ∧ w32 (a3 + 1) < w 999 (-1)) ∧ ((0 ≤ w32 (a3 + 2) ∧ w32 (a3 + 2) < w 999 (-1)) ∧ (lay r1 = (11, 0) ∧ T d 49 0 [some (vr r1), some (vi (w 999 (w32 (a3 + 1)))), some (vi (w 999 (w32 (a3 + 2)))), none] [] w (fun r w1 => T (d + 1) 0 900 [some (vr 999), some (vr r1), x2, some (vi a3)] (r.toList ++ []) w1 Q))))) ∧ (jand (w 999 a3) 63 = 25 → ((0 ≤ w32 (a3 + 1) ∧ w32 (a3 + 1) < w 999 (-1)) ∧ (lay r1 = (11, 0) ∧ T d 51 0 [some (vr r1), some (vi (w 999 (w32 (a3 + 1)))), none, none] [] w (fun r w1 => T (d + 1) 0 928 [some (vr 999), some (vr r1), x2, some (vi a3)] (r.toList ++ []) w1 Q)))) ∧ (jand (w 999 a3) 63 = 26 → ((0 ≤ w32 (a3 + 1) ∧ w32 (a3 + 1) < w 999 (-1)) ∧ ((0 ≤ w32 (a3 + 2) ∧ w32 (a3 + 2) < w 999 (-1)) ∧ (lay r1 = (11, 0) ∧ T d 53 0 [some (vr r1), some (vi (w 999 (w32 (a3 + 1)))), some (vi (w 999 (w32 (a3 + 2)))), none] [] w (fun r w1 => T (d + 1) 0 956 [some (vr 999), some (vr r1), x2, some (vi a3)] (r.toList ++ []) w1 Q))))) ∧ (jand (w 999 a3) 63 = 27 → ((0 ≤ w32 (a3 + 1) ∧ w32 (a3 + 1) < w 999 (-1)) ∧ (lay r1 = (11, 0) ∧ T d 55 0 [some (vr r1), some (vi (w 999 (w32 (a3 + 1))))] [] w (fun r w1 => T (d + 1) 0 984 [some (vr 999), some (vr r1), x2, some (vi a3)] (r.toList ++ []) w1 Q)))) ∧ (jand (w 999 a3) 63 = 28 → ((0 ≤ w32 (a3 + 1) ∧ w32 (a3 + 1) < w 999 (-1)) ∧ (lay r1 = (11, 0) ∧ T d 57 0 [some (vr r1), some (vi (w 999 (w32 (a3 + 1))))] [] w (fun r w1 => T (d + 1) 0 1007 [some (vr 999), some (vr r1), x2, some (vi a3)] (r.toList ++ []) w1 Q)))) ∧ (jand (w 999 a3) 63 = 29 → (lay r1 = (11, 0) ∧ T d 59 0 [some (vr r1), none, none] [] w (fun r w1 => T (d + 1) 0 1025 [some (vr 999), some (vr r1), x2, some (vi a3)] (r.toList ++ []) w1 Q))) ∧ (jand (w 999 a3) 63 = 30 → ((0 ≤ w32 (a3 + 1) ∧ w32 (a3 + 1) < w 999 (-1)) ∧ ((0 ≤ w32 (a3 + 2) ∧ w32 (a3 + 2) < w 999 (-1)) ∧ (lay r1 = (11, 0) ∧ T d 61 0 [some (vr r1), some (vi (w 999 (w32 (a3 + 1)))), some (vi (w 999 (w32 (a3 + 2))))] [] w (fun r w1 => T (d + 1) 0 1048 [some (vr 999), some (vr r1), x2, some (vi a3)] (r.toList ++ []) w1 Q))))) ∧ (jand (w 999 a3) 63 = 31 → ((0 ≤ w32 (a3 + 1) ∧ w32 (a3 + 1) < w 999 (-1)) ∧ (lay r1 = (11, 0) ∧ T d 63 0 [some (vr r1), some (vi (w 999 (w32 (a3 + 1)))), none, none] [] w (fun r w1 => T (d + 1) 0 1076 [some (vr 999), some (vr r1), x2, some (vi a3)] (r.toList ++ []) w1 Q)))) ∧ (jand (w 999 a3) 63 = 32 → ((0 ≤ w32 (a3 + 1) ∧ w32 (a3 + 1) < w 999 (-1)) ∧ ((0 ≤ w32 (a3 + 2) ∧ w32 (a3 + 2) < w 999 (-1)) ∧ (lay r1 = (11, 0) ∧ T d 65 0 [some (vr r1), some (vi (w 999 (w32 (a3 + 1)))), some (vi (w 999 (w32 (a3 + 2)))), none, none, none] [] w (fun r w1 => T (d + 1) 0 1104 [some (vr 999), some (vr r1), x2, some (vi a3)] (r.toList ++ []) w1 Q))))) ∧ (jand (w 999 a3) 63 = 33 → ((0 ≤ w32 (a3 + 1) ∧ w32 (a3 + 1) < w 999 (-1)) ∧ (lay r1 = (11, 0) ∧ T d 67 0 [some (vr r1), some (vi (w 999 (w32 (a3 + 1)))), none] [] w (fun r w1 => T (d + 1) 0 1132 [some (vr 999), some (vr r1), x2, some (vi a3)] (r.toList ++ []) w1 Q)))) ∧ (jand (w 999 a3) 63 = 34 → (lay r1 = (11, 0) ∧ T d 69 0 [some (vr r1)] [] w (fun r w1 => T (d + 1) 0 1150 [some (vr 999), some (vr r1), x2, some (vi a3)] (r.toList ++ []) w1 Q))) ∧ (jand (w 999 a3) 63 = 35 → (lay r1 = (11, 0) ∧ T d 71 0 [some (vr r1)] [] w (fun r w1 => T (d + 1) 0 1163 [some (vr 999), some (vr r1), x2, some (vi a3)] (r.toList ++ []) w1 Q))) ∧ (jand (w 999 a3) 63 = 36 → ((0 ≤ w32 (a3 + 1) ∧ w32 (a3 + 1) < w 999 (-1)) ∧ ((0 ≤ w32 (a3 + 2) ∧ w32 (a3 + 2) < w 999 (-1)) ∧ ((0 ≤ w32 (a3 + 3) ∧ w32 (a3 + 3) < w 999 (-1)) ∧ ((0 ≤ w32 (a3 + 4) ∧ w32 (a3 + 4) < w 999 (-1)) ∧ ((0 ≤ w32 (a3 + 5) ∧ w32 (a3 + 5) < w 999 (-1)) ∧ (lay r1 = (11, 0) ∧ T d 73 0 [some (vr r1), some (vi (w 999 (w32 (a3 + 1)))), some (vi (w 999 (w32 (a3 + 2)))), some (vi (w 999 (w32 (a3 + 3)))), some (vi (w 999 (w32 (a3 + 4)))), some (vi (w 999 (w32 (a3 + 5)))), none, none] [] w (fun r w1 => T (d + 1) 0 1201 [some (vr 999), some (vr r1), x2, some (vi a3)] (r.toList ++ []) w1 Q)))))))) ∧ (jand (w 999 a3) 63 = 37 → ((0 ≤ w32 (a3 + 1) ∧ w32 (a3 + 1) < w 999 (-1)) ∧ ((0 ≤ w32 (a3 + 2) ∧ w32 (a3 + 2) < w 999 (-1)) ∧ (lay r1 = (11, 0) ∧ T d 75 0 [some (vr r1), some (vi (w 999 (w32 (a3 + 1)))), some (vi (w 999 (w32 (a3 + 2))))] [] w (fun r w1 => T (d + 1) 0 1249 [some (vr 999), some (vr r1), x2, some (vi a3)] (r.toList ++ []) w1 Q))))) ∧ (jand (w 999 a3) 63 = 38 → ((0 ≤ w32 (a3 + 1) ∧ w32 (a3 + 1) < w 999 (-1)) ∧ ((0 ≤ w32 (a3 + 2) ∧ w32 (a3 + 2) < w 999 (-1)) ∧ (lay r1 = (11, 0) ∧ T d 77 0 [some (vr r1), some (vi (w 999 (w32 (a3 + 1)))), some (vi (w 999 (w32 (a3 + 2)))), none] [] w (fun r w1 => T (d + 1) 0 1282 [some (vr 999), some (vr r1), x2, some (vi a3)] (r.toList ++ []) w1 Q))))) ∧ (jand (w 999 a3) 63 = 39 → ((0 ≤ w32 (a3 + 1) ∧ w32 (a3 + 1) < w 999 (-1)) ∧ ((0 ≤ w32 (a3 + 2) ∧ w32 (a3 + 2) < w 999 (-1)) ∧ ((0 ≤ w32 (a3 + 3) ∧ w32 (a3 + 3) < w 999 (-1)) ∧ (lay r1 = (11, 0) ∧ T d 79 0 [some (vr r1), some (vi (w 999 (w32 (a3 + 1)))), some (vi (w 999 (w32 (a3 + 2)))), some (vi (w 999 (w32 (a3 + 3)))), none, none] [] w (fun r w1 => T (d + 1) 0 1320 [some (vr 999), some (vr r1), x2, some (vi a3)] (r.toList ++ []) w1 Q)))))) ∧ (jand (w 999 a3) 63 = 40 → ((0 ≤ w32 (a3 + 1) ∧ w32 (a3 + 1) < w 999 (-1)) ∧ ((0 ≤ w32 (a3 + 2) ∧ w32 (a3 + 2) < w 999 (-1)) ∧ (lay r1 = (11, 0) ∧ T d 81 0 [some (vr r1), some (vi (w 999 (w32 (a3 + 1)))), some (vi (w 999 (w32 (a3 + 2)))), none] [] w (fun r w1 => T (d + 1) 0 1358 [some (vr 999), some (vr r1), x2, some (vi a3)] (r.toList ++ []) w1 Q))))) ∧ (jand (w 999 a3) 63 = 41 → ((0 ≤ w32 (a3 + 1) ∧ w32 (a3 + 1) < w 999 (-1)) ∧ ((0 ≤ w32 (a3 + 2) ∧ w32 (a3 + 2) < w 999 (-1)) ∧ (lay r1 = (11, 0) ∧ T d 83 0 [some (vr r1), some (vi (w 999 (w32 (a3 + 1)))), some (vi (w 999 (w32 (a3 + 2)))), none] [] w (fun r w1 => T (d + 1) 0 1391 [some (vr 999), some (vr r1), x2, some (vi a3)] (r.toList ++ []) w1 Q))))) ∧ (jand (w 999 a3) 63 = 42 → ((0 ≤ w32 (a3 + 1) ∧ w32 (a3 + 1) < w 999 (-1)) ∧ (lay r1 = (11, 0) ∧ T d 85 0 [some (vr r1), some (vi (w 999 (w32 (a3 + 1)))), none, none, none, none] [] w (fun r w1 => T (d + 1) 0 1419 [some (vr 999), some (vr r1), x2, some (vi a3)] (r.toList ++ []) w1 Q)))) ∧ (jand (w 999 a3) 63 = 43 → ((0 ≤ w32 (a3 + 1) ∧ w32 (a3 + 1) < w 999 (-1)) ∧ (lay r1 = (11, 0) ∧ T d 87 0 [some (vr r1), some (vi (w 999 (w32 (a3 + 1)))), none, none] [] w (fun r w1 => T (d + 1) 0 1442 [some (vr 999), some (vr r1), x2, some (vi a3)] (r.toList ++ []) w1 Q)))) ∧ (jand (w 999 a3) 63 = 44 → ((0 ≤ w32 (a3 + 1) ∧ w32 (a3 + 1) < w 999 (-1)) ∧ ((0 ≤ w32 (a3 + 2) ∧ w32 (a3 + 2) < w 999 (-1)) ∧ ((0 ≤ w32 (a3 + 3) ∧ w32 (a3 + 3) < w 999 (-1)) ∧ (lay r1 = (11, 0) ∧ T d 89 0 [some (vr r1), some (vi (w 999 (w32 (a3 + 1)))), some (vi (w 999 (w32 (a3 + 2)))), some (vi (w 999 (w32 (a3 + 3))))] [] w (fun r w1 => T (d + 1) 0 1475 [some (vr 999), some (vr r1), x2, some (vi a3)] (r.toList ++ []) w1 Q)))))) ∧ (jand (w 999 a3) 63 = 45 → ((0 ≤ w32 (a3 + 1) ∧ w32 (a3 + 1) < w 999 (-1)) ∧ ((0 ≤ w32 (a3 + 2) ∧ w32 (a3 + 2) < w 999 (-1)) ∧ ((0 ≤ w32 (a3 + 3) ∧ w32 (a3 + 3) < w 999 (-1)) ∧ ((0 ≤ w32 (a3 + 4) ∧ w32 (a3 + 4) < w 999 (-1)) ∧ (lay r1 = (11, 0) ∧ T d 91 0 [some (vr r1), some (vi (w 999 (w32 (a3 + 1)))), some (vi (w 999 (w32 (a3 + 2)))), some (vl (kor (kshl (w 999 (w32 (a3 + 3))) 32) (kand (w 999 (w32 (a3 + 4))) 4294967295))), none] [] w (fun r w1 => T (d + 1) 0 1533 [some (vr 999), some (vr r1), x2, some (vi a3)] (r.toList ++ []) w1 Q))))))) ∧ (jand (w 999 a3) 63 = 46 → ((0 ≤ w32 (a3 + 1) ∧ w32 (a3 + 1) < w 999 (-1)) ∧ (lay r1 = (11, 0) ∧ T d 93 0 [some (vr r1), some (vi (w 999 (w32 (a3 + 1))))] [] w (fun r w1 => T (d + 1) 0 1582 [some (vr 999), some (vr r1), x2, some (vi a3)] (r.toList ++ []) w1 Q)))) ∧ (jand (w 999 a3) 63 = 47 → ((0 ≤ w32 (a3 + 1) ∧ w32 (a3 + 1) < w 999 (-1)) ∧ (lay r1 = (11, 0) ∧ T d 95 0 [some (vr r1), some (vi (w 999 (w32 (a3 + 1))))] [] w (fun r w1 => T (d + 1) 0 1605 [some (vr 999), some (vr r1), x2, some (vi a3)] (r.toList ++ []) w1 Q)))) ∧ (jand (w 999 a3) 63 = 48 → ((0 ≤ w32 (a3 + 1) ∧ w32 (a3 + 1) < w 999 (-1)) ∧ (lay r1 = (11, 0) ∧ T d 97 0 [some (vr r1), some (vi (w 999 (w32 (a3 + 1))))] [] w (fun r w1 => T (d + 1) 0 1628 [some (vr 999), some (vr r1), x2, some (vi a3)] (r.toList ++ []) w1 Q)))) ∧ (¬ jand (w 999 a3) 63 = 0 ∧ ¬ jand (w 999 a3) 63 = 1 ∧ ¬ jand (w 999 a3) 63 = 2 ∧ ¬ jand (w 999 a3) 63 = 3 ∧ ¬ jand (w 999 a3) 63 = 4 ∧ ¬ jand (w 999 a3) 63 = 5 ∧ ¬ jand (w 999 a3) 63 = 6 ∧ ¬ jand (w 999 a3) 63 = 7 ∧ ¬ jand (w 999 a3) 63 = 8 ∧ ¬ jand (w 999 a3) 63 = 9 ∧ ¬ jand (w 999 a3) 63 = 10 ∧ ¬ jand (w 999 a3) 63 = 11 ∧ ¬ jand (w 999 a3) 63 = 12 ∧ ¬ jand (w 999 a3) 63 = 13 ∧ ¬ jand (w 999 a3) 63 = 14 ∧ ¬ jand (w 999 a3) 63 = 15 ∧ ¬ jand (w 999 a3) 63 = 16 ∧ ¬ jand (w 999 a3) 63 = 17 ∧ ¬ jand (w 999 a3) 63 = 18 ∧ ¬ jand (w 999 a3) 63 = 19 ∧ ¬ jand (w 999 a3) 63 = 20 ∧ ¬ jand (w 999 a3) 63 = 21 ∧ ¬ jand (w 999 a3) 63 = 22 ∧ ¬ jand (w 999 a3) 63 = 23 ∧ ¬ jand (w 999 a3) 63 = 24 ∧ ¬ jand (w 999 a3) 63 = 25 ∧ ¬ jand (w 999 a3) 63 = 26 ∧ ¬ jand (w 999 a3) 63 = 27 ∧ ¬ jand (w 999 a3) 63 = 28 ∧ ¬ jand (w 999 a3) 63 = 29 ∧ ¬ jand (w 999 a3) 63 = 30 ∧ ¬ jand (w 999 a3) 63 = 31 ∧ ¬ jand (w 999 a3) 63 = 32 ∧ ¬ jand (w 999 a3) 63 = 33 ∧ ¬ jand (w 999 a3) 63 = 34 ∧ ¬ jand (w 999 a3) 63 = 35 ∧ ¬ jand (w 999 a3) 63 = 36 ∧ ¬ jand (w 999 a3) 63 = 37 ∧ ¬ jand (w 999 a3) 63 = 38 ∧ ¬ jand (w 999 a3) 63 = 39 ∧ ¬ jand (w 999 a3) 63 = 40 ∧ ¬ jand (w 999 a3) 63 = 41 ∧ ¬ jand (w 999 a3) 63 = 42 ∧ ¬ jand (w 999 a3) 63 = 43 ∧ ¬ jand (w 999 a3) 63 = 44 ∧ ¬ jand (w 999 a3) 63 = 45 ∧ ¬ jand (w 999 a3) 63 = 46 ∧ ¬ jand (w 999 a3) 63 = 47 ∧ ¬ jand (w 999 a3) 63 = 48 → T (d + 1) 0 1642 [some (vr 999), some (vr r1), x2, some (vi a3)] [] w Q)))))) := by
  rw [T_iload_3 c0_18, T_aload_0 c0_19, T_alen c0_20, T_sipush c0_21, T_isub c0_23, T_icmp_gt 1648 c0_24 rfl, T_sipush c0_1648, T_iretz c0_1649 (by decide +kernel), T_aload_0 c0_27, T_iload_3 c0_28, T_iald c0_29, T_sipush c0_30, T_iand c0_32, sw0_33, T_aload_1 c0_244, T_aload_0 c0_245, T_iload_3 c0_246, T_sipush c0_247, T_iadd c0_248, T_iald c0_249, T_aload_0 c0_250, T_iload_3 c0_251, T_sipush c0_252, T_iadd c0_253, T_iald c0_254, T_aload_0 c0_255, T_iload_3 c0_256, T_sipush c0_257, T_iadd c0_258, T_iald c0_259, T_aload_0 c0_260, T_iload_3 c0_261, T_sipush c0_262, T_iadd c0_263, T_iald c0_264, T_aload_0 c0_265, T_iload_3 c0_266, T_sipush c0_267, T_iadd c0_268, T_iald c0_269, T_invv (es := [some (vr r1), some (vi (w 999 (w32 (a3 + 1)))), some (vi (w 999 (w32 (a3 + 2)))), some (vi (w 999 (w32 (a3 + 3)))), some (vi (w 999 (w32 (a3 + 4)))), some (vi (w 999 (w32 (a3 + 5))))]) (st := [vi (w 999 (w32 (a3 + 5))), vi (w 999 (w32 (a3 + 4))), vi (w 999 (w32 (a3 + 3))), vi (w 999 (w32 (a3 + 2))), vi (w 999 (w32 (a3 + 1))), vr r1]) (ks := [2, 0, 0, 0, 0, 0]) (n := 6) (c := 11) (k := r1) (as := [vi (w 999 (w32 (a3 + 1))), vi (w 999 (w32 (a3 + 2))), vi (w 999 (w32 (a3 + 3))), vi (w 999 (w32 (a3 + 4))), vi (w 999 (w32 (a3 + 5)))]) (rest := []) c0_270 (by decide +kernel) (by decide +kernel) (by decide +kernel) (by decide) rfl rfl (Nat.le_of_ble_eq_true rfl), T_aload_1 c0_307, T_aload_0 c0_308, T_iload_3 c0_309, T_sipush c0_310, T_iadd c0_311, T_iald c0_312, T_invv (es := [some (vr r1), some (vi (w 999 (w32 (a3 + 1))))]) (st := [vi (w 999 (w32 (a3 + 1))), vr r1]) (ks := [2, 0]) (n := 2) (c := 11) (k := r1) (as := [vi (w 999 (w32 (a3 + 1)))]) (rest := []) c0_313 (by decide +kernel) (by decide +kernel) (by decide +kernel) (by decide) rfl rfl (Nat.le_of_ble_eq_true rfl), T_aload_1 c0_330, T_aload_0 c0_331, T_iload_3 c0_332, T_sipush c0_333, T_iadd c0_334, T_iald c0_335, T_invv (es := [some (vr r1), some (vi (w 999 (w32 (a3 + 1))))]) (st := [vi (w 999 (w32 (a3 + 1))), vr r1]) (ks := [2, 0]) (n := 2) (c := 11) (k := r1) (as := [vi (w 999 (w32 (a3 + 1)))]) (rest := []) c0_336 (by decide +kernel) (by decide +kernel) (by decide +kernel) (by decide) rfl rfl (Nat.le_of_ble_eq_true rfl), T_aload_1 c0_353, T_aload_0 c0_354, T_iload_3 c0_355, T_sipush c0_356, T_iadd c0_357, T_iald c0_358, T_aload_0 c0_359, T_iload_3 c0_360, T_sipush c0_361, T_iadd c0_362, T_iald c0_363, T_invv (es := [some (vr r1), some (vi (w 999 (w32 (a3 + 1)))), some (vi (w 999 (w32 (a3 + 2))))]) (st := [vi (w 999 (w32 (a3 + 2))), vi (w 999 (w32 (a3 + 1))), vr r1]) (ks := [2, 0, 0]) (n := 3) (c := 11) (k := r1) (as := [vi (w 999 (w32 (a3 + 1))), vi (w 999 (w32 (a3 + 2)))]) (rest := []) c0_364 (by decide +kernel) (by decide +kernel) (by decide +kernel) (by decide) rfl rfl (Nat.le_of_ble_eq_true rfl), T_aload_1 c0_386, T_aload_0 c0_387, T_iload_3 c0_388, T_sipush c0_389, T_iadd c0_390, T_iald c0_391, T_aload_0 c0_392, T_iload_3 c0_393, T_sipush c0_394, T_iadd c0_395, T_iald c0_396, T_invv (es := [some (vr r1), some (vi (w 999 (w32 (a3 + 1)))), some (vi (w 999 (w32 (a3 + 2))))]) (st := [vi (w 999 (w32 (a3 + 2))), vi (w 999 (w32 (a3 + 1))), vr r1]) (ks := [2, 0, 0]) (n := 3) (c := 11) (k := r1) (as := [vi (w 999 (w32 (a3 + 1))), vi (w 999 (w32 (a3 + 2)))]) (rest := []) c0_397 (by decide +kernel) (by decide +kernel) (by decide +kernel) (by decide) rfl rfl (Nat.le_of_ble_eq_true rfl), T_aload_1 c0_419, T_aload_0 c0_420, T_iload_3 c0_421, T_sipush c0_422, T_iadd c0_423, T_iald c0_424, T_invv (es := [some (vr r1), some (vi (w 999 (w32 (a3 + 1))))]) (st := [vi (w 999 (w32 (a3 + 1))), vr r1]) (ks := [2, 0]) (n := 2) (c := 11) (k := r1) (as := [vi (w 999 (w32 (a3 + 1)))]) (rest := []) c0_425 (by decide +kernel) (by decide +kernel) (by decide +kernel) (by decide) rfl rfl (Nat.le_of_ble_eq_true rfl), T_aload_1 c0_442, T_aload_0 c0_443, T_iload_3 c0_444, T_sipush c0_445, T_iadd c0_446, T_iald c0_447, T_invv (es := [some (vr r1), some (vi (w 999 (w32 (a3 + 1)))), none]) (st := [vi (w 999 (w32 (a3 + 1))), vr r1]) (ks := [2, 0]) (n := 3) (c := 11) (k := r1) (as := [vi (w 999 (w32 (a3 + 1)))]) (rest := []) c0_448 (by decide +kernel) (by decide +kernel) (by decide +kernel) (by decide) rfl rfl (Nat.le_of_ble_eq_true rfl), T_aload_1 c0_465, T_aload_0 c0_466, T_iload_3 c0_467, T_sipush c0_468, T_iadd c0_469, T_iald c0_470, T_invv (es := [some (vr r1), some (vi (w 999 (w32 (a3 + 1)))), none, none]) (st := [vi (w 999 (w32 (a3 + 1))), vr r1]) (ks := [2, 0]) (n := 4) (c := 11) (k := r1) (as := [vi (w 999 (w32 (a3 + 1)))]) (rest := []) c0_471 (by decide +kernel) (by decide +kernel) (by decide +kernel) (by decide) rfl rfl (Nat.le_of_ble_eq_true rfl), T_aload_1 c0_488, T_aload_0 c0_489, T_iload_3 c0_490, T_sipush c0_491, T_iadd c0_492, T_iald c0_493, T_invv (es := [some (vr r1), some (vi (w 999 (w32 (a3 + 1))))]) (st := [vi (w 999 (w32 (a3 + 1))), vr r1]) (ks := [2, 0]) (n := 2) (c := 11) (k := r1) (as := [vi (w 999 (w32 (a3 + 1)))]) (rest := []) c0_494 (by decide +kernel) (by decide +kernel) (by decide +kernel) (by decide) rfl rfl (Nat.le_of_ble_eq_true rfl), T_aload_1 c0_511, T_aload_0 c0_512, T_iload_3 c0_513, T_sipush c0_514, T_iadd c0_515, T_iald c0_516, T_invv (es := [some (vr r1), some (vi (w 999 (w32 (a3 + 1))))]) (st := [vi (w 999 (w32 (a3 + 1))), vr r1]) (ks := [2, 0]) (n := 2) (c := 11) (k := r1) (as := [vi (w 999 (w32 (a3 + 1)))]) (rest := []) c0_517 (by decide +kernel) (by decide +kernel) (by decide +kernel) (by decide) rfl rfl (Nat.le_of_ble_eq_true rfl), T_aload_1 c0_534, T_aload_0 c0_535, T_iload_3 c0_536, T_sipush c0_537, T_iadd c0_538, T_iald c0_539, T_aload_0 c0_540, T_iload_3 c0_541, T_sipush c0_542, T_iadd c0_543, T_iald c0_544, T_invv (es := [some (vr r1), some (vi (w 999 (w32 (a3 + 1)))), some (vi (w 999 (w32 (a3 + 2)))), none]) (st := [vi (w 999 (w32 (a3 + 2))), vi (w 999 (w32 (a3 + 1))), vr r1]) (ks := [2, 0, 0]) (n := 4) (c := 11) (k := r1) (as := [vi (w 999 (w32 (a3 + 1))), vi (w 999 (w32 (a3 + 2)))]) (rest := []) c0_545 (by decide +kernel) (by decide +kernel) (by decide +kernel) (by decide) rfl rfl (Nat.le_of_ble_eq_true rfl), T_aload_1 c0_567, T_aload_0 c0_568, T_iload_3 c0_569, T_sipush c0_570, T_iadd c0_571, T_iald c0_572, T_invv (es := [some (vr r1), some (vi (w 999 (w32 (a3 + 1))))]) (st := [vi (w 999 (w32 (a3 + 1))), vr r1]) (ks := [2, 0]) (n := 2) (c := 11) (k := r1) (as := [vi (w 999 (w32 (a3 + 1)))]) (rest := []) c0_573 (by decide +kernel) (by decide +kernel) (by decide +kernel) (by decide) rfl rfl (Nat.le_of_ble_eq_true rfl), T_aload_1 c0_590, T_aload_0 c0_591, T_iload_3 c0_592, T_sipush c0_593, T_iadd c0_594, T_iald c0_595, T_invv (es := [some (vr r1), some (vi (w 999 (w32 (a3 + 1))))]) (st := [vi (w 999 (w32 (a3 + 1))), vr r1]) (ks := [2, 0]) (n := 2) (c := 11) (k := r1) (as := [vi (w 999 (w32 (a3 + 1)))]) (rest := []) c0_596 (by decide +kernel) (by decide +kernel) (by decide +kernel) (by decide) rfl rfl (Nat.le_of_ble_eq_true rfl), T_aload_1 c0_613, T_aload_0 c0_614, T_iload_3 c0_615, T_sipush c0_616, T_iadd c0_617, T_iald c0_618, T_aload_0 c0_619, T_iload_3 c0_620, T_sipush c0_621, T_iadd c0_622, T_iald c0_623, T_invv (es := [some (vr r1), some (vi (w 999 (w32 (a3 + 1)))), some (vi (w 999 (w32 (a3 + 2)))), none]) (st := [vi (w 999 (w32 (a3 + 2))), vi (w 999 (w32 (a3 + 1))), vr r1]) (ks := [2, 0, 0]) (n := 4) (c := 11) (k := r1) (as := [vi (w 999 (w32 (a3 + 1))), vi (w 999 (w32 (a3 + 2)))]) (rest := []) c0_624 (by decide +kernel) (by decide +kernel) (by decide +kernel) (by decide) rfl rfl (Nat.le_of_ble_eq_true rfl), T_aload_1 c0_646, T_aload_0 c0_647, T_iload_3 c0_648, T_sipush c0_649, T_iadd c0_650, T_iald c0_651, T_invv (es := [some (vr r1), some (vi (w 999 (w32 (a3 + 1)))), none]) (st := [vi (w 999 (w32 (a3 + 1))), vr r1]) (ks := [2, 0]) (n := 3) (c := 11) (k := r1) (as := [vi (w 999 (w32 (a3 + 1)))]) (rest := []) c0_652 (by decide +kernel) (by decide +kernel) (by decide +kernel) (by decide) rfl rfl (Nat.le_of_ble_eq_true rfl), T_aload_1 c0_669, T_aload_0 c0_670, T_iload_3 c0_671, T_sipush c0_672, T_iadd c0_673, T_iald c0_674, T_aload_0 c0_675, T_iload_3 c0_676, T_sipush c0_677, T_iadd c0_678, T_iald c0_679, T_invv (es := [some (vr r1), some (vi (w 999 (w32 (a3 + 1)))), some (vi (w 999 (w32 (a3 + 2))))]) (st := [vi (w 999 (w32 (a3 + 2))), vi (w 999 (w32 (a3 + 1))), vr r1]) (ks := [2, 0, 0]) (n := 3) (c := 11) (k := r1) (as := [vi (w 999 (w32 (a3 + 1))), vi (w 999 (w32 (a3 + 2)))]) (rest := []) c0_680 (by decide +kernel) (by decide +kernel) (by decide +kernel) (by decide) rfl rfl (Nat.le_of_ble_eq_true rfl), T_aload_1 c0_702, T_aload_0 c0_703, T_iload_3 c0_704, T_sipush c0_705, T_iadd c0_706, T_iald c0_707, T_invv (es := [some (vr r1), some (vi (w 999 (w32 (a3 + 1))))]) (st := [vi (w 999 (w32 (a3 + 1))), vr r1]) (ks := [2, 0]) (n := 2) (c := 11) (k := r1) (as := [vi (w 999 (w32 (a3 + 1)))]) (rest := []) c0_708 (by decide +kernel) (by decide +kernel) (by decide +kernel) (by decide) rfl rfl (Nat.le_of_ble_eq_true rfl), T_aload_1 c0_725, T_aload_0 c0_726, T_iload_3 c0_727, T_sipush c0_728, T_iadd c0_729, T_iald c0_730, T_aload_0 c0_731, T_iload_3 c0_732, T_sipush c0_733, T_iadd c0_734, T_iald c0_735, T_invv (es := [some (vr r1), some (vi (w 999 (w32 (a3 + 1)))), some (vi (w 999 (w32 (a3 + 2)))), none, none, none]) (st := [vi (w 999 (w32 (a3 + 2))), vi (w 999 (w32 (a3 + 1))), vr r1]) (ks := [2, 0, 0]) (n := 6) (c := 11) (k := r1) (as := [vi (w 999 (w32 (a3 + 1))), vi (w 999 (w32 (a3 + 2)))]) (rest := []) c0_736 (by decide +kernel) (by decide +kernel) (by decide +kernel) (by decide) rfl rfl (Nat.le_of_ble_eq_true rfl), T_aload_1 c0_758, T_aload_0 c0_759, T_iload_3 c0_760, T_sipush c0_761, T_iadd c0_762, T_iald c0_763, T_aload_0 c0_764, T_iload_3 c0_765, T_sipush c0_766, T_iadd c0_767, T_iald c0_768, T_invv (es := [some (vr r1), some (vi (w 999 (w32 (a3 + 1)))), some (vi (w 999 (w32 (a3 + 2))))]) (st := [vi (w 999 (w32 (a3 + 2))), vi (w 999 (w32 (a3 + 1))), vr r1]) (ks := [2, 0, 0]) (n := 3) (c := 11) (k := r1) (as := [vi (w 999 (w32 (a3 + 1))), vi (w 999 (w32 (a3 + 2)))]) (rest := []) c0_769 (by decide +kernel) (by decide +kernel) (by decide +kernel) (by decide) rfl rfl (Nat.le_of_ble_eq_true rfl), T_aload_1 c0_791, T_aload_0 c0_792, T_iload_3 c0_793, T_sipush c0_794, T_iadd c0_795, T_iald c0_796, T_invv (es := [some (vr r1), some (vi (w 999 (w32 (a3 + 1)))), none, none]) (st := [vi (w 999 (w32 (a3 + 1))), vr r1]) (ks := [2, 0]) (n := 4) (c := 11) (k := r1) (as := [vi (w 999 (w32 (a3 + 1)))]) (rest := []) c0_797 (by decide +kernel) (by decide +kernel) (by decide +kernel) (by decide) rfl rfl (Nat.le_of_ble_eq_true rfl), T_aload_1 c0_814, T_aload_0 c0_815, T_iload_3 c0_816, T_sipush c0_817, T_iadd c0_818, T_iald c0_819, T_invv (es := [some (vr r1), some (vi (w 999 (w32 (a3 + 1)))), none]) (st := [vi (w 999 (w32 (a3 + 1))), vr r1]) (ks := [2, 0]) (n := 3) (c := 11) (k := r1) (as := [vi (w 999 (w32 (a3 + 1)))]) (rest := []) c0_820 (by decide +kernel) (by decide +kernel) (by decide +kernel) (by decide) rfl rfl (Nat.le_of_ble_eq_true rfl), T_aload_1 c0_837, T_aload_0 c0_838, T_iload_3 c0_839, T_sipush c0_840, T_iadd c0_841, T_iald c0_842, T_invv (es := [some (vr r1), some (vi (w 999 (w32 (a3 + 1)))), none, none]) (st := [vi (w 999 (w32 (a3 + 1))), vr r1]) (ks := [2, 0]) (n := 4) (c := 11) (k := r1) (as := [vi (w 999 (w32 (a3 + 1)))]) (rest := []) c0_843 (by decide +kernel) (by decide +kernel) (by decide +kernel) (by decide) rfl rfl (Nat.le_of_ble_eq_true rfl), T_aload_1 c0_860, T_invv (es := [some (vr r1)]) (st := [vr r1]) (ks := [2]) (n := 1) (c := 11) (k := r1) (as := []) (rest := []) c0_861 (by decide +kernel) (by decide +kernel) (by decide +kernel) (by decide) rfl rfl (Nat.le_of_ble_eq_true rfl), T_aload_1 c0_873, T_invv (es := [some (vr r1), none, none]) (st := [vr r1]) (ks := [2]) (n := 3) (c := 11) (k := r1) (as := []) (rest := []) c0_874 (by decide +kernel) (by decide +kernel) (by decide +kernel) (by decide) rfl rfl (Nat.le_of_ble_eq_true rfl), T_aload_1 c0_886, T_aload_0 c0_887, T_iload_3 c0_888, T_sipush c0_889, T_iadd c0_890, T_iald c0_891, T_aload_0 c0_892, T_iload_3 c0_893, T_sipush c0_894, T_iadd c0_895, T_iald c0_896, T_invv (es := [some (vr r1), some (vi (w 999 (w32 (a3 + 1)))), some (vi (w 999 (w32 (a3 + 2)))), none]) (st := [vi (w 999 (w32 (a3 + 2))), vi (w 999 (w32 (a3 + 1))), vr r1]) (ks := [2, 0, 0]) (n := 4) (c := 11) (k := r1) (as := [vi (w 999 (w32 (a3 + 1))), vi (w 999 (w32 (a3 + 2)))]) (rest := []) c0_897 (by decide +kernel) (by decide +kernel) (by decide +kernel) (by decide) rfl rfl (Nat.le_of_ble_eq_true rfl), T_aload_1 c0_919, T_aload_0 c0_920, T_iload_3 c0_921, T_sipush c0_922, T_iadd c0_923, T_iald c0_924, T_invv (es := [some (vr r1), some (vi (w 999 (w32 (a3 + 1)))), none, none]) (st := [vi (w 999 (w32 (a3 + 1))), vr r1]) (ks := [2, 0]) (n := 4) (c := 11) (k := r1) (as := [vi (w 999 (w32 (a3 + 1)))]) (rest := []) c0_925 (by decide +kernel) (by decide +kernel) (by decide +kernel) (by decide) rfl rfl (Nat.le_of_ble_eq_true rfl), T_aload_1 c0_942, T_aload_0 c0_943, T_iload_3 c0_944, T_sipush c0_945, T_iadd c0_946, T_iald c0_947, T_aload_0 c0_948, T_iload_3 c0_949, T_sipush c0_950, T_iadd c0_951, T_iald c0_952, T_invv (es := [some (vr r1), some (vi (w 999 (w32 (a3 + 1)))), some (vi (w 999 (w32 (a3 + 2)))), none]) (st := [vi (w 999 (w32 (a3 + 2))), vi (w 999 (w32 (a3 + 1))), vr r1]) (ks := [2, 0, 0]) (n := 4) (c := 11) (k := r1) (as := [vi (w 999 (w32 (a3 + 1))), vi (w 999 (w32 (a3 + 2)))]) (rest := []) c0_953 (by decide +kernel) (by decide +kernel) (by decide +kernel) (by decide) rfl rfl (Nat.le_of_ble_eq_true rfl), T_aload_1 c0_975, T_aload_0 c0_976, T_iload_3 c0_977, T_sipush c0_978, T_iadd c0_979, T_iald c0_980, T_invv (es := [some (vr r1), some (vi (w 999 (w32 (a3 + 1))))]) (st := [vi (w 999 (w32 (a3 + 1))), vr r1]) (ks := [2, 0]) (n := 2) (c := 11) (k := r1) (as := [vi (w 999 (w32 (a3 + 1)))]) (rest := []) c0_981 (by decide +kernel) (by decide +kernel) (by decide +kernel) (by decide) rfl rfl (Nat.le_of_ble_eq_true rfl), T_aload_1 c0_998, T_aload_0 c0_999, T_iload_3 c0_1000, T_sipush c0_1001, T_iadd c0_1002, T_iald c0_1003, T_invv (es := [some (vr r1), some (vi (w 999 (w32 (a3 + 1))))]) (st := [vi (w 999 (w32 (a3 + 1))), vr r1]) (ks := [2, 0]) (n := 2) (c := 11) (k := r1) (as := [vi (w 999 (w32 (a3 + 1)))]) (rest := []) c0_1004 (by decide +kernel) (by decide +kernel) (by decide +kernel) (by decide) rfl rfl (Nat.le_of_ble_eq_true rfl), T_aload_1 c0_1021, T_invv (es := [some (vr r1), none, none]) (st := [vr r1]) (ks := [2]) (n := 3) (c := 11) (k := r1) (as := []) (rest := []) c0_1022 (by decide +kernel) (by decide +kernel) (by decide +kernel) (by decide) rfl rfl (Nat.le_of_ble_eq_true rfl), T_aload_1 c0_1034, T_aload_0 c0_1035, T_iload_3 c0_1036, T_sipush c0_1037, T_iadd c0_1038, T_iald c0_1039, T_aload_0 c0_1040, T_iload_3 c0_1041, T_sipush c0_1042, T_iadd c0_1043, T_iald c0_1044, T_invv (es := [some (vr r1), some (vi (w 999 (w32 (a3 + 1)))), some (vi (w 999 (w32 (a3 + 2))))]) (st := [vi (w 999 (w32 (a3 + 2))), vi (w 999 (w32 (a3 + 1))), vr r1]) (ks := [2, 0, 0]) (n := 3) (c := 11) (k := r1) (as := [vi (w 999 (w32 (a3 + 1))), vi (w 999 (w32 (a3 + 2)))]) (rest := []) c0_1045 (by decide +kernel) (by decide +kernel) (by decide +kernel) (by decide) rfl rfl (Nat.le_of_ble_eq_true rfl), T_aload_1 c0_1067, T_aload_0 c0_1068, T_iload_3 c0_1069, T_sipush c0_1070, T_iadd c0_1071, T_iald c0_1072, T_invv (es := [some (vr r1), some (vi (w 999 (w32 (a3 + 1)))), none, none]) (st := [vi (w 999 (w32 (a3 + 1))), vr r1]) (ks := [2, 0]) (n := 4) (c := 11) (k := r1) (as := [vi (w 999 (w32 (a3 + 1)))]) (rest := []) c0_1073 (by decide +kernel) (by decide +kernel) (by decide +kernel) (by decide) rfl rfl (Nat.le_of_ble_eq_true rfl), T_aload_1 c0_1090, T_aload_0 c0_1091, T_iload_3 c0_1092, T_sipush c0_1093, T_iadd c0_1094, T_iald c0_1095, T_aload_0 c0_1096, T_iload_3 c0_1097, T_sipush c0_1098, T_iadd c0_1099, T_iald c0_1100, T_invv (es := [some (vr r1), some (vi (w 999 (w32 (a3 + 1)))), some (vi (w 999 (w32 (a3 + 2)))), none, none, none]) (st := [vi (w 999 (w32 (a3 + 2))), vi (w 999 (w32 (a3 + 1))), vr r1]) (ks := [2, 0, 0]) (n := 6) (c := 11) (k := r1) (as := [vi (w 999 (w32 (a3 + 1))), vi (w 999 (w32 (a3 + 2)))]) (rest := []) c0_1101 (by decide +kernel) (by decide +kernel) (by decide +kernel) (by decide) rfl rfl (Nat.le_of_ble_eq_true rfl), T_aload_1 c0_1123, T_aload_0 c0_1124, T_iload_3 c0_1125, T_sipush c0_1126, T_iadd c0_1127, T_iald c0_1128, T_invv (es := [some (vr r1), some (vi (w 999 (w32 (a3 + 1)))), none]) (st := [vi (w 999 (w32 (a3 + 1))), vr r1]) (ks := [2, 0]) (n := 3) (c := 11) (k := r1) (as := [vi (w 999 (w32 (a3 + 1)))]) (rest := []) c0_1129 (by decide +kernel) (by decide +kernel) (by decide +kernel) (by decide) rfl rfl (Nat.le_of_ble_eq_true rfl), T_aload_1 c0_1146, T_invv (es := [some (vr r1)]) (st := [vr r1]) (ks := [2]) (n := 1) (c := 11) (k := r1) (as := []) (rest := []) c0_1147 (by decide +kernel) (by decide +kernel) (by decide +kernel) (by decide) rfl rfl (Nat.le_of_ble_eq_true rfl), T_aload_1 c0_1159, T_invv (es := [some (vr r1)]) (st := [vr r1]) (ks := [2]) (n := 1) (c := 11) (k := r1) (as := []) (rest := []) c0_1160 (by decide +kernel) (by decide +kernel) (by decide +kernel) (by decide) rfl rfl (Nat.le_of_ble_eq_true rfl), T_aload_1 c0_1172, T_aload_0 c0_1173, T_iload_3 c0_1174, T_sipush c0_1175, T_iadd c0_1176, T_iald c0_1177, T_aload_0 c0_1178, T_iload_3 c0_1179, T_sipush c0_1180, T_iadd c0_1181, T_iald c0_1182, T_aload_0 c0_1183, T_iload_3 c0_1184, T_sipush c0_1185, T_iadd c0_1186, T_iald c0_1187, T_aload_0 c0_1188, T_iload_3 c0_1189, T_sipush c0_1190, T_iadd c0_1191, T_iald c0_1192, T_aload_0 c0_1193, T_iload_3 c0_1194, T_sipush c0_1195, T_iadd c0_1196, T_iald c0_1197, T_invv (es := [some (vr r1), some (vi (w 999 (w32 (a3 + 1)))), some (vi (w 999 (w32 (a3 + 2)))), some (vi (w 999 (w32 (a3 + 3)))), some (vi (w 999 (w32 (a3 + 4)))), some (vi (w 999 (w32 (a3 + 5)))), none, none]) (st := [vi (w 999 (w32 (a3 + 5))), vi (w 999 (w32 (a3 + 4))), vi (w 999 (w32 (a3 + 3))), vi (w 999 (w32 (a3 + 2))), vi (w 999 (w32 (a3 + 1))), vr r1]) (ks := [2, 0, 0, 0, 0, 0]) (n := 8) (c := 11) (k := r1) (as := [vi (w 999 (w32 (a3 + 1))), vi (w 999 (w32 (a3 + 2))), vi (w 999 (w32 (a3 + 3))), vi (w 999 (w32 (a3 + 4))), vi (w 999 (w32 (a3 + 5)))]) (rest := []) c0_1198 (by decide +kernel) (by decide +kernel) (by decide +kernel) (by decide) rfl rfl (Nat.le_of_ble_eq_true rfl), T_aload_1 c0_1235, T_aload_0 c0_1236, T_iload_3 c0_1237, T_sipush c0_1238, T_iadd c0_1239, T_iald c0_1240, T_aload_0 c0_1241, T_iload_3 c0_1242, T_sipush c0_1243, T_iadd c0_1244, T_iald c0_1245, T_invv (es := [some (vr r1), some (vi (w 999 (w32 (a3 + 1)))), some (vi (w 999 (w32 (a3 + 2))))]) (st := [vi (w 999 (w32 (a3 + 2))), vi (w 999 (w32 (a3 + 1))), vr r1]) (ks := [2, 0, 0]) (n := 3) (c := 11) (k := r1) (as := [vi (w 999 (w32 (a3 + 1))), vi (w 999 (w32 (a3 + 2)))]) (rest := []) c0_1246 (by decide +kernel) (by decide +kernel) (by decide +kernel) (by decide) rfl rfl (Nat.le_of_ble_eq_true rfl), T_aload_1 c0_1268, T_aload_0 c0_1269, T_iload_3 c0_1270, T_sipush c0_1271, T_iadd c0_1272, T_iald c0_1273, T_aload_0 c0_1274, T_iload_3 c0_1275, T_sipush c0_1276, T_iadd c0_1277, T_iald c0_1278, T_invv (es := [some (vr r1), some (vi (w 999 (w32 (a3 + 1)))), some (vi (w 999 (w32 (a3 + 2)))), none]) (st := [vi (w 999 (w32 (a3 + 2))), vi (w 999 (w32 (a3 + 1))), vr r1]) (ks := [2, 0, 0]) (n := 4) (c := 11) (k := r1) (as := [vi (w 999 (w32 (a3 + 1))), vi (w 999 (w32 (a3 + 2)))]) (rest := []) c0_1279 (by decide +kernel) (by decide +kernel) (by decide +kernel) (by decide) rfl rfl (Nat.le_of_ble_eq_true rfl), T_aload_1 c0_1301, T_aload_0 c0_1302, T_iload_3 c0_1303, T_sipush c0_1304, T_iadd c0_1305, T_iald c0_1306, T_aload_0 c0_1307, T_iload_3 c0_1308, T_sipush c0_1309, T_iadd c0_1310, T_iald c0_1311, T_aload_0 c0_1312, T_iload_3 c0_1313, T_sipush c0_1314, T_iadd c0_1315, T_iald c0_1316, T_invv (es := [some (vr r1), some (vi (w 999 (w32 (a3 + 1)))), some (vi (w 999 (w32 (a3 + 2)))), some (vi (w 999 (w32 (a3 + 3)))), none, none]) (st := [vi (w 999 (w32 (a3 + 3))), vi (w 999 (w32 (a3 + 2))), vi (w 999 (w32 (a3 + 1))), vr r1]) (ks := [2, 0, 0, 0]) (n := 6) (c := 11) (k := r1) (as := [vi (w 999 (w32 (a3 + 1))), vi (w 999 (w32 (a3 + 2))), vi (w 999 (w32 (a3 + 3)))]) (rest := []) c0_1317 (by decide +kernel) (by decide +kernel) (by decide +kernel) (by decide) rfl rfl (Nat.le_of_ble_eq_true rfl), T_aload_1 c0_1344, T_aload_0 c0_1345, T_iload_3 c0_1346, T_sipush c0_1347, T_iadd c0_1348, T_iald c0_1349, T_aload_0 c0_1350, T_iload_3 c0_1351, T_sipush c0_1352, T_iadd c0_1353, T_iald c0_1354, T_invv (es := [some (vr r1), some (vi (w 999 (w32 (a3 + 1)))), some (vi (w 999 (w32 (a3 + 2)))), none]) (st := [vi (w 999 (w32 (a3 + 2))), vi (w 999 (w32 (a3 + 1))), vr r1]) (ks := [2, 0, 0]) (n := 4) (c := 11) (k := r1) (as := [vi (w 999 (w32 (a3 + 1))), vi (w 999 (w32 (a3 + 2)))]) (rest := []) c0_1355 (by decide +kernel) (by decide +kernel) (by decide +kernel) (by decide) rfl rfl (Nat.le_of_ble_eq_true rfl), T_aload_1 c0_1377, T_aload_0 c0_1378, T_iload_3 c0_1379, T_sipush c0_1380, T_iadd c0_1381, T_iald c0_1382, T_aload_0 c0_1383, T_iload_3 c0_1384, T_sipush c0_1385, T_iadd c0_1386, T_iald c0_1387, T_invv (es := [some (vr r1), some (vi (w 999 (w32 (a3 + 1)))), some (vi (w 999 (w32 (a3 + 2)))), none]) (st := [vi (w 999 (w32 (a3 + 2))), vi (w 999 (w32 (a3 + 1))), vr r1]) (ks := [2, 0, 0]) (n := 4) (c := 11) (k := r1) (as := [vi (w 999 (w32 (a3 + 1))), vi (w 999 (w32 (a3 + 2)))]) (rest := []) c0_1388 (by decide +kernel) (by decide +kernel) (by decide +kernel) (by decide) rfl rfl (Nat.le_of_ble_eq_true rfl), T_aload_1 c0_1410, T_aload_0 c0_1411, T_iload_3 c0_1412, T_sipush c0_1413, T_iadd c0_1414, T_iald c0_1415, T_invv (es := [some (vr r1), some (vi (w 999 (w32 (a3 + 1)))), none, none, none, none]) (st := [vi (w 999 (w32 (a3 + 1))), vr r1]) (ks := [2, 0]) (n := 6) (c := 11) (k := r1) (as := [vi (w 999 (w32 (a3 + 1)))]) (rest := []) c0_1416 (by decide +kernel) (by decide +kernel) (by decide +kernel) (by decide) rfl rfl (Nat.le_of_ble_eq_true rfl), T_aload_1 c0_1433, T_aload_0 c0_1434, T_iload_3 c0_1435, T_sipush c0_1436, T_iadd c0_1437, T_iald c0_1438, T_invv (es := [some (vr r1), some (vi (w 999 (w32 (a3 + 1)))), none, none]) (st := [vi (w 999 (w32 (a3 + 1))), vr r1]) (ks := [2, 0]) (n := 4) (c := 11) (k := r1) (as := [vi (w 999 (w32 (a3 + 1)))]) (rest := []) c0_1439 (by decide +kernel) (by decide +kernel) (by decide +kernel) (by decide) rfl rfl (Nat.le_of_ble_eq_true rfl), T_aload_1 c0_1456, T_aload_0 c0_1457, T_iload_3 c0_1458, T_sipush c0_1459, T_iadd c0_1460, T_iald c0_1461, T_aload_0 c0_1462, T_iload_3 c0_1463, T_sipush c0_1464, T_iadd c0_1465, T_iald c0_1466, T_aload_0 c0_1467, T_iload_3 c0_1468, T_sipush c0_1469, T_iadd c0_1470, T_iald c0_1471, T_invv (es := [some (vr r1), some (vi (w 999 (w32 (a3 + 1)))), some (vi (w 999 (w32 (a3 + 2)))), some (vi (w 999 (w32 (a3 + 3))))]) (st := [vi (w 999 (w32 (a3 + 3))), vi (w 999 (w32 (a3 + 2))), vi (w 999 (w32 (a3 + 1))), vr r1]) (ks := [2, 0, 0, 0]) (n := 4) (c := 11) (k := r1) (as := [vi (w 999 (w32 (a3 + 1))), vi (w 999 (w32 (a3 + 2))), vi (w 999 (w32 (a3 + 3)))]) (rest := []) c0_1472 (by decide +kernel) (by decide +kernel) (by decide +kernel) (by decide) rfl rfl (Nat.le_of_ble_eq_true rfl), T_aload_1 c0_1499, T_aload_0 c0_1500, T_iload_3 c0_1501, T_sipush c0_1502, T_iadd c0_1503, T_iald c0_1504, T_aload_0 c0_1505, T_iload_3 c0_1506, T_sipush c0_1507, T_iadd c0_1508, T_iald c0_1509, T_aload_0 c0_1510, T_iload_3 c0_1511, T_sipush c0_1512, T_iadd c0_1513, T_iald c0_1514, T_i2l c0_1515, T_sipush c0_1516, T_lshl c0_1518, T_aload_0 c0_1519, T_iload_3 c0_1520, T_sipush c0_1521, T_iadd c0_1522, T_iald c0_1523, T_i2l c0_1524, T_bipush c0_1525, T_land c0_1528, T_lor c0_1529, T_invv (es := [some (vr r1), some (vi (w 999 (w32 (a3 + 1)))), some (vi (w 999 (w32 (a3 + 2)))), some (vl (kor (kshl (w 999 (w32 (a3 + 3))) 32) (kand (w 999 (w32 (a3 + 4))) 4294967295))), none]) (st := [vl (kor (kshl (w 999 (w32 (a3 + 3))) 32) (kand (w 999 (w32 (a3 + 4))) 4294967295)), vi (w 999 (w32 (a3 + 2))), vi (w 999 (w32 (a3 + 1))), vr r1]) (ks := [2, 0, 0, 1]) (n := 5) (c := 11) (k := r1) (as := [vi (w 999 (w32 (a3 + 1))), vi (w 999 (w32 (a3 + 2))), vl (kor (kshl (w 999 (w32 (a3 + 3))) 32) (kand (w 999 (w32 (a3 + 4))) 4294967295))]) (rest := []) c0_1530 (by decide +kernel) (by decide +kernel) (by decide +kernel) (by decide) rfl rfl (Nat.le_of_ble_eq_true rfl), T_aload_1 c0_1573, T_aload_0 c0_1574, T_iload_3 c0_1575, T_sipush c0_1576, T_iadd c0_1577, T_iald c0_1578, T_invv (es := [some (vr r1), some (vi (w 999 (w32 (a3 + 1))))]) (st := [vi (w 999 (w32 (a3 + 1))), vr r1]) (ks := [2, 0]) (n := 2) (c := 11) (k := r1) (as := [vi (w 999 (w32 (a3 + 1)))]) (rest := []) c0_1579 (by decide +kernel) (by decide +kernel) (by decide +kernel) (by decide) rfl rfl (Nat.le_of_ble_eq_true rfl), T_aload_1 c0_1596, T_aload_0 c0_1597, T_iload_3 c0_1598, T_sipush c0_1599, T_iadd c0_1600, T_iald c0_1601, T_invv (es := [some (vr r1), some (vi (w 999 (w32 (a3 + 1))))]) (st := [vi (w 999 (w32 (a3 + 1))), vr r1]) (ks := [2, 0]) (n := 2) (c := 11) (k := r1) (as := [vi (w 999 (w32 (a3 + 1)))]) (rest := []) c0_1602 (by decide +kernel) (by decide +kernel) (by decide +kernel) (by decide) rfl rfl (Nat.le_of_ble_eq_true rfl), T_aload_1 c0_1619, T_aload_0 c0_1620, T_iload_3 c0_1621, T_sipush c0_1622, T_iadd c0_1623, T_iald c0_1624, T_invv (es := [some (vr r1), some (vi (w 999 (w32 (a3 + 1))))]) (st := [vi (w 999 (w32 (a3 + 1))), vr r1]) (ks := [2, 0]) (n := 2) (c := 11) (k := r1) (as := [vi (w 999 (w32 (a3 + 1)))]) (rest := []) c0_1625 (by decide +kernel) (by decide +kernel) (by decide +kernel) (by decide) rfl rfl (Nat.le_of_ble_eq_true rfl)]
  all_goals try simp only [Int.reduceToNat, ld_999, true_and, Nat.reduceAdd, eq_self_iff_true, zero_eq_1, one_eq_0, true_or, or_true]
theorem g0_273 {d : Nat} {a3 s0 : Int} {r2 : Nat} {x1 : Option aV} {w : aW} {Q : Option aV → aW → Prop} : T (d + 1) 0 273 [some (vr 999), x1, some (vr r2), some (vi a3)] [vi s0] w Q = ((0 ≤ w32 (a3 + 1) ∧ w32 (a3 + 1) < w 999 (-1)) ∧ ((0 ≤ w32 (a3 + 2) ∧ w32 (a3 + 2) < w 999 (-1)) ∧ ((0 ≤ w32 (a3 + 3) ∧ w32 (a3 + 3) < w 999 (-1)) ∧ ((0 ≤ w32 (a3 + 4) ∧ w32 (a3 + 4) < w 999 (-1)) ∧ ((0 ≤ w32 (a3 + 5) ∧ w32 (a3 + 5) < w 999 (-1)) ∧ (lay r2 = (12, 0) ∧ T d 2 0 [some (vr r2), some (vi (w 999 (w32 (a3 + 1)))), some (vi (w 999 (w32 (a3 + 2)))), some (vi (w 999 (w32 (a3 + 3)))), some (vi (w 999 (w32 (a3 + 4)))), some (vi (w 999 (w32 (a3 + 5)))), none, none] [] w (fun r w1 => T (d + 1) 0 302 [some (vr 999), x1, some (vr r2), some (vi a3)] (r.toList ++ [vi s0]) w1 Q))))))) := by
  rw [T_aload_2 c0_273, T_aload_0 c0_274, T_iload_3 c0_275, T_sipush c0_276, T_iadd c0_277, T_iald c0_278, T_aload_0 c0_279, T_iload_3 c0_280, T_sipush c0_281, T_iadd c0_282, T_iald c0_283, T_aload_0 c0_284, T_iload_3 c0_285, T_sipush c0_286, T_iadd c0_287, T_iald c0_288, T_aload_0 c0_289, T_iload_3 c0_290, T_sipush c0_291, T_iadd c0_292, T_iald c0_293, T_aload_0 c0_294, T_iload_3 c0_295, T_sipush c0_296, T_iadd c0_297, T_iald c0_298, T_invv (es := [some (vr r2), some (vi (w 999 (w32 (a3 + 1)))), some (vi (w 999 (w32 (a3 + 2)))), some (vi (w 999 (w32 (a3 + 3)))), some (vi (w 999 (w32 (a3 + 4)))), some (vi (w 999 (w32 (a3 + 5)))), none, none]) (st := [vi (w 999 (w32 (a3 + 5))), vi (w 999 (w32 (a3 + 4))), vi (w 999 (w32 (a3 + 3))), vi (w 999 (w32 (a3 + 2))), vi (w 999 (w32 (a3 + 1))), vr r2, vi s0]) (ks := [2, 0, 0, 0, 0, 0]) (n := 8) (c := 12) (k := r2) (as := [vi (w 999 (w32 (a3 + 1))), vi (w 999 (w32 (a3 + 2))), vi (w 999 (w32 (a3 + 3))), vi (w 999 (w32 (a3 + 4))), vi (w 999 (w32 (a3 + 5)))]) (rest := [vi s0]) c0_299 (by decide +kernel) (by decide +kernel) (by decide +kernel) (by decide) rfl rfl (Nat.le_of_ble_eq_true rfl)]
  all_goals try simp only [ld_999, true_and, Nat.reduceAdd, eq_self_iff_true]
theorem g0_302 {d : Nat} {s0 s1 : Int} {x0 x1 x2 x3 : Option aV} {w : aW} {Q : Option aV → aW → Prop} : T d 0 302 [x0, x1, x2, x3] [vi s1, vi s0] w Q = ((s0 = s1 → T d 0 1642 [x0, x1, x2, x3] [] w Q) ∧ (¬ (s0 = s1) → Q (some (vi 0)) w)) := by
  rw [T_icmp_eq 1642 c0_302 rfl, T_sipush c0_305, T_iretz c0_306 (by decide +kernel)]
  all_goals try simp only [Int.reduceToNat, true_and, Nat.reduceAdd, eq_self_iff_true, zero_eq_1, one_eq_0, true_or, or_true]
theorem g0_316 {d : Nat} {a3 s0 : Int} {r2 : Nat} {x1 : Option aV} {w : aW} {Q : Option aV → aW → Prop} : T (d + 1) 0 316 [some (vr 999), x1, some (vr r2), some (vi a3)] [vi s0] w Q = ((0 ≤ w32 (a3 + 1) ∧ w32 (a3 + 1) < w 999 (-1)) ∧ (lay r2 = (12, 0) ∧ T d 4 0 [some (vr r2), some (vi (w 999 (w32 (a3 + 1)))), none] [] w (fun r w1 => T (d + 1) 0 325 [some (vr 999), x1, some (vr r2), some (vi a3)] (r.toList ++ [vi s0]) w1 Q))) := by
  rw [T_aload_2 c0_316, T_aload_0 c0_317, T_iload_3 c0_318, T_sipush c0_319, T_iadd c0_320, T_iald c0_321, T_invv (es := [some (vr r2), some (vi (w 999 (w32 (a3 + 1)))), none]) (st := [vi (w 999 (w32 (a3 + 1))), vr r2, vi s0]) (ks := [2, 0]) (n := 3) (c := 12) (k := r2) (as := [vi (w 999 (w32 (a3 + 1)))]) (rest := [vi s0]) c0_322 (by decide +kernel) (by decide +kernel) (by decide +kernel) (by decide) rfl rfl (Nat.le_of_ble_eq_true rfl)]
  all_goals try simp only [ld_999, true_and, Nat.reduceAdd, eq_self_iff_true]
theorem g0_325 {d : Nat} {s0 s1 : Int} {x0 x1 x2 x3 : Option aV} {w : aW} {Q : Option aV → aW → Prop} : T d 0 325 [x0, x1, x2, x3] [vi s1, vi s0] w Q = ((s0 = s1 → T d 0 1642 [x0, x1, x2, x3] [] w Q) ∧ (¬ (s0 = s1) → Q (some (vi 0)) w)) := by
  rw [T_icmp_eq 1642 c0_325 rfl, T_sipush c0_328, T_iretz c0_329 (by decide +kernel)]
  all_goals try simp only [Int.reduceToNat, true_and, Nat.reduceAdd, eq_self_iff_true, zero_eq_1, one_eq_0, true_or, or_true]
theorem g0_339 {d : Nat} {a3 s0 : Int} {r2 : Nat} {x1 : Option aV} {w : aW} {Q : Option aV → aW → Prop} : T (d + 1) 0 339 [some (vr 999), x1, some (vr r2), some (vi a3)] [vi s0] w Q = ((0 ≤ w32 (a3 + 1) ∧ w32 (a3 + 1) < w 999 (-1)) ∧ (lay r2 = (12, 0) ∧ T d 6 0 [some (vr r2), some (vi (w 999 (w32 (a3 + 1))))] [] w (fun r w1 => T (d + 1) 0 348 [some (vr 999), x1, some (vr r2), some (vi a3)] (r.toList ++ [vi s0]) w1 Q))) := by
  rw [T_aload_2 c0_339, T_aload_0 c0_340, T_iload_3 c0_341, T_sipush c0_342, T_iadd c0_343, T_iald c0_344, T_invv (es := [some (vr r2), some (vi (w 999 (w32 (a3 + 1))))]) (st := [vi (w 999 (w32 (a3 + 1))), vr r2, vi s0]) (ks := [2, 0]) (n := 2) (c := 12) (k := r2) (as := [vi (w 999 (w32 (a3 + 1)))]) (rest := [vi s0]) c0_345 (by decide +kernel) (by decide +kernel) (by decide +kernel) (by decide) rfl rfl (Nat.le_of_ble_eq_true rfl)]
  all_goals try simp only [ld_999, true_and, Nat.reduceAdd, eq_self_iff_true]
theorem g0_348 {d : Nat} {s0 s1 : Int} {x0 x1 x2 x3 : Option aV} {w : aW} {Q : Option aV → aW → Prop} : T d 0 348 [x0, x1, x2, x3] [vi s1, vi s0] w Q = ((s0 = s1 → T d 0 1642 [x0, x1, x2, x3] [] w Q) ∧ (¬ (s0 = s1) → Q (some (vi 0)) w)) := by
  rw [T_icmp_eq 1642 c0_348 rfl, T_sipush c0_351, T_iretz c0_352 (by decide +kernel)]
  all_goals try simp only [Int.reduceToNat, true_and, Nat.reduceAdd, eq_self_iff_true, zero_eq_1, one_eq_0, true_or, or_true]
theorem g0_367 {d : Nat} {a3 s0 : Int} {r2 : Nat} {x1 : Option aV} {w : aW} {Q : Option aV → aW → Prop} : T (d + 1) 0 367 [some (vr 999), x1, some (vr r2), some (vi a3)] [vi s0] w Q = ((0 ≤ w32 (a3 + 1) ∧ w32 (a3 + 1) < w 999 (-1)) ∧ ((0 ≤ w32 (a3 + 2) ∧ w32 (a3 + 2) < w 999 (-1)) ∧ (lay r2 = (12, 0) ∧ T d 8 0 [some (vr r2), some (vi (w 999 (w32 (a3 + 1)))), some (vi (w 999 (w32 (a3 + 2))))] [] w (fun r w1 => T (d + 1) 0 381 [some (vr 999), x1, some (vr r2), some (vi a3)] (r.toList ++ [vi s0]) w1 Q)))) := by
  rw [T_aload_2 c0_367, T_aload_0 c0_368, T_iload_3 c0_369, T_sipush c0_370, T_iadd c0_371, T_iald c0_372, T_aload_0 c0_373, T_iload_3 c0_374, T_sipush c0_375, T_iadd c0_376, T_iald c0_377, T_invv (es := [some (vr r2), some (vi (w 999 (w32 (a3 + 1)))), some (vi (w 999 (w32 (a3 + 2))))]) (st := [vi (w 999 (w32 (a3 + 2))), vi (w 999 (w32 (a3 + 1))), vr r2, vi s0]) (ks := [2, 0, 0]) (n := 3) (c := 12) (k := r2) (as := [vi (w 999 (w32 (a3 + 1))), vi (w 999 (w32 (a3 + 2)))]) (rest := [vi s0]) c0_378 (by decide +kernel) (by decide +kernel) (by decide +kernel) (by decide) rfl rfl (Nat.le_of_ble_eq_true rfl)]
  all_goals try simp only [ld_999, true_and, Nat.reduceAdd, eq_self_iff_true]
theorem g0_381 {d : Nat} {s0 s1 : Int} {x0 x1 x2 x3 : Option aV} {w : aW} {Q : Option aV → aW → Prop} : T d 0 381 [x0, x1, x2, x3] [vi s1, vi s0] w Q = ((s0 = s1 → T d 0 1642 [x0, x1, x2, x3] [] w Q) ∧ (¬ (s0 = s1) → Q (some (vi 0)) w)) := by
  rw [T_icmp_eq 1642 c0_381 rfl, T_sipush c0_384, T_iretz c0_385 (by decide +kernel)]
  all_goals try simp only [Int.reduceToNat, true_and, Nat.reduceAdd, eq_self_iff_true, zero_eq_1, one_eq_0, true_or, or_true]
theorem g0_400 {d : Nat} {a3 s0 : Int} {r2 : Nat} {x1 : Option aV} {w : aW} {Q : Option aV → aW → Prop} : T (d + 1) 0 400 [some (vr 999), x1, some (vr r2), some (vi a3)] [vi s0] w Q = ((0 ≤ w32 (a3 + 1) ∧ w32 (a3 + 1) < w 999 (-1)) ∧ ((0 ≤ w32 (a3 + 2) ∧ w32 (a3 + 2) < w 999 (-1)) ∧ (lay r2 = (12, 0) ∧ T d 10 0 [some (vr r2), some (vi (w 999 (w32 (a3 + 1)))), some (vi (w 999 (w32 (a3 + 2))))] [] w (fun r w1 => T (d + 1) 0 414 [some (vr 999), x1, some (vr r2), some (vi a3)] (r.toList ++ [vi s0]) w1 Q)))) := by
  rw [T_aload_2 c0_400, T_aload_0 c0_401, T_iload_3 c0_402, T_sipush c0_403, T_iadd c0_404, T_iald c0_405, T_aload_0 c0_406, T_iload_3 c0_407, T_sipush c0_408, T_iadd c0_409, T_iald c0_410, T_invv (es := [some (vr r2), some (vi (w 999 (w32 (a3 + 1)))), some (vi (w 999 (w32 (a3 + 2))))]) (st := [vi (w 999 (w32 (a3 + 2))), vi (w 999 (w32 (a3 + 1))), vr r2, vi s0]) (ks := [2, 0, 0]) (n := 3) (c := 12) (k := r2) (as := [vi (w 999 (w32 (a3 + 1))), vi (w 999 (w32 (a3 + 2)))]) (rest := [vi s0]) c0_411 (by decide +kernel) (by decide +kernel) (by decide +kernel) (by decide) rfl rfl (Nat.le_of_ble_eq_true rfl)]
  all_goals try simp only [ld_999, true_and, Nat.reduceAdd, eq_self_iff_true]
theorem g0_414 {d : Nat} {s0 s1 : Int} {x0 x1 x2 x3 : Option aV} {w : aW} {Q : Option aV → aW → Prop} : T d 0 414 [x0, x1, x2, x3] [vi s1, vi s0] w Q = ((s0 = s1 → T d 0 1642 [x0, x1, x2, x3] [] w Q) ∧ (¬ (s0 = s1) → Q (some (vi 0)) w)) := by
  rw [T_icmp_eq 1642 c0_414 rfl, T_sipush c0_417, T_iretz c0_418 (by decide +kernel)]
  all_goals try simp only [Int.reduceToNat, true_and, Nat.reduceAdd, eq_self_iff_true, zero_eq_1, one_eq_0, true_or, or_true]
theorem g0_428 {d : Nat} {a3 s0 : Int} {r2 : Nat} {x1 : Option aV} {w : aW} {Q : Option aV → aW → Prop} : T (d + 1) 0 428 [some (vr 999), x1, some (vr r2), some (vi a3)] [vi s0] w Q = ((0 ≤ w32 (a3 + 1) ∧ w32 (a3 + 1) < w 999 (-1)) ∧ (lay r2 = (12, 0) ∧ T d 12 0 [some (vr r2), some (vi (w 999 (w32 (a3 + 1))))] [] w (fun r w1 => T (d + 1) 0 437 [some (vr 999), x1, some (vr r2), some (vi a3)] (r.toList ++ [vi s0]) w1 Q))) := by
  rw [T_aload_2 c0_428, T_aload_0 c0_429, T_iload_3 c0_430, T_sipush c0_431, T_iadd c0_432, T_iald c0_433, T_invv (es := [some (vr r2), some (vi (w 999 (w32 (a3 + 1))))]) (st := [vi (w 999 (w32 (a3 + 1))), vr r2, vi s0]) (ks := [2, 0]) (n := 2) (c := 12) (k := r2) (as := [vi (w 999 (w32 (a3 + 1)))]) (rest := [vi s0]) c0_434 (by decide +kernel) (by decide +kernel) (by decide +kernel) (by decide) rfl rfl (Nat.le_of_ble_eq_true rfl)]
  all_goals try simp only [ld_999, true_and, Nat.reduceAdd, eq_self_iff_true]
theorem g0_437 {d : Nat} {s0 s1 : Int} {x0 x1 x2 x3 : Option aV} {w : aW} {Q : Option aV → aW → Prop} : T d 0 437 [x0, x1, x2, x3] [vi s1, vi s0] w Q = ((s0 = s1 → T d 0 1642 [x0, x1, x2, x3] [] w Q) ∧ (¬ (s0 = s1) → Q (some (vi 0)) w)) := by
  rw [T_icmp_eq 1642 c0_437 rfl, T_sipush c0_440, T_iretz c0_441 (by decide +kernel)]
  all_goals try simp only [Int.reduceToNat, true_and, Nat.reduceAdd, eq_self_iff_true, zero_eq_1, one_eq_0, true_or, or_true]
theorem g0_451 {d : Nat} {a3 s0 : Int} {r2 : Nat} {x1 : Option aV} {w : aW} {Q : Option aV → aW → Prop} : T (d + 1) 0 451 [some (vr 999), x1, some (vr r2), some (vi a3)] [vi s0] w Q = ((0 ≤ w32 (a3 + 1) ∧ w32 (a3 + 1) < w 999 (-1)) ∧ (lay r2 = (12, 0) ∧ T d 14 0 [some (vr r2), some (vi (w 999 (w32 (a3 + 1)))), none] [] w (fun r w1 => T (d + 1) 0 460 [some (vr 999), x1, some (vr r2), some (vi a3)] (r.toList ++ [vi s0]) w1 Q))) := by
  rw [T_aload_2 c0_451, T_aload_0 c0_452, T_iload_3 c0_453, T_sipush c0_454, T_iadd c0_455, T_iald c0_456, T_invv (es := [some (vr r2), some (vi (w 999 (w32 (a3 + 1)))), none]) (st := [vi (w 999 (w32 (a3 + 1))), vr r2, vi s0]) (ks := [2, 0]) (n := 3) (c := 12) (k := r2) (as := [vi (w 999 (w32 (a3 + 1)))]) (rest := [vi s0]) c0_457 (by decide +kernel) (by decide +kernel) (by decide +kernel) (by decide) rfl rfl (Nat.le_of_ble_eq_true rfl)]
  all_goals try simp only [ld_999, true_and, Nat.reduceAdd, eq_self_iff_true]
theorem g0_460 {d : Nat} {s0 s1 : Int} {x0 x1 x2 x3 : Option aV} {w : aW} {Q : Option aV → aW → Prop} : T d 0 460 [x0, x1, x2, x3] [vi s1, vi s0] w Q = ((s0 = s1 → T d 0 1642 [x0, x1, x2, x3] [] w Q) ∧ (¬ (s0 = s1) → Q (some (vi 0)) w)) := by
  rw [T_icmp_eq 1642 c0_460 rfl, T_sipush c0_463, T_iretz c0_464 (by decide +kernel)]
  all_goals try simp only [Int.reduceToNat, true_and, Nat.reduceAdd, eq_self_iff_true, zero_eq_1, one_eq_0, true_or, or_true]
theorem g0_474 {d : Nat} {a3 s0 : Int} {r2 : Nat} {x1 : Option aV} {w : aW} {Q : Option aV → aW → Prop} : T (d + 1) 0 474 [some (vr 999), x1, some (vr r2), some (vi a3)] [vi s0] w Q = ((0 ≤ w32 (a3 + 1) ∧ w32 (a3 + 1) < w 999 (-1)) ∧ (lay r2 = (12, 0) ∧ T d 16 0 [some (vr r2), some (vi (w 999 (w32 (a3 + 1)))), none, none] [] w (fun r w1 => T (d + 1) 0 483 [some (vr 999), x1, some (vr r2), some (vi a3)] (r.toList ++ [vi s0]) w1 Q))) := by
  rw [T_aload_2 c0_474, T_aload_0 c0_475, T_iload_3 c0_476, T_sipush c0_477, T_iadd c0_478, T_iald c0_479, T_invv (es := [some (vr r2), some (vi (w 999 (w32 (a3 + 1)))), none, none]) (st := [vi (w 999 (w32 (a3 + 1))), vr r2, vi s0]) (ks := [2, 0]) (n := 4) (c := 12) (k := r2) (as := [vi (w 999 (w32 (a3 + 1)))]) (rest := [vi s0]) c0_480 (by decide +kernel) (by decide +kernel) (by decide +kernel) (by decide) rfl rfl (Nat.le_of_ble_eq_true rfl)]
  all_goals try simp only [ld_999, true_and, Nat.reduceAdd, eq_self_iff_true]
theorem g0_483 {d : Nat} {s0 s1 : Int} {x0 x1 x2 x3 : Option aV} {w : aW} {Q : Option aV → aW → Prop} : T d 0 483 [x0, x1, x2, x3] [vi s1, vi s0] w Q = ((s0 = s1 → T d 0 1642 [x0, x1, x2, x3] [] w Q) ∧ (¬ (s0 = s1) → Q (some (vi 0)) w)) := by
  rw [T_icmp_eq 1642 c0_483 rfl, T_sipush c0_486, T_iretz c0_487 (by decide +kernel)]
  all_goals try simp only [Int.reduceToNat, true_and, Nat.reduceAdd, eq_self_iff_true, zero_eq_1, one_eq_0, true_or, or_true]
theorem g0_497 {d : Nat} {a3 s0 : Int} {r2 : Nat} {x1 : Option aV} {w : aW} {Q : Option aV → aW → Prop} : T (d + 1) 0 497 [some (vr 999), x1, some (vr r2), some (vi a3)] [vi s0] w Q = ((0 ≤ w32 (a3 + 1) ∧ w32 (a3 + 1) < w 999 (-1)) ∧ (lay r2 = (12, 0) ∧ T d 18 0 [some (vr r2), some (vi (w 999 (w32 (a3 + 1))))] [] w (fun r w1 => T (d + 1) 0 506 [some (vr 999), x1, some (vr r2), some (vi a3)] (r.toList ++ [vi s0]) w1 Q))) := by
  rw [T_aload_2 c0_497, T_aload_0 c0_498, T_iload_3 c0_499, T_sipush c0_500, T_iadd c0_501, T_iald c0_502, T_invv (es := [some (vr r2), some (vi (w 999 (w32 (a3 + 1))))]) (st := [vi (w 999 (w32 (a3 + 1))), vr r2, vi s0]) (ks := [2, 0]) (n := 2) (c := 12) (k := r2) (as := [vi (w 999 (w32 (a3 + 1)))]) (rest := [vi s0]) c0_503 (by decide +kernel) (by decide +kernel) (by decide +kernel) (by decide) rfl rfl (Nat.le_of_ble_eq_true rfl)]
  all_goals try simp only [ld_999, true_and, Nat.reduceAdd, eq_self_iff_true]
theorem g0_506 {d : Nat} {s0 s1 : Int} {x0 x1 x2 x3 : Option aV} {w : aW} {Q : Option aV → aW → Prop} : T d 0 506 [x0, x1, x2, x3] [vi s1, vi s0] w Q = ((s0 = s1 → T d 0 1642 [x0, x1, x2, x3] [] w Q) ∧ (¬ (s0 = s1) → Q (some (vi 0)) w)) := by
  rw [T_icmp_eq 1642 c0_506 rfl, T_sipush c0_509, T_iretz c0_510 (by decide +kernel)]
  all_goals try simp only [Int.reduceToNat, true_and, Nat.reduceAdd, eq_self_iff_true, zero_eq_1, one_eq_0, true_or, or_true]
theorem g0_520 {d : Nat} {a3 s0 : Int} {r2 : Nat} {x1 : Option aV} {w : aW} {Q : Option aV → aW → Prop} : T (d + 1) 0 520 [some (vr 999), x1, some (vr r2), some (vi a3)] [vi s0] w Q = ((0 ≤ w32 (a3 + 1) ∧ w32 (a3 + 1) < w 999 (-1)) ∧ (lay r2 = (12, 0) ∧ T d 20 0 [some (vr r2), some (vi (w 999 (w32 (a3 + 1))))] [] w (fun r w1 => T (d + 1) 0 529 [some (vr 999), x1, some (vr r2), some (vi a3)] (r.toList ++ [vi s0]) w1 Q))) := by
  rw [T_aload_2 c0_520, T_aload_0 c0_521, T_iload_3 c0_522, T_sipush c0_523, T_iadd c0_524, T_iald c0_525, T_invv (es := [some (vr r2), some (vi (w 999 (w32 (a3 + 1))))]) (st := [vi (w 999 (w32 (a3 + 1))), vr r2, vi s0]) (ks := [2, 0]) (n := 2) (c := 12) (k := r2) (as := [vi (w 999 (w32 (a3 + 1)))]) (rest := [vi s0]) c0_526 (by decide +kernel) (by decide +kernel) (by decide +kernel) (by decide) rfl rfl (Nat.le_of_ble_eq_true rfl)]
  all_goals try simp only [ld_999, true_and, Nat.reduceAdd, eq_self_iff_true]
theorem g0_529 {d : Nat} {s0 s1 : Int} {x0 x1 x2 x3 : Option aV} {w : aW} {Q : Option aV → aW → Prop} : T d 0 529 [x0, x1, x2, x3] [vi s1, vi s0] w Q = ((s0 = s1 → T d 0 1642 [x0, x1, x2, x3] [] w Q) ∧ (¬ (s0 = s1) → Q (some (vi 0)) w)) := by
  rw [T_icmp_eq 1642 c0_529 rfl, T_sipush c0_532, T_iretz c0_533 (by decide +kernel)]
  all_goals try simp only [Int.reduceToNat, true_and, Nat.reduceAdd, eq_self_iff_true, zero_eq_1, one_eq_0, true_or, or_true]
theorem g0_548 {d : Nat} {a3 s0 : Int} {r2 : Nat} {x1 : Option aV} {w : aW} {Q : Option aV → aW → Prop} : T (d + 1) 0 548 [some (vr 999), x1, some (vr r2), some (vi a3)] [vi s0] w Q = ((0 ≤ w32 (a3 + 1) ∧ w32 (a3 + 1) < w 999 (-1)) ∧ ((0 ≤ w32 (a3 + 2) ∧ w32 (a3 + 2) < w 999 (-1)) ∧ (lay r2 = (12, 0) ∧ T d 22 0 [some (vr r2), some (vi (w 999 (w32 (a3 + 1)))), some (vi (w 999 (w32 (a3 + 2)))), none] [] w (fun r w1 => T (d + 1) 0 562 [some (vr 999), x1, some (vr r2), some (vi a3)] (r.toList ++ [vi s0]) w1 Q)))) := by
  rw [T_aload_2 c0_548, T_aload_0 c0_549, T_iload_3 c0_550, T_sipush c0_551, T_iadd c0_552, T_iald c0_553, T_aload_0 c0_554, T_iload_3 c0_555, T_sipush c0_556, T_iadd c0_557, T_iald c0_558, T_invv (es := [some (vr r2), some (vi (w 999 (w32 (a3 + 1)))), some (vi (w 999 (w32 (a3 + 2)))), none]) (st := [vi (w 999 (w32 (a3 + 2))), vi (w 999 (w32 (a3 + 1))), vr r2, vi s0]) (ks := [2, 0, 0]) (n := 4) (c := 12) (k := r2) (as := [vi (w 999 (w32 (a3 + 1))), vi (w 999 (w32 (a3 + 2)))]) (rest := [vi s0]) c0_559 (by decide +kernel) (by decide +kernel) (by decide +kernel) (by decide) rfl rfl (Nat.le_of_ble_eq_true rfl)]
  all_goals try simp only [ld_999, true_and, Nat.reduceAdd, eq_self_iff_true]
theorem g0_562 {d : Nat} {s0 s1 : Int} {x0 x1 x2 x3 : Option aV} {w : aW} {Q : Option aV → aW → Prop} : T d 0 562 [x0, x1, x2, x3] [vi s1, vi s0] w Q = ((s0 = s1 → T d 0 1642 [x0, x1, x2, x3] [] w Q) ∧ (¬ (s0 = s1) → Q (some (vi 0)) w)) := by
  rw [T_icmp_eq 1642 c0_562 rfl, T_sipush c0_565, T_iretz c0_566 (by decide +kernel)]
  all_goals try simp only [Int.reduceToNat, true_and, Nat.reduceAdd, eq_self_iff_true, zero_eq_1, one_eq_0, true_or, or_true]
theorem g0_576 {d : Nat} {a3 s0 : Int} {r2 : Nat} {x1 : Option aV} {w : aW} {Q : Option aV → aW → Prop} : T (d + 1) 0 576 [some (vr 999), x1, some (vr r2), some (vi a3)] [vi s0] w Q = ((0 ≤ w32 (a3 + 1) ∧ w32 (a3 + 1) < w 999 (-1)) ∧ (lay r2 = (12, 0) ∧ T d 24 0 [some (vr r2), some (vi (w 999 (w32 (a3 + 1)))), none, none] [] w (fun r w1 => T (d + 1) 0 585 [some (vr 999), x1, some (vr r2), some (vi a3)] (r.toList ++ [vi s0]) w1 Q))) := by
  rw [T_aload_2 c0_576, T_aload_0 c0_577, T_iload_3 c0_578, T_sipush c0_579, T_iadd c0_580, T_iald c0_581, T_invv (es := [some (vr r2), some (vi (w 999 (w32 (a3 + 1)))), none, none]) (st := [vi (w 999 (w32 (a3 + 1))), vr r2, vi s0]) (ks := [2, 0]) (n := 4) (c := 12) (k := r2) (as := [vi (w 999 (w32 (a3 + 1)))]) (rest := [vi s0]) c0_582 (by decide +kernel) (by decide +kernel) (by decide +kernel) (by decide) rfl rfl (Nat.le_of_ble_eq_true rfl)]
  all_goals try simp only [ld_999, true_and, Nat.reduceAdd, eq_self_iff_true]
theorem g0_585 {d : Nat} {s0 s1 : Int} {x0 x1 x2 x3 : Option aV} {w : aW} {Q : Option aV → aW → Prop} : T d 0 585 [x0, x1, x2, x3] [vi s1, vi s0] w Q = ((s0 = s1 → T d 0 1642 [x0, x1, x2, x3] [] w Q) ∧ (¬ (s0 = s1) → Q (some (vi 0)) w)) := by
  rw [T_icmp_eq 1642 c0_585 rfl, T_sipush c0_588, T_iretz c0_589 (by decide +kernel)]
  all_goals try simp only [Int.reduceToNat, true_and, Nat.reduceAdd, eq_self_iff_true, zero_eq_1, one_eq_0, true_or, or_true]
theorem g0_599 {d : Nat} {a3 s0 : Int} {r2 : Nat} {x1 : Option aV} {w : aW} {Q : Option aV → aW → Prop} : T (d + 1) 0 599 [some (vr 999), x1, some (vr r2), some (vi a3)] [vi s0] w Q = ((0 ≤ w32 (a3 + 1) ∧ w32 (a3 + 1) < w 999 (-1)) ∧ (lay r2 = (12, 0) ∧ T d 26 0 [some (vr r2), some (vi (w 999 (w32 (a3 + 1)))), none] [] w (fun r w1 => T (d + 1) 0 608 [some (vr 999), x1, some (vr r2), some (vi a3)] (r.toList ++ [vi s0]) w1 Q))) := by
  rw [T_aload_2 c0_599, T_aload_0 c0_600, T_iload_3 c0_601, T_sipush c0_602, T_iadd c0_603, T_iald c0_604, T_invv (es := [some (vr r2), some (vi (w 999 (w32 (a3 + 1)))), none]) (st := [vi (w 999 (w32 (a3 + 1))), vr r2, vi s0]) (ks := [2, 0]) (n := 3) (c := 12) (k := r2) (as := [vi (w 999 (w32 (a3 + 1)))]) (rest := [vi s0]) c0_605 (by decide +kernel) (by decide +kernel) (by decide +kernel) (by decide) rfl rfl (Nat.le_of_ble_eq_true rfl)]
  all_goals try simp only [ld_999, true_and, Nat.reduceAdd, eq_self_iff_true]
theorem g0_608 {d : Nat} {s0 s1 : Int} {x0 x1 x2 x3 : Option aV} {w : aW} {Q : Option aV → aW → Prop} : T d 0 608 [x0, x1, x2, x3] [vi s1, vi s0] w Q = ((s0 = s1 → T d 0 1642 [x0, x1, x2, x3] [] w Q) ∧ (¬ (s0 = s1) → Q (some (vi 0)) w)) := by
  rw [T_icmp_eq 1642 c0_608 rfl, T_sipush c0_611, T_iretz c0_612 (by decide +kernel)]
  all_goals try simp only [Int.reduceToNat, true_and, Nat.reduceAdd, eq_self_iff_true, zero_eq_1, one_eq_0, true_or, or_true]
theorem g0_627 {d : Nat} {a3 s0 : Int} {r2 : Nat} {x1 : Option aV} {w : aW} {Q : Option aV → aW → Prop} : T (d + 1) 0 627 [some (vr 999), x1, some (vr r2), some (vi a3)] [vi s0] w Q = ((0 ≤ w32 (a3 + 1) ∧ w32 (a3 + 1) < w 999 (-1)) ∧ ((0 ≤ w32 (a3 + 2) ∧ w32 (a3 + 2) < w 999 (-1)) ∧ (lay r2 = (12, 0) ∧ T d 28 0 [some (vr r2), some (vi (w 999 (w32 (a3 + 1)))), some (vi (w 999 (w32 (a3 + 2)))), none, none, none] [] w (fun r w1 => T (d + 1) 0 641 [some (vr 999), x1, some (vr r2), some (vi a3)] (r.toList ++ [vi s0]) w1 Q)))) := by
  rw [T_aload_2 c0_627, T_aload_0 c0_628, T_iload_3 c0_629, T_sipush c0_630, T_iadd c0_631, T_iald c0_632, T_aload_0 c0_633, T_iload_3 c0_634, T_sipush c0_635, T_iadd c0_636, T_iald c0_637, T_invv (es := [some (vr r2), some (vi (w 999 (w32 (a3 + 1)))), some (vi (w 999 (w32 (a3 + 2)))), none, none, none]) (st := [vi (w 999 (w32 (a3 + 2))), vi (w 999 (w32 (a3 + 1))), vr r2, vi s0]) (ks := [2, 0, 0]) (n := 6) (c := 12) (k := r2) (as := [vi (w 999 (w32 (a3 + 1))), vi (w 999 (w32 (a3 + 2)))]) (rest := [vi s0]) c0_638 (by decide +kernel) (by decide +kernel) (by decide +kernel) (by decide) rfl rfl (Nat.le_of_ble_eq_true rfl)]
  all_goals try simp only [ld_999, true_and, Nat.reduceAdd, eq_self_iff_true]
theorem g0_641 {d : Nat} {s0 s1 : Int} {x0 x1 x2 x3 : Option aV} {w : aW} {Q : Option aV → aW → Prop} : T d 0 641 [x0, x1, x2, x3] [vi s1, vi s0] w Q = ((s0 = s1 → T d 0 1642 [x0, x1, x2, x3] [] w Q) ∧ (¬ (s0 = s1) → Q (some (vi 0)) w)) := by
  rw [T_icmp_eq 1642 c0_641 rfl, T_sipush c0_644, T_iretz c0_645 (by decide +kernel)]
  all_goals try simp only [Int.reduceToNat, true_and, Nat.reduceAdd, eq_self_iff_true, zero_eq_1, one_eq_0, true_or, or_true]
theorem g0_655 {d : Nat} {a3 s0 : Int} {r2 : Nat} {x1 : Option aV} {w : aW} {Q : Option aV → aW → Prop} : T (d + 1) 0 655 [some (vr 999), x1, some (vr r2), some (vi a3)] [vi s0] w Q = ((0 ≤ w32 (a3 + 1) ∧ w32 (a3 + 1) < w 999 (-1)) ∧ (lay r2 = (12, 0) ∧ T d 30 0 [some (vr r2), some (vi (w 999 (w32 (a3 + 1)))), none] [] w (fun r w1 => T (d + 1) 0 664 [some (vr 999), x1, some (vr r2), some (vi a3)] (r.toList ++ [vi s0]) w1 Q))) := by
  rw [T_aload_2 c0_655, T_aload_0 c0_656, T_iload_3 c0_657, T_sipush c0_658, T_iadd c0_659, T_iald c0_660, T_invv (es := [some (vr r2), some (vi (w 999 (w32 (a3 + 1)))), none]) (st := [vi (w 999 (w32 (a3 + 1))), vr r2, vi s0]) (ks := [2, 0]) (n := 3) (c := 12) (k := r2) (as := [vi (w 999 (w32 (a3 + 1)))]) (rest := [vi s0]) c0_661 (by decide +kernel) (by decide +kernel) (by decide +kernel) (by decide) rfl rfl (Nat.le_of_ble_eq_true rfl)]
  all_goals try simp only [ld_999, true_and, Nat.reduceAdd, eq_self_iff_true]
theorem g0_664 {d : Nat} {s0 s1 : Int} {x0 x1 x2 x3 : Option aV} {w : aW} {Q : Option aV → aW → Prop} : T d 0 664 [x0, x1, x2, x3] [vi s1, vi s0] w Q = ((s0 = s1 → T d 0 1642 [x0, x1, x2, x3] [] w Q) ∧ (¬ (s0 = s1) → Q (some (vi 0)) w)) := by
  rw [T_icmp_eq 1642 c0_664 rfl, T_sipush c0_667, T_iretz c0_668 (by decide +kernel)]
  all_goals try simp only [Int.reduceToNat, true_and, Nat.reduceAdd, eq_self_iff_true, zero_eq_1, one_eq_0, true_or, or_true]
theorem g0_683 {d : Nat} {a3 s0 : Int} {r2 : Nat} {x1 : Option aV} {w : aW} {Q : Option aV → aW → Prop} : T (d + 1) 0 683 [some (vr 999), x1, some (vr r2), some (vi a3)] [vi s0] w Q = ((0 ≤ w32 (a3 + 1) ∧ w32 (a3 + 1) < w 999 (-1)) ∧ ((0 ≤ w32 (a3 + 2) ∧ w32 (a3 + 2) < w 999 (-1)) ∧ (lay r2 = (12, 0) ∧ T d 32 0 [some (vr r2), some (vi (w 999 (w32 (a3 + 1)))), some (vi (w 999 (w32 (a3 + 2)))), none] [] w (fun r w1 => T (d + 1) 0 697 [some (vr 999), x1, some (vr r2), some (vi a3)] (r.toList ++ [vi s0]) w1 Q)))) := by
  rw [T_aload_2 c0_683, T_aload_0 c0_684, T_iload_3 c0_685, T_sipush c0_686, T_iadd c0_687, T_iald c0_688, T_aload_0 c0_689, T_iload_3 c0_690, T_sipush c0_691, T_iadd c0_692, T_iald c0_693, T_invv (es := [some (vr r2), some (vi (w 999 (w32 (a3 + 1)))), some (vi (w 999 (w32 (a3 + 2)))), none]) (st := [vi (w 999 (w32 (a3 + 2))), vi (w 999 (w32 (a3 + 1))), vr r2, vi s0]) (ks := [2, 0, 0]) (n := 4) (c := 12) (k := r2) (as := [vi (w 999 (w32 (a3 + 1))), vi (w 999 (w32 (a3 + 2)))]) (rest := [vi s0]) c0_694 (by decide +kernel) (by decide +kernel) (by decide +kernel) (by decide) rfl rfl (Nat.le_of_ble_eq_true rfl)]
  all_goals try simp only [ld_999, true_and, Nat.reduceAdd, eq_self_iff_true]
theorem g0_697 {d : Nat} {s0 s1 : Int} {x0 x1 x2 x3 : Option aV} {w : aW} {Q : Option aV → aW → Prop} : T d 0 697 [x0, x1, x2, x3] [vi s1, vi s0] w Q = ((s0 = s1 → T d 0 1642 [x0, x1, x2, x3] [] w Q) ∧ (¬ (s0 = s1) → Q (some (vi 0)) w)) := by
  rw [T_icmp_eq 1642 c0_697 rfl, T_sipush c0_700, T_iretz c0_701 (by decide +kernel)]
  all_goals try simp only [Int.reduceToNat, true_and, Nat.reduceAdd, eq_self_iff_true, zero_eq_1, one_eq_0, true_or, or_true]
theorem g0_711 {d : Nat} {a3 s0 : Int} {r2 : Nat} {x1 : Option aV} {w : aW} {Q : Option aV → aW → Prop} : T (d + 1) 0 711 [some (vr 999), x1, some (vr r2), some (vi a3)] [vi s0] w Q = ((0 ≤ w32 (a3 + 1) ∧ w32 (a3 + 1) < w 999 (-1)) ∧ (lay r2 = (12, 0) ∧ T d 34 0 [some (vr r2), some (vi (w 999 (w32 (a3 + 1))))] [] w (fun r w1 => T (d + 1) 0 720 [some (vr 999), x1, some (vr r2), some (vi a3)] (r.toList ++ [vi s0]) w1 Q))) := by
  rw [T_aload_2 c0_711, T_aload_0 c0_712, T_iload_3 c0_713, T_sipush c0_714, T_iadd c0_715, T_iald c0_716, T_invv (es := [some (vr r2), some (vi (w 999 (w32 (a3 + 1))))]) (st := [vi (w 999 (w32 (a3 + 1))), vr r2, vi s0]) (ks := [2, 0]) (n := 2) (c := 12) (k := r2) (as := [vi (w 999 (w32 (a3 + 1)))]) (rest := [vi s0]) c0_717 (by decide +kernel) (by decide +kernel) (by decide +kernel) (by decide) rfl rfl (Nat.le_of_ble_eq_true rfl)]
  all_goals try simp only [ld_999, true_and, Nat.reduceAdd, eq_self_iff_true]
theorem g0_720 {d : Nat} {s0 s1 : Int} {x0 x1 x2 x3 : Option aV} {w : aW} {Q : Option aV → aW → Prop} : T d 0 720 [x0, x1, x2, x3] [vi s1, vi s0] w Q = ((s0 = s1 → T d 0 1642 [x0, x1, x2, x3] [] w Q) ∧ (¬ (s0 = s1) → Q (some (vi 0)) w)) := by
  rw [T_icmp_eq 1642 c0_720 rfl, T_sipush c0_723, T_iretz c0_724 (by decide +kernel)]
  all_goals try simp only [Int.reduceToNat, true_and, Nat.reduceAdd, eq_self_iff_true, zero_eq_1, one_eq_0, true_or, or_true]
theorem g0_739 {d : Nat} {a3 s0 : Int} {r2 : Nat} {x1 : Option aV} {w : aW} {Q : Option aV → aW → Prop} : T (d + 1) 0 739 [some (vr 999), x1, some (vr r2), some (vi a3)] [vi s0] w Q = ((0 ≤ w32 (a3 + 1) ∧ w32 (a3 + 1) < w 999 (-1)) ∧ ((0 ≤ w32 (a3 + 2) ∧ w32 (a3 + 2) < w 999 (-1)) ∧ (lay r2 = (12, 0) ∧ T d 36 0 [some (vr r2), some (vi (w 999 (w32 (a3 + 1)))), some (vi (w 999 (w32 (a3 + 2))))] [] w (fun r w1 => T (d + 1) 0 753 [some (vr 999), x1, some (vr r2), some (vi a3)] (r.toList ++ [vi s0]) w1 Q)))) := by
  rw [T_aload_2 c0_739, T_aload_0 c0_740, T_iload_3 c0_741, T_sipush c0_742, T_iadd c0_743, T_iald c0_744, T_aload_0 c0_745, T_iload_3 c0_746, T_sipush c0_747, T_iadd c0_748, T_iald c0_749, T_invv (es := [some (vr r2), some (vi (w 999 (w32 (a3 + 1)))), some (vi (w 999 (w32 (a3 + 2))))]) (st := [vi (w 999 (w32 (a3 + 2))), vi (w 999 (w32 (a3 + 1))), vr r2, vi s0]) (ks := [2, 0, 0]) (n := 3) (c := 12) (k := r2) (as := [vi (w 999 (w32 (a3 + 1))), vi (w 999 (w32 (a3 + 2)))]) (rest := [vi s0]) c0_750 (by decide +kernel) (by decide +kernel) (by decide +kernel) (by decide) rfl rfl (Nat.le_of_ble_eq_true rfl)]
  all_goals try simp only [ld_999, true_and, Nat.reduceAdd, eq_self_iff_true]
theorem g0_753 {d : Nat} {s0 s1 : Int} {x0 x1 x2 x3 : Option aV} {w : aW} {Q : Option aV → aW → Prop} : T d 0 753 [x0, x1, x2, x3] [vi s1, vi s0] w Q = ((s0 = s1 → T d 0 1642 [x0, x1, x2, x3] [] w Q) ∧ (¬ (s0 = s1) → Q (some (vi 0)) w)) := by
  rw [T_icmp_eq 1642 c0_753 rfl, T_sipush c0_756, T_iretz c0_757 (by decide +kernel)]
  all_goals try simp only [Int.reduceToNat, true_and, Nat.reduceAdd, eq_self_iff_true, zero_eq_1, one_eq_0, true_or, or_true]
theorem g0_772 {d : Nat} {a3 s0 : Int} {r2 : Nat} {x1 : Option aV} {w : aW} {Q : Option aV → aW → Prop} : T (d + 1) 0 772 [some (vr 999), x1, some (vr r2), some (vi a3)] [vi s0] w Q = ((0 ≤ w32 (a3 + 1) ∧ w32 (a3 + 1) < w 999 (-1)) ∧ ((0 ≤ w32 (a3 + 2) ∧ w32 (a3 + 2) < w 999 (-1)) ∧ (lay r2 = (12, 0) ∧ T d 38 0 [some (vr r2), some (vi (w 999 (w32 (a3 + 1)))), some (vi (w 999 (w32 (a3 + 2))))] [] w (fun r w1 => T (d + 1) 0 786 [some (vr 999), x1, some (vr r2), some (vi a3)] (r.toList ++ [vi s0]) w1 Q)))) := by
  rw [T_aload_2 c0_772, T_aload_0 c0_773, T_iload_3 c0_774, T_sipush c0_775, T_iadd c0_776, T_iald c0_777, T_aload_0 c0_778, T_iload_3 c0_779, T_sipush c0_780, T_iadd c0_781, T_iald c0_782, T_invv (es := [some (vr r2), some (vi (w 999 (w32 (a3 + 1)))), some (vi (w 999 (w32 (a3 + 2))))]) (st := [vi (w 999 (w32 (a3 + 2))), vi (w 999 (w32 (a3 + 1))), vr r2, vi s0]) (ks := [2, 0, 0]) (n := 3) (c := 12) (k := r2) (as := [vi (w 999 (w32 (a3 + 1))), vi (w 999 (w32 (a3 + 2)))]) (rest := [vi s0]) c0_783 (by decide +kernel) (by decide +kernel) (by decide +kernel) (by decide) rfl rfl (Nat.le_of_ble_eq_true rfl)]
  all_goals try simp only [ld_999, true_and, Nat.reduceAdd, eq_self_iff_true]
theorem g0_786 {d : Nat} {s0 s1 : Int} {x0 x1 x2 x3 : Option aV} {w : aW} {Q : Option aV → aW → Prop} : T d 0 786 [x0, x1, x2, x3] [vi s1, vi s0] w Q = ((s0 = s1 → T d 0 1642 [x0, x1, x2, x3] [] w Q) ∧ (¬ (s0 = s1) → Q (some (vi 0)) w)) := by
  rw [T_icmp_eq 1642 c0_786 rfl, T_sipush c0_789, T_iretz c0_790 (by decide +kernel)]
  all_goals try simp only [Int.reduceToNat, true_and, Nat.reduceAdd, eq_self_iff_true, zero_eq_1, one_eq_0, true_or, or_true]
theorem g0_800 {d : Nat} {a3 s0 : Int} {r2 : Nat} {x1 : Option aV} {w : aW} {Q : Option aV → aW → Prop} : T (d + 1) 0 800 [some (vr 999), x1, some (vr r2), some (vi a3)] [vi s0] w Q = ((0 ≤ w32 (a3 + 1) ∧ w32 (a3 + 1) < w 999 (-1)) ∧ (lay r2 = (12, 0) ∧ T d 40 0 [some (vr r2), some (vi (w 999 (w32 (a3 + 1)))), none, none] [] w (fun r w1 => T (d + 1) 0 809 [some (vr 999), x1, some (vr r2), some (vi a3)] (r.toList ++ [vi s0]) w1 Q))) := by
  rw [T_aload_2 c0_800, T_aload_0 c0_801, T_iload_3 c0_802, T_sipush c0_803, T_iadd c0_804, T_iald c0_805, T_invv (es := [some (vr r2), some (vi (w 999 (w32 (a3 + 1)))), none, none]) (st := [vi (w 999 (w32 (a3 + 1))), vr r2, vi s0]) (ks := [2, 0]) (n := 4) (c := 12) (k := r2) (as := [vi (w 999 (w32 (a3 + 1)))]) (rest := [vi s0]) c0_806 (by decide +kernel) (by decide +kernel) (by decide +kernel) (by decide) rfl rfl (Nat.le_of_ble_eq_true rfl)]
  all_goals try simp only [ld_999, true_and, Nat.reduceAdd, eq_self_iff_true]
theorem g0_809 {d : Nat} {s0 s1 : Int} {x0 x1 x2 x3 : Option aV} {w : aW} {Q : Option aV → aW → Prop} : T d 0 809 [x0, x1, x2, x3] [vi s1, vi s0] w Q = ((s0 = s1 → T d 0 1642 [x0, x1, x2, x3] [] w Q) ∧ (¬ (s0 = s1) → Q (some (vi 0)) w)) := by
  rw [T_icmp_eq 1642 c0_809 rfl, T_sipush c0_812, T_iretz c0_813 (by decide +kernel)]
  all_goals try simp only [Int.reduceToNat, true_and, Nat.reduceAdd, eq_self_iff_true, zero_eq_1, one_eq_0, true_or, or_true]
theorem g0_823 {d : Nat} {a3 s0 : Int} {r2 : Nat} {x1 : Option aV} {w : aW} {Q : Option aV → aW → Prop} : T (d + 1) 0 823 [some (vr 999), x1, some (vr r2), some (vi a3)] [vi s0] w Q = ((0 ≤ w32 (a3 + 1) ∧ w32 (a3 + 1) < w 999 (-1)) ∧ (lay r2 = (12, 0) ∧ T d 42 0 [some (vr r2), some (vi (w 999 (w32 (a3 + 1)))), none, none] [] w (fun r w1 => T (d + 1) 0 832 [some (vr 999), x1, some (vr r2), some (vi a3)] (r.toList ++ [vi s0]) w1 Q))) := by
  rw [T_aload_2 c0_823, T_aload_0 c0_824, T_iload_3 c0_825, T_sipush c0_826, T_iadd c0_827, T_iald c0_828, T_invv (es := [some (vr r2), some (vi (w 999 (w32 (a3 + 1)))), none, none]) (st := [vi (w 999 (w32 (a3 + 1))), vr r2, vi s0]) (ks := [2, 0]) (n := 4) (c := 12) (k := r2) (as := [vi (w 999 (w32 (a3 + 1)))]) (rest := [vi s0]) c0_829 (by decide +kernel) (by decide +kernel) (by decide +kernel) (by decide) rfl rfl (Nat.le_of_ble_eq_true rfl)]
  all_goals try simp only [ld_999, true_and, Nat.reduceAdd, eq_self_iff_true]
theorem g0_832 {d : Nat} {s0 s1 : Int} {x0 x1 x2 x3 : Option aV} {w : aW} {Q : Option aV → aW → Prop} : T d 0 832 [x0, x1, x2, x3] [vi s1, vi s0] w Q = ((s0 = s1 → T d 0 1642 [x0, x1, x2, x3] [] w Q) ∧ (¬ (s0 = s1) → Q (some (vi 0)) w)) := by
  rw [T_icmp_eq 1642 c0_832 rfl, T_sipush c0_835, T_iretz c0_836 (by decide +kernel)]
  all_goals try simp only [Int.reduceToNat, true_and, Nat.reduceAdd, eq_self_iff_true, zero_eq_1, one_eq_0, true_or, or_true]
theorem g0_846 {d : Nat} {a3 s0 : Int} {r2 : Nat} {x1 : Option aV} {w : aW} {Q : Option aV → aW → Prop} : T (d + 1) 0 846 [some (vr 999), x1, some (vr r2), some (vi a3)] [vi s0] w Q = ((0 ≤ w32 (a3 + 1) ∧ w32 (a3 + 1) < w 999 (-1)) ∧ (lay r2 = (12, 0) ∧ T d 44 0 [some (vr r2), some (vi (w 999 (w32 (a3 + 1)))), none, none] [] w (fun r w1 => T (d + 1) 0 855 [some (vr 999), x1, some (vr r2), some (vi a3)] (r.toList ++ [vi s0]) w1 Q))) := by
  rw [T_aload_2 c0_846, T_aload_0 c0_847, T_iload_3 c0_848, T_sipush c0_849, T_iadd c0_850, T_iald c0_851, T_invv (es := [some (vr r2), some (vi (w 999 (w32 (a3 + 1)))), none, none]) (st := [vi (w 999 (w32 (a3 + 1))), vr r2, vi s0]) (ks := [2, 0]) (n := 4) (c := 12) (k := r2) (as := [vi (w 999 (w32 (a3 + 1)))]) (rest := [vi s0]) c0_852 (by decide +kernel) (by decide +kernel) (by decide +kernel) (by decide) rfl rfl (Nat.le_of_ble_eq_true rfl)]
  all_goals try simp only [ld_999, true_and, Nat.reduceAdd, eq_self_iff_true]
theorem g0_855 {d : Nat} {s0 s1 : Int} {x0 x1 x2 x3 : Option aV} {w : aW} {Q : Option aV → aW → Prop} : T d 0 855 [x0, x1, x2, x3] [vi s1, vi s0] w Q = ((s0 = s1 → T d 0 1642 [x0, x1, x2, x3] [] w Q) ∧ (¬ (s0 = s1) → Q (some (vi 0)) w)) := by
  rw [T_icmp_eq 1642 c0_855 rfl, T_sipush c0_858, T_iretz c0_859 (by decide +kernel)]
  all_goals try simp only [Int.reduceToNat, true_and, Nat.reduceAdd, eq_self_iff_true, zero_eq_1, one_eq_0, true_or, or_true]
theorem g0_864 {d : Nat} {s0 : Int} {r2 : Nat} {x0 x1 x3 : Option aV} {w : aW} {Q : Option aV → aW → Prop} : T (d + 1) 0 864 [x0, x1, some (vr r2), x3] [vi s0] w Q = (lay r2 = (12, 0) ∧ T d 46 0 [some (vr r2), none, none] [] w (fun r w1 => T (d + 1) 0 868 [x0, x1, some (vr r2), x3] (r.toList ++ [vi s0]) w1 Q)) := by
  rw [T_aload_2 c0_864, T_invv (es := [some (vr r2), none, none]) (st := [vr r2, vi s0]) (ks := [2]) (n := 3) (c := 12) (k := r2) (as := []) (rest := [vi s0]) c0_865 (by decide +kernel) (by decide +kernel) (by decide +kernel) (by decide) rfl rfl (Nat.le_of_ble_eq_true rfl)]
  all_goals try simp only [true_and, Nat.reduceAdd, eq_self_iff_true]
theorem g0_868 {d : Nat} {s0 s1 : Int} {x0 x1 x2 x3 : Option aV} {w : aW} {Q : Option aV → aW → Prop} : T d 0 868 [x0, x1, x2, x3] [vi s1, vi s0] w Q = ((s0 = s1 → T d 0 1642 [x0, x1, x2, x3] [] w Q) ∧ (¬ (s0 = s1) → Q (some (vi 0)) w)) := by
  rw [T_icmp_eq 1642 c0_868 rfl, T_sipush c0_871, T_iretz c0_872 (by decide +kernel)]
  all_goals try simp only [Int.reduceToNat, true_and, Nat.reduceAdd, eq_self_iff_true, zero_eq_1, one_eq_0, true_or, or_true]
theorem g0_877 {d : Nat} {s0 : Int} {r2 : Nat} {x0 x1 x3 : Option aV} {w : aW} {Q : Option aV → aW → Prop} : T (d + 1) 0 877 [x0, x1, some (vr r2), x3] [vi s0] w Q = (lay r2 = (12, 0) ∧ T d 48 0 [some (vr r2), none, none] [] w (fun r w1 => T (d + 1) 0 881 [x0, x1, some (vr r2), x3] (r.toList ++ [vi s0]) w1 Q)) := by
  rw [T_aload_2 c0_877, T_invv (es := [some (vr r2), none, none]) (st := [vr r2, vi s0]) (ks := [2]) (n := 3) (c := 12) (k := r2) (as := []) (rest := [vi s0]) c0_878 (by decide +kernel) (by decide +kernel) (by decide +kernel) (by decide) rfl rfl (Nat.le_of_ble_eq_true rfl)]
  all_goals try simp only [true_and, Nat.reduceAdd, eq_self_iff_true]
theorem g0_881 {d : Nat} {s0 s1 : Int} {x0 x1 x2 x3 : Option aV} {w : aW} {Q : Option aV → aW → Prop} : T d 0 881 [x0, x1, x2, x3] [vi s1, vi s0] w Q = ((s0 = s1 → T d 0 1642 [x0, x1, x2, x3] [] w Q) ∧ (¬ (s0 = s1) → Q (some (vi 0)) w)) := by
  rw [T_icmp_eq 1642 c0_881 rfl, T_sipush c0_884, T_iretz c0_885 (by decide +kernel)]
  all_goals try simp only [Int.reduceToNat, true_and, Nat.reduceAdd, eq_self_iff_true, zero_eq_1, one_eq_0, true_or, or_true]
theorem g0_900 {d : Nat} {a3 s0 : Int} {r2 : Nat} {x1 : Option aV} {w : aW} {Q : Option aV → aW → Prop} : T (d + 1) 0 900 [some (vr 999), x1, some (vr r2), some (vi a3)] [vi s0] w Q = ((0 ≤ w32 (a3 + 1) ∧ w32 (a3 + 1) < w 999 (-1)) ∧ ((0 ≤ w32 (a3 + 2) ∧ w32 (a3 + 2) < w 999 (-1)) ∧ (lay r2 = (12, 0) ∧ T d 50 0 [some (vr r2), some (vi (w 999 (w32 (a3 + 1)))), some (vi (w 999 (w32 (a3 + 2)))), none, none, none, none, none] [] w (fun r w1 => T (d + 1) 0 914 [some (vr 999), x1, some (vr r2), some (vi a3)] (r.toList ++ [vi s0]) w1 Q)))) := by
  rw [T_aload_2 c0_900, T_aload_0 c0_901, T_iload_3 c0_902, T_sipush c0_903, T_iadd c0_904, T_iald c0_905, T_aload_0 c0_906, T_iload_3 c0_907, T_sipush c0_908, T_iadd c0_909, T_iald c0_910, T_invv (es := [some (vr r2), some (vi (w 999 (w32 (a3 + 1)))), some (vi (w 999 (w32 (a3 + 2)))), none, none, none, none, none]) (st := [vi (w 999 (w32 (a3 + 2))), vi (w 999 (w32 (a3 + 1))), vr r2, vi s0]) (ks := [2, 0, 0]) (n := 8) (c := 12) (k := r2) (as := [vi (w 999 (w32 (a3 + 1))), vi (w 999 (w32 (a3 + 2)))]) (rest := [vi s0]) c0_911 (by decide +kernel) (by decide +kernel) (by decide +kernel) (by decide) rfl rfl (Nat.le_of_ble_eq_true rfl)]
  all_goals try simp only [ld_999, true_and, Nat.reduceAdd, eq_self_iff_true]
theorem g0_914 {d : Nat} {s0 s1 : Int} {x0 x1 x2 x3 : Option aV} {w : aW} {Q : Option aV → aW → Prop} : T d 0 914 [x0, x1, x2, x3] [vi s1, vi s0] w Q = ((s0 = s1 → T d 0 1642 [x0, x1, x2, x3] [] w Q) ∧ (¬ (s0 = s1) → Q (some (vi 0)) w)) := by
  rw [T_icmp_eq 1642 c0_914 rfl, T_sipush c0_917, T_iretz c0_918 (by decide +kernel)]
  all_goals try simp only [Int.reduceToNat, true_and, Nat.reduceAdd, eq_self_iff_true, zero_eq_1, one_eq_0, true_or, or_true]
theorem g0_928 {d : Nat} {a3 s0 : Int} {r2 : Nat} {x1 : Option aV} {w : aW} {Q : Option aV → aW → Prop} : T (d + 1) 0 928 [some (vr 999), x1, some (vr r2), some (vi a3)] [vi s0] w Q = ((0 ≤ w32 (a3 + 1) ∧ w32 (a3 + 1) < w 999 (-1)) ∧ (lay r2 = (12, 0) ∧ T d 52 0 [some (vr r2), some (vi (w 999 (w32 (a3 + 1)))), none] [] w (fun r w1 => T (d + 1) 0 937 [some (vr 999), x1, some (vr r2), some (vi a3)] (r.toList ++ [vi s0]) w1 Q))) := by
  rw [T_aload_2 c0_928, T_aload_0 c0_929, T_iload_3 c0_930, T_sipush c0_931, T_iadd c0_932, T_iald c0_933, T_invv (es := [some (vr r2), some (vi (w 999 (w32 (a3 + 1)))), none]) (st := [vi (w 999 (w32 (a3 + 1))), vr r2, vi s0]) (ks := [2, 0]) (n := 3) (c := 12) (k := r2) (as := [vi (w 999 (w32 (a3 + 1)))]) (rest := [vi s0]) c0_934 (by decide +kernel) (by decide +kernel) (by decide +kernel) (by decide) rfl rfl (Nat.le_of_ble_eq_true rfl)]
  all_goals try simp only [ld_999, true_and, Nat.reduceAdd, eq_self_iff_true]
theorem g0_937 {d : Nat} {s0 s1 : Int} {x0 x1 x2 x3 : Option aV} {w : aW} {Q : Option aV → aW → Prop} : T d 0 937 [x0, x1, x2, x3] [vi s1, vi s0] w Q = ((s0 = s1 → T d 0 1642 [x0, x1, x2, x3] [] w Q) ∧ (¬ (s0 = s1) → Q (some (vi 0)) w)) := by
  rw [T_icmp_eq 1642 c0_937 rfl, T_sipush c0_940, T_iretz c0_941 (by decide +kernel)]
  all_goals try simp only [Int.reduceToNat, true_and, Nat.reduceAdd, eq_self_iff_true, zero_eq_1, one_eq_0, true_or, or_true]
theorem g0_956 {d : Nat} {a3 s0 : Int} {r2 : Nat} {x1 : Option aV} {w : aW} {Q : Option aV → aW → Prop} : T (d + 1) 0 956 [some (vr 999), x1, some (vr r2), some (vi a3)] [vi s0] w Q = ((0 ≤ w32 (a3 + 1) ∧ w32 (a3 + 1) < w 999 (-1)) ∧ ((0 ≤ w32 (a3 + 2) ∧ w32 (a3 + 2) < w 999 (-1)) ∧ (lay r2 = (12, 0) ∧ T d 54 0 [some (vr r2), some (vi (w 999 (w32 (a3 + 1)))), some (vi (w 999 (w32 (a3 + 2)))), none, none, none] [] w (fun r w1 => T (d + 1) 0 970 [some (vr 999), x1, some (vr r2), some (vi a3)] (r.toList ++ [vi s0]) w1 Q)))) := by
  rw [T_aload_2 c0_956, T_aload_0 c0_957, T_iload_3 c0_958, T_sipush c0_959, T_iadd c0_960, T_iald c0_961, T_aload_0 c0_962, T_iload_3 c0_963, T_sipush c0_964, T_iadd c0_965, T_iald c0_966, T_invv (es := [some (vr r2), some (vi (w 999 (w32 (a3 + 1)))), some (vi (w 999 (w32 (a3 + 2)))), none, none, none]) (st := [vi (w 999 (w32 (a3 + 2))), vi (w 999 (w32 (a3 + 1))), vr r2, vi s0]) (ks := [2, 0, 0]) (n := 6) (c := 12) (k := r2) (as := [vi (w 999 (w32 (a3 + 1))), vi (w 999 (w32 (a3 + 2)))]) (rest := [vi s0]) c0_967 (by decide +kernel) (by decide +kernel) (by decide +kernel) (by decide) rfl rfl (Nat.le_of_ble_eq_true rfl)]
  all_goals try simp only [ld_999, true_and, Nat.reduceAdd, eq_self_iff_true]
theorem g0_970 {d : Nat} {s0 s1 : Int} {x0 x1 x2 x3 : Option aV} {w : aW} {Q : Option aV → aW → Prop} : T d 0 970 [x0, x1, x2, x3] [vi s1, vi s0] w Q = ((s0 = s1 → T d 0 1642 [x0, x1, x2, x3] [] w Q) ∧ (¬ (s0 = s1) → Q (some (vi 0)) w)) := by
  rw [T_icmp_eq 1642 c0_970 rfl, T_sipush c0_973, T_iretz c0_974 (by decide +kernel)]
  all_goals try simp only [Int.reduceToNat, true_and, Nat.reduceAdd, eq_self_iff_true, zero_eq_1, one_eq_0, true_or, or_true]
theorem g0_984 {d : Nat} {a3 s0 : Int} {r2 : Nat} {x1 : Option aV} {w : aW} {Q : Option aV → aW → Prop} : T (d + 1) 0 984 [some (vr 999), x1, some (vr r2), some (vi a3)] [vi s0] w Q = ((0 ≤ w32 (a3 + 1) ∧ w32 (a3 + 1) < w 999 (-1)) ∧ (lay r2 = (12, 0) ∧ T d 56 0 [some (vr r2), some (vi (w 999 (w32 (a3 + 1))))] [] w (fun r w1 => T (d + 1) 0 993 [some (vr 999), x1, some (vr r2), some (vi a3)] (r.toList ++ [vi s0]) w1 Q))) := by
  rw [T_aload_2 c0_984, T_aload_0 c0_985, T_iload_3 c0_986, T_sipush c0_987, T_iadd c0_988, T_iald c0_989, T_invv (es := [some (vr r2), some (vi (w 999 (w32 (a3 + 1))))]) (st := [vi (w 999 (w32 (a3 + 1))), vr r2, vi s0]) (ks := [2, 0]) (n := 2) (c := 12) (k := r2) (as := [vi (w 999 (w32 (a3 + 1)))]) (rest := [vi s0]) c0_990 (by decide +kernel) (by decide +kernel) (by decide +kernel) (by decide) rfl rfl (Nat.le_of_ble_eq_true rfl)]
  all_goals try simp only [ld_999, true_and, Nat.reduceAdd, eq_self_iff_true]
theorem g0_993 {d : Nat} {s0 s1 : Int} {x0 x1 x2 x3 : Option aV} {w : aW} {Q : Option aV → aW → Prop} : T d 0 993 [x0, x1, x2, x3] [vi s1, vi s0] w Q = ((s0 = s1 → T d 0 1642 [x0, x1, x2, x3] [] w Q) ∧ (¬ (s0 = s1) → Q (some (vi 0)) w)) := by
  rw [T_icmp_eq 1642 c0_993 rfl, T_sipush c0_996, T_iretz c0_997 (by decide +kernel)]
  all_goals try simp only [Int.reduceToNat, true_and, Nat.reduceAdd, eq_self_iff_true, zero_eq_1, one_eq_0, true_or, or_true]
theorem g0_1007 {d : Nat} {a3 s0 : Int} {r2 : Nat} {x1 : Option aV} {w : aW} {Q : Option aV → aW → Prop} : T (d + 1) 0 1007 [some (vr 999), x1, some (vr r2), some (vi a3)] [vi s0] w Q = ((0 ≤ w32 (a3 + 1) ∧ w32 (a3 + 1) < w 999 (-1)) ∧ (lay r2 = (12, 0) ∧ T d 58 0 [some (vr r2), some (vi (w 999 (w32 (a3 + 1))))] [] w (fun r w1 => T (d + 1) 0 1016 [some (vr 999), x1, some (vr r2), some (vi a3)] (r.toList ++ [vi s0]) w1 Q))) := by
  rw [T_aload_2 c0_1007, T_aload_0 c0_1008, T_iload_3 c0_1009, T_sipush c0_1010, T_iadd c0_1011, T_iald c0_1012, T_invv (es := [some (vr r2), some (vi (w 999 (w32 (a3 + 1))))]) (st := [vi (w 999 (w32 (a3 + 1))), vr r2, vi s0]) (ks := [2, 0]) (n := 2) (c := 12) (k := r2) (as := [vi (w 999 (w32 (a3 + 1)))]) (rest := [vi s0]) c0_1013 (by decide +kernel) (by decide +kernel) (by decide +kernel) (by decide) rfl rfl (Nat.le_of_ble_eq_true rfl)]
  all_goals try simp only [ld_999, true_and, Nat.reduceAdd, eq_self_iff_true]
theorem g0_1016 {d : Nat} {s0 s1 : Int} {x0 x1 x2 x3 : Option aV} {w : aW} {Q : Option aV → aW → Prop} : T d 0 1016 [x0, x1, x2, x3] [vi s1, vi s0] w Q = ((s0 = s1 → T d 0 1642 [x0, x1, x2, x3] [] w Q) ∧ (¬ (s0 = s1) → Q (some (vi 0)) w)) := by
  rw [T_icmp_eq 1642 c0_1016 rfl, T_sipush c0_1019, T_iretz c0_1020 (by decide +kernel)]
  all_goals try simp only [Int.reduceToNat, true_and, Nat.reduceAdd, eq_self_iff_true, zero_eq_1, one_eq_0, true_or, or_true]
theorem g0_1025 {d : Nat} {s0 : Int} {r2 : Nat} {x0 x1 x3 : Option aV} {w : aW} {Q : Option aV → aW → Prop} : T (d + 1) 0 1025 [x0, x1, some (vr r2), x3] [vi s0] w Q = (lay r2 = (12, 0) ∧ T d 60 0 [some (vr r2), none, none] [] w (fun r w1 => T (d + 1) 0 1029 [x0, x1, some (vr r2), x3] (r.toList ++ [vi s0]) w1 Q)) := by
  rw [T_aload_2 c0_1025, T_invv (es := [some (vr r2), none, none]) (st := [vr r2, vi s0]) (ks := [2]) (n := 3) (c := 12) (k := r2) (as := []) (rest := [vi s0]) c0_1026 (by decide +kernel) (by decide +kernel) (by decide +kernel) (by decide) rfl rfl (Nat.le_of_ble_eq_true rfl)]
  all_goals try simp only [true_and, Nat.reduceAdd, eq_self_iff_true]
theorem g0_1029 {d : Nat} {s0 s1 : Int} {x0 x1 x2 x3 : Option aV} {w : aW} {Q : Option aV → aW → Prop} : T d 0 1029 [x0, x1, x2, x3] [vi s1, vi s0] w Q = ((s0 = s1 → T d 0 1642 [x0, x1, x2, x3] [] w Q) ∧ (¬ (s0 = s1) → Q (some (vi 0)) w)) := by
  rw [T_icmp_eq 1642 c0_1029 rfl, T_sipush c0_1032, T_iretz c0_1033 (by decide +kernel)]
  all_goals try simp only [Int.reduceToNat, true_and, Nat.reduceAdd, eq_self_iff_true, zero_eq_1, one_eq_0, true_or, or_true]
theorem g0_1048 {d : Nat} {a3 s0 : Int} {r2 : Nat} {x1 : Option aV} {w : aW} {Q : Option aV → aW → Prop} : T (d + 1) 0 1048 [some (vr 999), x1, some (vr r2), some (vi a3)] [vi s0] w Q = ((0 ≤ w32 (a3 + 1) ∧ w32 (a3 + 1) < w 999 (-1)) ∧ ((0 ≤ w32 (a3 + 2) ∧ w32 (a3 + 2) < w 999 (-1)) ∧ (lay r2 = (12, 0) ∧ T d 62 0 [some (vr r2), some (vi (w 999 (w32 (a3 + 1)))), some (vi (w 999 (w32 (a3 + 2)))), none, none] [] w (fun r w1 => T (d + 1) 0 1062 [some (vr 999), x1, some (vr r2), some (vi a3)] (r.toList ++ [vi s0]) w1 Q)))) := by
  rw [T_aload_2 c0_1048, T_aload_0 c0_1049, T_iload_3 c0_1050, T_sipush c0_1051, T_iadd c0_1052, T_iald c0_1053, T_aload_0 c0_1054, T_iload_3 c0_1055, T_sipush c0_1056, T_iadd c0_1057, T_iald c0_1058, T_invv (es := [some (vr r2), some (vi (w 999 (w32 (a3 + 1)))), some (vi (w 999 (w32 (a3 + 2)))), none, none]) (st := [vi (w 999 (w32 (a3 + 2))), vi (w 999 (w32 (a3 + 1))), vr r2, vi s0]) (ks := [2, 0, 0]) (n := 5) (c := 12) (k := r2) (as := [vi (w 999 (w32 (a3 + 1))), vi (w 999 (w32 (a3 + 2)))]) (rest := [vi s0]) c0_1059 (by decide +kernel) (by decide +kernel) (by decide +kernel) (by decide) rfl rfl (Nat.le_of_ble_eq_true rfl)]
  all_goals try simp only [ld_999, true_and, Nat.reduceAdd, eq_self_iff_true]
theorem g0_1062 {d : Nat} {s0 s1 : Int} {x0 x1 x2 x3 : Option aV} {w : aW} {Q : Option aV → aW → Prop} : T d 0 1062 [x0, x1, x2, x3] [vi s1, vi s0] w Q = ((s0 = s1 → T d 0 1642 [x0, x1, x2, x3] [] w Q) ∧ (¬ (s0 = s1) → Q (some (vi 0)) w)) := by
  rw [T_icmp_eq 1642 c0_1062 rfl, T_sipush c0_1065, T_iretz c0_1066 (by decide +kernel)]
  all_goals try simp only [Int.reduceToNat, true_and, Nat.reduceAdd, eq_self_iff_true, zero_eq_1, one_eq_0, true_or, or_true]
theorem g0_1076 {d : Nat} {a3 s0 : Int} {r2 : Nat} {x1 : Option aV} {w : aW} {Q : Option aV → aW → Prop} : T (d + 1) 0 1076 [some (vr 999), x1, some (vr r2), some (vi a3)] [vi s0] w Q = ((0 ≤ w32 (a3 + 1) ∧ w32 (a3 + 1) < w 999 (-1)) ∧ (lay r2 = (12, 0) ∧ T d 64 0 [some (vr r2), some (vi (w 999 (w32 (a3 + 1)))), none] [] w (fun r w1 => T (d + 1) 0 1085 [some (vr 999), x1, some (vr r2), some (vi a3)] (r.toList ++ [vi s0]) w1 Q))) := by
  rw [T_aload_2 c0_1076, T_aload_0 c0_1077, T_iload_3 c0_1078, T_sipush c0_1079, T_iadd c0_1080, T_iald c0_1081, T_invv (es := [some (vr r2), some (vi (w 999 (w32 (a3 + 1)))), none]) (st := [vi (w 999 (w32 (a3 + 1))), vr r2, vi s0]) (ks := [2, 0]) (n := 3) (c := 12) (k := r2) (as := [vi (w 999 (w32 (a3 + 1)))]) (rest := [vi s0]) c0_1082 (by decide +kernel) (by decide +kernel) (by decide +kernel) (by decide) rfl rfl (Nat.le_of_ble_eq_true rfl)]
  all_goals try simp only [ld_999, true_and, Nat.reduceAdd, eq_self_iff_true]
theorem g0_1085 {d : Nat} {s0 s1 : Int} {x0 x1 x2 x3 : Option aV} {w : aW} {Q : Option aV → aW → Prop} : T d 0 1085 [x0, x1, x2, x3] [vi s1, vi s0] w Q = ((s0 = s1 → T d 0 1642 [x0, x1, x2, x3] [] w Q) ∧ (¬ (s0 = s1) → Q (some (vi 0)) w)) := by
  rw [T_icmp_eq 1642 c0_1085 rfl, T_sipush c0_1088, T_iretz c0_1089 (by decide +kernel)]
  all_goals try simp only [Int.reduceToNat, true_and, Nat.reduceAdd, eq_self_iff_true, zero_eq_1, one_eq_0, true_or, or_true]
theorem g0_1104 {d : Nat} {a3 s0 : Int} {r2 : Nat} {x1 : Option aV} {w : aW} {Q : Option aV → aW → Prop} : T (d + 1) 0 1104 [some (vr 999), x1, some (vr r2), some (vi a3)] [vi s0] w Q = ((0 ≤ w32 (a3 + 1) ∧ w32 (a3 + 1) < w 999 (-1)) ∧ ((0 ≤ w32 (a3 + 2) ∧ w32 (a3 + 2) < w 999 (-1)) ∧ (lay r2 = (12, 0) ∧ T d 66 0 [some (vr r2), some (vi (w 999 (w32 (a3 + 1)))), some (vi (w 999 (w32 (a3 + 2)))), none, none, none] [] w (fun r w1 => T (d + 1) 0 1118 [some (vr 999), x1, some (vr r2), some (vi a3)] (r.toList ++ [vi s0]) w1 Q)))) := by
  rw [T_aload_2 c0_1104, T_aload_0 c0_1105, T_iload_3 c0_1106, T_sipush c0_1107, T_iadd c0_1108, T_iald c0_1109, T_aload_0 c0_1110, T_iload_3 c0_1111, T_sipush c0_1112, T_iadd c0_1113, T_iald c0_1114, T_invv (es := [some (vr r2), some (vi (w 999 (w32 (a3 + 1)))), some (vi (w 999 (w32 (a3 + 2)))), none, none, none]) (st := [vi (w 999 (w32 (a3 + 2))), vi (w 999 (w32 (a3 + 1))), vr r2, vi s0]) (ks := [2, 0, 0]) (n := 6) (c := 12) (k := r2) (as := [vi (w 999 (w32 (a3 + 1))), vi (w 999 (w32 (a3 + 2)))]) (rest := [vi s0]) c0_1115 (by decide +kernel) (by decide +kernel) (by decide +kernel) (by decide) rfl rfl (Nat.le_of_ble_eq_true rfl)]
  all_goals try simp only [ld_999, true_and, Nat.reduceAdd, eq_self_iff_true]
theorem g0_1118 {d : Nat} {s0 s1 : Int} {x0 x1 x2 x3 : Option aV} {w : aW} {Q : Option aV → aW → Prop} : T d 0 1118 [x0, x1, x2, x3] [vi s1, vi s0] w Q = ((s0 = s1 → T d 0 1642 [x0, x1, x2, x3] [] w Q) ∧ (¬ (s0 = s1) → Q (some (vi 0)) w)) := by
  rw [T_icmp_eq 1642 c0_1118 rfl, T_sipush c0_1121, T_iretz c0_1122 (by decide +kernel)]
  all_goals try simp only [Int.reduceToNat, true_and, Nat.reduceAdd, eq_self_iff_true, zero_eq_1, one_eq_0, true_or, or_true]
theorem g0_1132 {d : Nat} {a3 s0 : Int} {r2 : Nat} {x1 : Option aV} {w : aW} {Q : Option aV → aW → Prop} : T (d + 1) 0 1132 [some (vr 999), x1, some (vr r2), some (vi a3)] [vi s0] w Q = ((0 ≤ w32 (a3 + 1) ∧ w32 (a3 + 1) < w 999 (-1)) ∧ (lay r2 = (12, 0) ∧ T d 68 0 [some (vr r2), some (vi (w 999 (w32 (a3 + 1)))), none, none, none] [] w (fun r w1 => T (d + 1) 0 1141 [some (vr 999), x1, some (vr r2), some (vi a3)] (r.toList ++ [vi s0]) w1 Q))) := by
  rw [T_aload_2 c0_1132, T_aload_0 c0_1133, T_iload_3 c0_1134, T_sipush c0_1135, T_iadd c0_1136, T_iald c0_1137, T_invv (es := [some (vr r2), some (vi (w 999 (w32 (a3 + 1)))), none, none, none]) (st := [vi (w 999 (w32 (a3 + 1))), vr r2, vi s0]) (ks := [2, 0]) (n := 5) (c := 12) (k := r2) (as := [vi (w 999 (w32 (a3 + 1)))]) (rest := [vi s0]) c0_1138 (by decide +kernel) (by decide +kernel) (by decide +kernel) (by decide) rfl rfl (Nat.le_of_ble_eq_true rfl)]
  all_goals try simp only [ld_999, true_and, Nat.reduceAdd, eq_self_iff_true]
theorem g0_1141 {d : Nat} {s0 s1 : Int} {x0 x1 x2 x3 : Option aV} {w : aW} {Q : Option aV → aW → Prop} : T d 0 1141 [x0, x1, x2, x3] [vi s1, vi s0] w Q = ((s0 = s1 → T d 0 1642 [x0, x1, x2, x3] [] w Q) ∧ (¬ (s0 = s1) → Q (some (vi 0)) w)) := by
  rw [T_icmp_eq 1642 c0_1141 rfl, T_sipush c0_1144, T_iretz c0_1145 (by decide +kernel)]
  all_goals try simp only [Int.reduceToNat, true_and, Nat.reduceAdd, eq_self_iff_true, zero_eq_1, one_eq_0, true_or, or_true]
theorem g0_1150 {d : Nat} {s0 : Int} {r2 : Nat} {x0 x1 x3 : Option aV} {w : aW} {Q : Option aV → aW → Prop} : T (d + 1) 0 1150 [x0, x1, some (vr r2), x3] [vi s0] w Q = (lay r2 = (12, 0) ∧ T d 70 0 [some (vr r2)] [] w (fun r w1 => T (d + 1) 0 1154 [x0, x1, some (vr r2), x3] (r.toList ++ [vi s0]) w1 Q)) := by
  rw [T_aload_2 c0_1150, T_invv (es := [some (vr r2)]) (st := [vr r2, vi s0]) (ks := [2]) (n := 1) (c := 12) (k := r2) (as := []) (rest := [vi s0]) c0_1151 (by decide +kernel) (by decide +kernel) (by decide +kernel) (by decide) rfl rfl (Nat.le_of_ble_eq_true rfl)]
  all_goals try simp only [true_and, Nat.reduceAdd, eq_self_iff_true]
theorem g0_1154 {d : Nat} {s0 s1 : Int} {x0 x1 x2 x3 : Option aV} {w : aW} {Q : Option aV → aW → Prop} : T d 0 1154 [x0, x1, x2, x3] [vi s1, vi s0] w Q = ((s0 = s1 → T d 0 1642 [x0, x1, x2, x3] [] w Q) ∧ (¬ (s0 = s1) → Q (some (vi 0)) w)) := by
  rw [T_icmp_eq 1642 c0_1154 rfl, T_sipush c0_1157, T_iretz c0_1158 (by decide +kernel)]
  all_goals try simp only [Int.reduceToNat, true_and, Nat.reduceAdd, eq_self_iff_true, zero_eq_1, one_eq_0, true_or, or_true]
theorem g0_1163 {d : Nat} {s0 : Int} {r2 : Nat} {x0 x1 x3 : Option aV} {w : aW} {Q : Option aV → aW → Prop} : T (d + 1) 0 1163 [x0, x1, some (vr r2), x3] [vi s0] w Q = (lay r2 = (12, 0) ∧ T d 72 0 [some (vr r2)] [] w (fun r w1 => T (d + 1) 0 1167 [x0, x1, some (vr r2), x3] (r.toList ++ [vi s0]) w1 Q)) := by
  rw [T_aload_2 c0_1163, T_invv (es := [some (vr r2)]) (st := [vr r2, vi s0]) (ks := [2]) (n := 1) (c := 12) (k := r2) (as := []) (rest := [vi s0]) c0_1164 (by decide +kernel) (by decide +kernel) (by decide +kernel) (by decide) rfl rfl (Nat.le_of_ble_eq_true rfl)]
  all_goals try simp only [true_and, Nat.reduceAdd, eq_self_iff_true]
theorem g0_1167 {d : Nat} {s0 s1 : Int} {x0 x1 x2 x3 : Option aV} {w : aW} {Q : Option aV → aW → Prop} : T d 0 1167 [x0, x1, x2, x3] [vi s1, vi s0] w Q = ((s0 = s1 → T d 0 1642 [x0, x1, x2, x3] [] w Q) ∧ (¬ (s0 = s1) → Q (some (vi 0)) w)) := by
  rw [T_icmp_eq 1642 c0_1167 rfl, T_sipush c0_1170, T_iretz c0_1171 (by decide +kernel)]
  all_goals try simp only [Int.reduceToNat, true_and, Nat.reduceAdd, eq_self_iff_true, zero_eq_1, one_eq_0, true_or, or_true]
theorem g0_1201 {d : Nat} {a3 s0 : Int} {r2 : Nat} {x1 : Option aV} {w : aW} {Q : Option aV → aW → Prop} : T (d + 1) 0 1201 [some (vr 999), x1, some (vr r2), some (vi a3)] [vi s0] w Q = ((0 ≤ w32 (a3 + 1) ∧ w32 (a3 + 1) < w 999 (-1)) ∧ ((0 ≤ w32 (a3 + 2) ∧ w32 (a3 + 2) < w 999 (-1)) ∧ ((0 ≤ w32 (a3 + 3) ∧ w32 (a3 + 3) < w 999 (-1)) ∧ ((0 ≤ w32 (a3 + 4) ∧ w32 (a3 + 4) < w 999 (-1)) ∧ ((0 ≤ w32 (a3 + 5) ∧ w32 (a3 + 5) < w 999 (-1)) ∧ (lay r2 = (12, 0) ∧ T d 74 0 [some (vr r2), some (vi (w 999 (w32 (a3 + 1)))), some (vi (w 999 (w32 (a3 + 2)))), some (vi (w 999 (w32 (a3 + 3)))), some (vi (w 999 (w32 (a3 + 4)))), some (vi (w 999 (w32 (a3 + 5)))), none, none] [] w (fun r w1 => T (d + 1) 0 1230 [some (vr 999), x1, some (vr r2), some (vi a3)] (r.toList ++ [vi s0]) w1 Q))))))) := by
  rw [T_aload_2 c0_1201, T_aload_0 c0_1202, T_iload_3 c0_1203, T_sipush c0_1204, T_iadd c0_1205, T_iald c0_1206, T_aload_0 c0_1207, T_iload_3 c0_1208, T_sipush c0_1209, T_iadd c0_1210, T_iald c0_1211, T_aload_0 c0_1212, T_iload_3 c0_1213, T_sipush c0_1214, T_iadd c0_1215, T_iald c0_1216, T_aload_0 c0_1217, T_iload_3 c0_1218, T_sipush c0_1219, T_iadd c0_1220, T_iald c0_1221, T_aload_0 c0_1222, T_iload_3 c0_1223, T_sipush c0_1224, T_iadd c0_1225, T_iald c0_1226, T_invv (es := [some (vr r2), some (vi (w 999 (w32 (a3 + 1)))), some (vi (w 999 (w32 (a3 + 2)))), some (vi (w 999 (w32 (a3 + 3)))), some (vi (w 999 (w32 (a3 + 4)))), some (vi (w 999 (w32 (a3 + 5)))), none, none]) (st := [vi (w 999 (w32 (a3 + 5))), vi (w 999 (w32 (a3 + 4))), vi (w 999 (w32 (a3 + 3))), vi (w 999 (w32 (a3 + 2))), vi (w 999 (w32 (a3 + 1))), vr r2, vi s0]) (ks := [2, 0, 0, 0, 0, 0]) (n := 8) (c := 12) (k := r2) (as := [vi (w 999 (w32 (a3 + 1))), vi (w 999 (w32 (a3 + 2))), vi (w 999 (w32 (a3 + 3))), vi (w 999 (w32 (a3 + 4))), vi (w 999 (w32 (a3 + 5)))]) (rest := [vi s0]) c0_1227 (by decide +kernel) (by decide +kernel) (by decide +kernel) (by decide) rfl rfl (Nat.le_of_ble_eq_true rfl)]
  all_goals try simp only [ld_999, true_and, Nat.reduceAdd, eq_self_iff_true]
theorem g0_1230 {d : Nat} {s0 s1 : Int} {x0 x1 x2 x3 : Option aV} {w : aW} {Q : Option aV → aW → Prop} : T d 0 1230 [x0, x1, x2, x3] [vi s1, vi s0] w Q = ((s0 = s1 → T d 0 1642 [x0, x1, x2, x3] [] w Q) ∧ (¬ (s0 = s1) → Q (some (vi 0)) w)) := by
  rw [T_icmp_eq 1642 c0_1230 rfl, T_sipush c0_1233, T_iretz c0_1234 (by decide +kernel)]
  all_goals try simp only [Int.reduceToNat, true_and, Nat.reduceAdd, eq_self_iff_true, zero_eq_1, one_eq_0, true_or, or_true]
theorem g0_1249 {d : Nat} {a3 s0 : Int} {r2 : Nat} {x1 : Option aV} {w : aW} {Q : Option aV → aW → Prop} : T (d + 1) 0 1249 [some (vr 999), x1, some (vr r2), some (vi a3)] [vi s0] w Q = ((0 ≤ w32 (a3 + 1) ∧ w32 (a3 + 1) < w 999 (-1)) ∧ ((0 ≤ w32 (a3 + 2) ∧ w32 (a3 + 2) < w 999 (-1)) ∧ (lay r2 = (12, 0) ∧ T d 76 0 [some (vr r2), some (vi (w 999 (w32 (a3 + 1)))), some (vi (w 999 (w32 (a3 + 2)))), none, none] [] w (fun r w1 => T (d + 1) 0 1263 [some (vr 999), x1, some (vr r2), some (vi a3)] (r.toList ++ [vi s0]) w1 Q)))) := by
  rw [T_aload_2 c0_1249, T_aload_0 c0_1250, T_iload_3 c0_1251, T_sipush c0_1252, T_iadd c0_1253, T_iald c0_1254, T_aload_0 c0_1255, T_iload_3 c0_1256, T_sipush c0_1257, T_iadd c0_1258, T_iald c0_1259, T_invv (es := [some (vr r2), some (vi (w 999 (w32 (a3 + 1)))), some (vi (w 999 (w32 (a3 + 2)))), none, none]) (st := [vi (w 999 (w32 (a3 + 2))), vi (w 999 (w32 (a3 + 1))), vr r2, vi s0]) (ks := [2, 0, 0]) (n := 5) (c := 12) (k := r2) (as := [vi (w 999 (w32 (a3 + 1))), vi (w 999 (w32 (a3 + 2)))]) (rest := [vi s0]) c0_1260 (by decide +kernel) (by decide +kernel) (by decide +kernel) (by decide) rfl rfl (Nat.le_of_ble_eq_true rfl)]
  all_goals try simp only [ld_999, true_and, Nat.reduceAdd, eq_self_iff_true]
theorem g0_1263 {d : Nat} {s0 s1 : Int} {x0 x1 x2 x3 : Option aV} {w : aW} {Q : Option aV → aW → Prop} : T d 0 1263 [x0, x1, x2, x3] [vi s1, vi s0] w Q = ((s0 = s1 → T d 0 1642 [x0, x1, x2, x3] [] w Q) ∧ (¬ (s0 = s1) → Q (some (vi 0)) w)) := by
  rw [T_icmp_eq 1642 c0_1263 rfl, T_sipush c0_1266, T_iretz c0_1267 (by decide +kernel)]
  all_goals try simp only [Int.reduceToNat, true_and, Nat.reduceAdd, eq_self_iff_true, zero_eq_1, one_eq_0, true_or, or_true]
theorem g0_1282 {d : Nat} {a3 s0 : Int} {r2 : Nat} {x1 : Option aV} {w : aW} {Q : Option aV → aW → Prop} : T (d + 1) 0 1282 [some (vr 999), x1, some (vr r2), some (vi a3)] [vi s0] w Q = ((0 ≤ w32 (a3 + 1) ∧ w32 (a3 + 1) < w 999 (-1)) ∧ ((0 ≤ w32 (a3 + 2) ∧ w32 (a3 + 2) < w 999 (-1)) ∧ (lay r2 = (12, 0) ∧ T d 78 0 [some (vr r2), some (vi (w 999 (w32 (a3 + 1)))), some (vi (w 999 (w32 (a3 + 2)))), none] [] w (fun r w1 => T (d + 1) 0 1296 [some (vr 999), x1, some (vr r2), some (vi a3)] (r.toList ++ [vi s0]) w1 Q)))) := by
  rw [T_aload_2 c0_1282, T_aload_0 c0_1283, T_iload_3 c0_1284, T_sipush c0_1285, T_iadd c0_1286, T_iald c0_1287, T_aload_0 c0_1288, T_iload_3 c0_1289, T_sipush c0_1290, T_iadd c0_1291, T_iald c0_1292, T_invv (es := [some (vr r2), some (vi (w 999 (w32 (a3 + 1)))), some (vi (w 999 (w32 (a3 + 2)))), none]) (st := [vi (w 999 (w32 (a3 + 2))), vi (w 999 (w32 (a3 + 1))), vr r2, vi s0]) (ks := [2, 0, 0]) (n := 4) (c := 12) (k := r2) (as := [vi (w 999 (w32 (a3 + 1))), vi (w 999 (w32 (a3 + 2)))]) (rest := [vi s0]) c0_1293 (by decide +kernel) (by decide +kernel) (by decide +kernel) (by decide) rfl rfl (Nat.le_of_ble_eq_true rfl)]
  all_goals try simp only [ld_999, true_and, Nat.reduceAdd, eq_self_iff_true]
theorem g0_1296 {d : Nat} {s0 s1 : Int} {x0 x1 x2 x3 : Option aV} {w : aW} {Q : Option aV → aW → Prop} : T d 0 1296 [x0, x1, x2, x3] [vi s1, vi s0] w Q = ((s0 = s1 → T d 0 1642 [x0, x1, x2, x3] [] w Q) ∧ (¬ (s0 = s1) → Q (some (vi 0)) w)) := by
  rw [T_icmp_eq 1642 c0_1296 rfl, T_sipush c0_1299, T_iretz c0_1300 (by decide +kernel)]
  all_goals try simp only [Int.reduceToNat, true_and, Nat.reduceAdd, eq_self_iff_true, zero_eq_1, one_eq_0, true_or, or_true]
theorem g0_1320 {d : Nat} {a3 s0 : Int} {r2 : Nat} {x1 : Option aV} {w : aW} {Q : Option aV → aW → Prop} : T (d + 1) 0 1320 [some (vr 999), x1, some (vr r2), some (vi a3)] [vi s0] w Q = ((0 ≤ w32 (a3 + 1) ∧ w32 (a3 + 1) < w 999 (-1)) ∧ ((0 ≤ w32 (a3 + 2) ∧ w32 (a3 + 2) < w 999 (-1)) ∧ ((0 ≤ w32 (a3 + 3) ∧ w32 (a3 + 3) < w 999 (-1)) ∧ (lay r2 = (12, 0) ∧ T d 80 0 [some (vr r2), some (vi (w 999 (w32 (a3 + 1)))), some (vi (w 999 (w32 (a3 + 2)))), some (vi (w 999 (w32 (a3 + 3)))), none, none, none] [] w (fun r w1 => T (d + 1) 0 1339 [some (vr 999), x1, some (vr r2), some (vi a3)] (r.toList ++ [vi s0]) w1 Q))))) := by
  rw [T_aload_2 c0_1320, T_aload_0 c0_1321, T_iload_3 c0_1322, T_sipush c0_1323, T_iadd c0_1324, T_iald c0_1325, T_aload_0 c0_1326, T_iload_3 c0_1327, T_sipush c0_1328, T_iadd c0_1329, T_iald c0_1330, T_aload_0 c0_1331, T_iload_3 c0_1332, T_sipush c0_1333, T_iadd c0_1334, T_iald c0_1335, T_invv (es := [some (vr r2), some (vi (w 999 (w32 (a3 + 1)))), some (vi (w 999 (w32 (a3 + 2)))), some (vi (w 999 (w32 (a3 + 3)))), none, none, none]) (st := [vi (w 999 (w32 (a3 + 3))), vi (w 999 (w32 (a3 + 2))), vi (w 999 (w32 (a3 + 1))), vr r2, vi s0]) (ks := [2, 0, 0, 0]) (n := 7) (c := 12) (k := r2) (as := [vi (w 999 (w32 (a3 + 1))), vi (w 999 (w32 (a3 + 2))), vi (w 999 (w32 (a3 + 3)))]) (rest := [vi s0]) c0_1336 (by decide +kernel) (by decide +kernel) (by decide +kernel) (by decide) rfl rfl (Nat.le_of_ble_eq_true rfl)]
  all_goals try simp only [ld_999, true_and, Nat.reduceAdd, eq_self_iff_true]
theorem g0_1339 {d : Nat} {s0 s1 : Int} {x0 x1 x2 x3 : Option aV} {w : aW} {Q : Option aV → aW → Prop} : T d 0 1339 [x0, x1, x2, x3] [vi s1, vi s0] w Q = ((s0 = s1 → T d 0 1642 [x0, x1, x2, x3] [] w Q) ∧ (¬ (s0 = s1) → Q (some (vi 0)) w)) := by
  rw [T_icmp_eq 1642 c0_1339 rfl, T_sipush c0_1342, T_iretz c0_1343 (by decide +kernel)]
  all_goals try simp only [Int.reduceToNat, true_and, Nat.reduceAdd, eq_self_iff_true, zero_eq_1, one_eq_0, true_or, or_true]
theorem g0_1358 {d : Nat} {a3 s0 : Int} {r2 : Nat} {x1 : Option aV} {w : aW} {Q : Option aV → aW → Prop} : T (d + 1) 0 1358 [some (vr 999), x1, some (vr r2), some (vi a3)] [vi s0] w Q = ((0 ≤ w32 (a3 + 1) ∧ w32 (a3 + 1) < w 999 (-1)) ∧ ((0 ≤ w32 (a3 + 2) ∧ w32 (a3 + 2) < w 999 (-1)) ∧ (lay r2 = (12, 0) ∧ T d 82 0 [some (vr r2), some (vi (w 999 (w32 (a3 + 1)))), some (vi (w 999 (w32 (a3 + 2)))), none, none, none] [] w (fun r w1 => T (d + 1) 0 1372 [some (vr 999), x1, some (vr r2), some (vi a3)] (r.toList ++ [vi s0]) w1 Q)))) := by
  rw [T_aload_2 c0_1358, T_aload_0 c0_1359, T_iload_3 c0_1360, T_sipush c0_1361, T_iadd c0_1362, T_iald c0_1363, T_aload_0 c0_1364, T_iload_3 c0_1365, T_sipush c0_1366, T_iadd c0_1367, T_iald c0_1368, T_invv (es := [some (vr r2), some (vi (w 999 (w32 (a3 + 1)))), some (vi (w 999 (w32 (a3 + 2)))), none, none, none]) (st := [vi (w 999 (w32 (a3 + 2))), vi (w 999 (w32 (a3 + 1))), vr r2, vi s0]) (ks := [2, 0, 0]) (n := 6) (c := 12) (k := r2) (as := [vi (w 999 (w32 (a3 + 1))), vi (w 999 (w32 (a3 + 2)))]) (rest := [vi s0]) c0_1369 (by decide +kernel) (by decide +kernel) (by decide +kernel) (by decide) rfl rfl (Nat.le_of_ble_eq_true rfl)]
  all_goals try simp only [ld_999, true_and, Nat.reduceAdd, eq_self_iff_true]
theorem g0_1372 {d : Nat} {s0 s1 : Int} {x0 x1 x2 x3 : Option aV} {w : aW} {Q : Option aV → aW → Prop} : T d 0 1372 [x0, x1, x2, x3] [vi s1, vi s0] w Q = ((s0 = s1 → T d 0 1642 [x0, x1, x2, x3] [] w Q) ∧ (¬ (s0 = s1) → Q (some (vi 0)) w)) := by
  rw [T_icmp_eq 1642 c0_1372 rfl, T_sipush c0_1375, T_iretz c0_1376 (by decide +kernel)]
  all_goals try simp only [Int.reduceToNat, true_and, Nat.reduceAdd, eq_self_iff_true, zero_eq_1, one_eq_0, true_or, or_true]
theorem g0_1391 {d : Nat} {a3 s0 : Int} {r2 : Nat} {x1 : Option aV} {w : aW} {Q : Option aV → aW → Prop} : T (d + 1) 0 1391 [some (vr 999), x1, some (vr r2), some (vi a3)] [vi s0] w Q = ((0 ≤ w32 (a3 + 1) ∧ w32 (a3 + 1) < w 999 (-1)) ∧ ((0 ≤ w32 (a3 + 2) ∧ w32 (a3 + 2) < w 999 (-1)) ∧ (lay r2 = (12, 0) ∧ T d 84 0 [some (vr r2), some (vi (w 999 (w32 (a3 + 1)))), some (vi (w 999 (w32 (a3 + 2)))), none, none, none, none, none, none] [] w (fun r w1 => T (d + 1) 0 1405 [some (vr 999), x1, some (vr r2), some (vi a3)] (r.toList ++ [vi s0]) w1 Q)))) := by
  rw [T_aload_2 c0_1391, T_aload_0 c0_1392, T_iload_3 c0_1393, T_sipush c0_1394, T_iadd c0_1395, T_iald c0_1396, T_aload_0 c0_1397, T_iload_3 c0_1398, T_sipush c0_1399, T_iadd c0_1400, T_iald c0_1401, T_invv (es := [some (vr r2), some (vi (w 999 (w32 (a3 + 1)))), some (vi (w 999 (w32 (a3 + 2)))), none, none, none, none, none, none]) (st := [vi (w 999 (w32 (a3 + 2))), vi (w 999 (w32 (a3 + 1))), vr r2, vi s0]) (ks := [2, 0, 0]) (n := 9) (c := 12) (k := r2) (as := [vi (w 999 (w32 (a3 + 1))), vi (w 999 (w32 (a3 + 2)))]) (rest := [vi s0]) c0_1402 (by decide +kernel) (by decide +kernel) (by decide +kernel) (by decide) rfl rfl (Nat.le_of_ble_eq_true rfl)]
  all_goals try simp only [ld_999, true_and, Nat.reduceAdd, eq_self_iff_true]
theorem g0_1405 {d : Nat} {s0 s1 : Int} {x0 x1 x2 x3 : Option aV} {w : aW} {Q : Option aV → aW → Prop} : T d 0 1405 [x0, x1, x2, x3] [vi s1, vi s0] w Q = ((s0 = s1 → T d 0 1642 [x0, x1, x2, x3] [] w Q) ∧ (¬ (s0 = s1) → Q (some (vi 0)) w)) := by
  rw [T_icmp_eq 1642 c0_1405 rfl, T_sipush c0_1408, T_iretz c0_1409 (by decide +kernel)]
  all_goals try simp only [Int.reduceToNat, true_and, Nat.reduceAdd, eq_self_iff_true, zero_eq_1, one_eq_0, true_or, or_true]
theorem g0_1419 {d : Nat} {a3 s0 : Int} {r2 : Nat} {x1 : Option aV} {w : aW} {Q : Option aV → aW → Prop} : T (d + 1) 0 1419 [some (vr 999), x1, some (vr r2), some (vi a3)] [vi s0] w Q = ((0 ≤ w32 (a3 + 1) ∧ w32 (a3 + 1) < w 999 (-1)) ∧ (lay r2 = (12, 0) ∧ T d 86 0 [some (vr r2), some (vi (w 999 (w32 (a3 + 1)))), none, none] [] w (fun r w1 => T (d + 1) 0 1428 [some (vr 999), x1, some (vr r2), some (vi a3)] (r.toList ++ [vi s0]) w1 Q))) := by
  rw [T_aload_2 c0_1419, T_aload_0 c0_1420, T_iload_3 c0_1421, T_sipush c0_1422, T_iadd c0_1423, T_iald c0_1424, T_invv (es := [some (vr r2), some (vi (w 999 (w32 (a3 + 1)))), none, none]) (st := [vi (w 999 (w32 (a3 + 1))), vr r2, vi s0]) (ks := [2, 0]) (n := 4) (c := 12) (k := r2) (as := [vi (w 999 (w32 (a3 + 1)))]) (rest := [vi s0]) c0_1425 (by decide +kernel) (by decide +kernel) (by decide +kernel) (by decide) rfl rfl (Nat.le_of_ble_eq_true rfl)]
  all_goals try simp only [ld_999, true_and, Nat.reduceAdd, eq_self_iff_true]
theorem g0_1428 {d : Nat} {s0 s1 : Int} {x0 x1 x2 x3 : Option aV} {w : aW} {Q : Option aV → aW → Prop} : T d 0 1428 [x0, x1, x2, x3] [vi s1, vi s0] w Q = ((s0 = s1 → T d 0 1642 [x0, x1, x2, x3] [] w Q) ∧ (¬ (s0 = s1) → Q (some (vi 0)) w)) := by
  rw [T_icmp_eq 1642 c0_1428 rfl, T_sipush c0_1431, T_iretz c0_1432 (by decide +kernel)]
  all_goals try simp only [Int.reduceToNat, true_and, Nat.reduceAdd, eq_self_iff_true, zero_eq_1, one_eq_0, true_or, or_true]
theorem g0_1442 {d : Nat} {a3 s0 : Int} {r2 : Nat} {x1 : Option aV} {w : aW} {Q : Option aV → aW → Prop} : T (d + 1) 0 1442 [some (vr 999), x1, some (vr r2), some (vi a3)] [vi s0] w Q = ((0 ≤ w32 (a3 + 1) ∧ w32 (a3 + 1) < w 999 (-1)) ∧ (lay r2 = (12, 0) ∧ T d 88 0 [some (vr r2), some (vi (w 999 (w32 (a3 + 1)))), none, none, none, none] [] w (fun r w1 => T (d + 1) 0 1451 [some (vr 999), x1, some (vr r2), some (vi a3)] (r.toList ++ [vi s0]) w1 Q))) := by
  rw [T_aload_2 c0_1442, T_aload_0 c0_1443, T_iload_3 c0_1444, T_sipush c0_1445, T_iadd c0_1446, T_iald c0_1447, T_invv (es := [some (vr r2), some (vi (w 999 (w32 (a3 + 1)))), none, none, none, none]) (st := [vi (w 999 (w32 (a3 + 1))), vr r2, vi s0]) (ks := [2, 0]) (n := 6) (c := 12) (k := r2) (as := [vi (w 999 (w32 (a3 + 1)))]) (rest := [vi s0]) c0_1448 (by decide +kernel) (by decide +kernel) (by decide +kernel) (by decide) rfl rfl (Nat.le_of_ble_eq_true rfl)]
  all_goals try simp only [ld_999, true_and, Nat.reduceAdd, eq_self_iff_true]
theorem g0_1451 {d : Nat} {s0 s1 : Int} {x0 x1 x2 x3 : Option aV} {w : aW} {Q : Option aV → aW → Prop} : T d 0 1451 [x0, x1, x2, x3] [vi s1, vi s0] w Q = ((s0 = s1 → T d 0 1642 [x0, x1, x2, x3] [] w Q) ∧ (¬ (s0 = s1) → Q (some (vi 0)) w)) := by
  rw [T_icmp_eq 1642 c0_1451 rfl, T_sipush c0_1454, T_iretz c0_1455 (by decide +kernel)]
  all_goals try simp only [Int.reduceToNat, true_and, Nat.reduceAdd, eq_self_iff_true, zero_eq_1, one_eq_0, true_or, or_true]
theorem g0_1475 {d : Nat} {a3 s0 : Int} {r2 : Nat} {x1 : Option aV} {w : aW} {Q : Option aV → aW → Prop} : T (d + 1) 0 1475 [some (vr 999), x1, some (vr r2), some (vi a3)] [vi s0] w Q = ((0 ≤ w32 (a3 + 1) ∧ w32 (a3 + 1) < w 999 (-1)) ∧ ((0 ≤ w32 (a3 + 2) ∧ w32 (a3 + 2) < w 999 (-1)) ∧ ((0 ≤ w32 (a3 + 3) ∧ w32 (a3 + 3) < w 999 (-1)) ∧ (lay r2 = (12, 0) ∧ T d 90 0 [some (vr r2), some (vi (w 999 (w32 (a3 + 1)))), some (vi (w 999 (w32 (a3 + 2)))), some (vi (w 999 (w32 (a3 + 3)))), none] [] w (fun r w1 => T (d + 1) 0 1494 [some (vr 999), x1, some (vr r2), some (vi a3)] (r.toList ++ [vi s0]) w1 Q))))) := by
  rw [T_aload_2 c0_1475, T_aload_0 c0_1476, T_iload_3 c0_1477, T_sipush c0_1478, T_iadd c0_1479, T_iald c0_1480, T_aload_0 c0_1481, T_iload_3 c0_1482, T_sipush c0_1483, T_iadd c0_1484, T_iald c0_1485, T_aload_0 c0_1486, T_iload_3 c0_1487, T_sipush c0_1488, T_iadd c0_1489, T_iald c0_1490, T_invv (es := [some (vr r2), some (vi (w 999 (w32 (a3 + 1)))), some (vi (w 999 (w32 (a3 + 2)))), some (vi (w 999 (w32 (a3 + 3)))), none]) (st := [vi (w 999 (w32 (a3 + 3))), vi (w 999 (w32 (a3 + 2))), vi (w 999 (w32 (a3 + 1))), vr r2, vi s0]) (ks := [2, 0, 0, 0]) (n := 5) (c := 12) (k := r2) (as := [vi (w 999 (w32 (a3 + 1))), vi (w 999 (w32 (a3 + 2))), vi (w 999 (w32 (a3 + 3)))]) (rest := [vi s0]) c0_1491 (by decide +kernel) (by decide +kernel) (by decide +kernel) (by decide) rfl rfl (Nat.le_of_ble_eq_true rfl)]
  all_goals try simp only [ld_999, true_and, Nat.reduceAdd, eq_self_iff_true]
theorem g0_1494 {d : Nat} {s0 s1 : Int} {x0 x1 x2 x3 : Option aV} {w : aW} {Q : Option aV → aW → Prop} : T d 0 1494 [x0, x1, x2, x3] [vi s1, vi s0] w Q = ((s0 = s1 → T d 0 1642 [x0, x1, x2, x3] [] w Q) ∧ (¬ (s0 = s1) → Q (some (vi 0)) w)) := by
  rw [T_icmp_eq 1642 c0_1494 rfl, T_sipush c0_1497, T_iretz c0_1498 (by decide +kernel)]
  all_goals try simp only [Int.reduceToNat, true_and, Nat.reduceAdd, eq_self_iff_true, zero_eq_1, one_eq_0, true_or, or_true]
theorem g0_1533 {d : Nat} {a3 s0 : Int} {r2 : Nat} {x1 : Option aV} {w : aW} {Q : Option aV → aW → Prop} : T (d + 1) 0 1533 [some (vr 999), x1, some (vr r2), some (vi a3)] [vl s0] w Q = ((0 ≤ w32 (a3 + 1) ∧ w32 (a3 + 1) < w 999 (-1)) ∧ ((0 ≤ w32 (a3 + 2) ∧ w32 (a3 + 2) < w 999 (-1)) ∧ ((0 ≤ w32 (a3 + 3) ∧ w32 (a3 + 3) < w 999 (-1)) ∧ ((0 ≤ w32 (a3 + 4) ∧ w32 (a3 + 4) < w 999 (-1)) ∧ (lay r2 = (12, 0) ∧ T d 92 0 [some (vr r2), some (vi (w 999 (w32 (a3 + 1)))), some (vi (w 999 (w32 (a3 + 2)))), some (vl (kor (kshl (w 999 (w32 (a3 + 3))) 32) (kand (w 999 (w32 (a3 + 4))) 4294967295))), none] [] w (fun r w1 => T (d + 1) 0 1567 [some (vr 999), x1, some (vr r2), some (vi a3)] (r.toList ++ [vl s0]) w1 Q)))))) := by
  rw [T_aload_2 c0_1533, T_aload_0 c0_1534, T_iload_3 c0_1535, T_sipush c0_1536, T_iadd c0_1537, T_iald c0_1538, T_aload_0 c0_1539, T_iload_3 c0_1540, T_sipush c0_1541, T_iadd c0_1542, T_iald c0_1543, T_aload_0 c0_1544, T_iload_3 c0_1545, T_sipush c0_1546, T_iadd c0_1547, T_iald c0_1548, T_i2l c0_1549, T_sipush c0_1550, T_lshl c0_1552, T_aload_0 c0_1553, T_iload_3 c0_1554, T_sipush c0_1555, T_iadd c0_1556, T_iald c0_1557, T_i2l c0_1558, T_bipush c0_1559, T_land c0_1562, T_lor c0_1563, T_invv (es := [some (vr r2), some (vi (w 999 (w32 (a3 + 1)))), some (vi (w 999 (w32 (a3 + 2)))), some (vl (kor (kshl (w 999 (w32 (a3 + 3))) 32) (kand (w 999 (w32 (a3 + 4))) 4294967295))), none]) (st := [vl (kor (kshl (w 999 (w32 (a3 + 3))) 32) (kand (w 999 (w32 (a3 + 4))) 4294967295)), vi (w 999 (w32 (a3 + 2))), vi (w 999 (w32 (a3 + 1))), vr r2, vl s0]) (ks := [2, 0, 0, 1]) (n := 5) (c := 12) (k := r2) (as := [vi (w 999 (w32 (a3 + 1))), vi (w 999 (w32 (a3 + 2))), vl (kor (kshl (w 999 (w32 (a3 + 3))) 32) (kand (w 999 (w32 (a3 + 4))) 4294967295))]) (rest := [vl s0]) c0_1564 (by decide +kernel) (by decide +kernel) (by decide +kernel) (by decide) rfl rfl (Nat.le_of_ble_eq_true rfl)]
  all_goals try simp only [ld_999, true_and, Nat.reduceAdd, eq_self_iff_true]
theorem g0_1567 {d : Nat} {s0 s1 : Int} {x0 x1 x2 x3 : Option aV} {w : aW} {Q : Option aV → aW → Prop} : T d 0 1567 [x0, x1, x2, x3] [vl s1, vl s0] w Q = ((kcmp s0 s1 = 0 → T d 0 1642 [x0, x1, x2, x3] [] w Q) ∧ (¬ (kcmp s0 s1 = 0) → Q (some (vi 0)) w)) := by
  rw [T_lcmp c0_1567, T_if_eq 1642 c0_1568 rfl, T_sipush c0_1571, T_iretz c0_1572 (by decide +kernel)]
  all_goals try simp only [Int.reduceToNat, true_and, Nat.reduceAdd, eq_self_iff_true, zero_eq_1, one_eq_0, true_or, or_true]
theorem g0_1582 {d : Nat} {a3 s0 : Int} {r2 : Nat} {x1 : Option aV} {w : aW} {Q : Option aV → aW → Prop} : T (d + 1) 0 1582 [some (vr 999), x1, some (vr r2), some (vi a3)] [vi s0] w Q = ((0 ≤ w32 (a3 + 1) ∧ w32 (a3 + 1) < w 999 (-1)) ∧ (lay r2 = (12, 0) ∧ T d 94 0 [some (vr r2), some (vi (w 999 (w32 (a3 + 1)))), none] [] w (fun r w1 => T (d + 1) 0 1591 [some (vr 999), x1, some (vr r2), some (vi a3)] (r.toList ++ [vi s0]) w1 Q))) := by
  rw [T_aload_2 c0_1582, T_aload_0 c0_1583, T_iload_3 c0_1584, T_sipush c0_1585, T_iadd c0_1586, T_iald c0_1587, T_invv (es := [some (vr r2), some (vi (w 999 (w32 (a3 + 1)))), none]) (st := [vi (w 999 (w32 (a3 + 1))), vr r2, vi s0]) (ks := [2, 0]) (n := 3) (c := 12) (k := r2) (as := [vi (w 999 (w32 (a3 + 1)))]) (rest := [vi s0]) c0_1588 (by decide +kernel) (by decide +kernel) (by decide +kernel) (by decide) rfl rfl (Nat.le_of_ble_eq_true rfl)]
  all_goals try simp only [ld_999, true_and, Nat.reduceAdd, eq_self_iff_true]
theorem g0_1591 {d : Nat} {s0 s1 : Int} {x0 x1 x2 x3 : Option aV} {w : aW} {Q : Option aV → aW → Prop} : T d 0 1591 [x0, x1, x2, x3] [vi s1, vi s0] w Q = ((s0 = s1 → T d 0 1642 [x0, x1, x2, x3] [] w Q) ∧ (¬ (s0 = s1) → Q (some (vi 0)) w)) := by
  rw [T_icmp_eq 1642 c0_1591 rfl, T_sipush c0_1594, T_iretz c0_1595 (by decide +kernel)]
  all_goals try simp only [Int.reduceToNat, true_and, Nat.reduceAdd, eq_self_iff_true, zero_eq_1, one_eq_0, true_or, or_true]
theorem g0_1605 {d : Nat} {a3 s0 : Int} {r2 : Nat} {x1 : Option aV} {w : aW} {Q : Option aV → aW → Prop} : T (d + 1) 0 1605 [some (vr 999), x1, some (vr r2), some (vi a3)] [vi s0] w Q = ((0 ≤ w32 (a3 + 1) ∧ w32 (a3 + 1) < w 999 (-1)) ∧ (lay r2 = (12, 0) ∧ T d 96 0 [some (vr r2), some (vi (w 999 (w32 (a3 + 1)))), none] [] w (fun r w1 => T (d + 1) 0 1614 [some (vr 999), x1, some (vr r2), some (vi a3)] (r.toList ++ [vi s0]) w1 Q))) := by
  rw [T_aload_2 c0_1605, T_aload_0 c0_1606, T_iload_3 c0_1607, T_sipush c0_1608, T_iadd c0_1609, T_iald c0_1610, T_invv (es := [some (vr r2), some (vi (w 999 (w32 (a3 + 1)))), none]) (st := [vi (w 999 (w32 (a3 + 1))), vr r2, vi s0]) (ks := [2, 0]) (n := 3) (c := 12) (k := r2) (as := [vi (w 999 (w32 (a3 + 1)))]) (rest := [vi s0]) c0_1611 (by decide +kernel) (by decide +kernel) (by decide +kernel) (by decide) rfl rfl (Nat.le_of_ble_eq_true rfl)]
  all_goals try simp only [ld_999, true_and, Nat.reduceAdd, eq_self_iff_true]
theorem g0_1614 {d : Nat} {s0 s1 : Int} {x0 x1 x2 x3 : Option aV} {w : aW} {Q : Option aV → aW → Prop} : T d 0 1614 [x0, x1, x2, x3] [vi s1, vi s0] w Q = ((s0 = s1 → T d 0 1642 [x0, x1, x2, x3] [] w Q) ∧ (¬ (s0 = s1) → Q (some (vi 0)) w)) := by
  rw [T_icmp_eq 1642 c0_1614 rfl, T_sipush c0_1617, T_iretz c0_1618 (by decide +kernel)]
  all_goals try simp only [Int.reduceToNat, true_and, Nat.reduceAdd, eq_self_iff_true, zero_eq_1, one_eq_0, true_or, or_true]
theorem g0_1628 {d : Nat} {a3 s0 : Int} {r2 : Nat} {x1 : Option aV} {w : aW} {Q : Option aV → aW → Prop} : T (d + 1) 0 1628 [some (vr 999), x1, some (vr r2), some (vi a3)] [vi s0] w Q = ((0 ≤ w32 (a3 + 1) ∧ w32 (a3 + 1) < w 999 (-1)) ∧ (lay r2 = (12, 0) ∧ T d 98 0 [some (vr r2), some (vi (w 999 (w32 (a3 + 1))))] [] w (fun r w1 => T (d + 1) 0 1637 [some (vr 999), x1, some (vr r2), some (vi a3)] (r.toList ++ [vi s0]) w1 Q))) := by
  rw [T_aload_2 c0_1628, T_aload_0 c0_1629, T_iload_3 c0_1630, T_sipush c0_1631, T_iadd c0_1632, T_iald c0_1633, T_invv (es := [some (vr r2), some (vi (w 999 (w32 (a3 + 1))))]) (st := [vi (w 999 (w32 (a3 + 1))), vr r2, vi s0]) (ks := [2, 0]) (n := 2) (c := 12) (k := r2) (as := [vi (w 999 (w32 (a3 + 1)))]) (rest := [vi s0]) c0_1634 (by decide +kernel) (by decide +kernel) (by decide +kernel) (by decide) rfl rfl (Nat.le_of_ble_eq_true rfl)]
  all_goals try simp only [ld_999, true_and, Nat.reduceAdd, eq_self_iff_true]
theorem g0_1637 {d : Nat} {s0 s1 : Int} {x0 x1 x2 x3 : Option aV} {w : aW} {Q : Option aV → aW → Prop} : T d 0 1637 [x0, x1, x2, x3] [vi s1, vi s0] w Q = ((s0 = s1 → T d 0 1642 [x0, x1, x2, x3] [] w Q) ∧ (¬ (s0 = s1) → Q (some (vi 0)) w)) := by
  rw [T_icmp_eq 1642 c0_1637 rfl, T_sipush c0_1640, T_iretz c0_1641 (by decide +kernel)]
  all_goals try simp only [Int.reduceToNat, true_and, Nat.reduceAdd, eq_self_iff_true, zero_eq_1, one_eq_0, true_or, or_true]
theorem g0_1642 {d : Nat} {a3 : Int} {x0 x1 x2 : Option aV} {w : aW} {Q : Option aV → aW → Prop} : T d 0 1642 [x0, x1, x2, some (vi a3)] [] w Q = T d 0 18 [x0, x1, x2, some (vi (w32 (a3 + 6)))] [] w Q := by
  rw [T_iinc_3 c0_1642, T_goto 18 c0_1645 rfl]
  all_goals try simp only [true_and, Nat.reduceAdd, eq_self_iff_true]
/-! 1: StringHands.feed.(IIIII)I -/
theorem c1_0 : cd 1 0 = some (.aload 0, 1) := by decide +kernel
theorem c1_1 : cd 1 1 = some (.getfield 2818, 3) := by decide +kernel
theorem c1_4 : cd 1 4 = some (.getfield 1028, 3) := by decide +kernel
theorem c1_7 : cd 1 7 = some (.sipush 20, 2) := by decide +kernel
theorem c1_9 : cd 1 9 = some (.iadd, 1) := by decide +kernel
theorem c1_10 : cd 1 10 = some (.sipush 900, 3) := by decide +kernel
theorem c1_13 : cd 1 13 = some (.if_icmp .le 19, 3) := by decide +kernel
theorem c1_16 : cd 1 16 = some (.sipush (-5), 2) := by decide +kernel
theorem c1_18 : cd 1 18 = some (.ireturn, 1) := by decide +kernel
theorem c1_19 : cd 1 19 = some (.aload 0, 1) := by decide +kernel
theorem c1_20 : cd 1 20 = some (.getfield 2818, 3) := by decide +kernel
theorem c1_23 : cd 1 23 = some (.iload 1, 1) := by decide +kernel
theorem c1_24 : cd 1 24 = some (.invokevirtual 99, 3) := by decide +kernel
theorem c1_27 : cd 1 27 = some (.aload 0, 1) := by decide +kernel
theorem c1_28 : cd 1 28 = some (.getfield 2818, 3) := by decide +kernel
theorem c1_31 : cd 1 31 = some (.iload 2, 1) := by decide +kernel
theorem c1_32 : cd 1 32 = some (.invokevirtual 99, 3) := by decide +kernel
theorem c1_35 : cd 1 35 = some (.aload 0, 1) := by decide +kernel
theorem c1_36 : cd 1 36 = some (.getfield 2818, 3) := by decide +kernel
theorem c1_39 : cd 1 39 = some (.iload 3, 1) := by decide +kernel
theorem c1_40 : cd 1 40 = some (.invokevirtual 99, 3) := by decide +kernel
theorem c1_43 : cd 1 43 = some (.aload 0, 1) := by decide +kernel
theorem c1_44 : cd 1 44 = some (.getfield 2818, 3) := by decide +kernel
theorem c1_47 : cd 1 47 = some (.iload 4, 2) := by decide +kernel
theorem c1_49 : cd 1 49 = some (.invokevirtual 99, 3) := by decide +kernel
theorem c1_52 : cd 1 52 = some (.aload 0, 1) := by decide +kernel
theorem c1_53 : cd 1 53 = some (.getfield 2818, 3) := by decide +kernel
theorem c1_56 : cd 1 56 = some (.iload 5, 2) := by decide +kernel
theorem c1_58 : cd 1 58 = some (.invokevirtual 99, 3) := by decide +kernel
theorem c1_61 : cd 1 61 = some (.aload 0, 1) := by decide +kernel
theorem c1_62 : cd 1 62 = some (.getfield 2818, 3) := by decide +kernel
theorem c1_65 : cd 1 65 = some (.getfield 1028, 3) := by decide +kernel
theorem c1_68 : cd 1 68 = some (.ireturn, 1) := by decide +kernel
theorem g1_0 {d : Nat} {a1 : Int} {x2 x3 x4 x5 : Option aV} {w : aW} {Q : Option aV → aW → Prop} : T (d + 1) 1 0 [some (vr 0), some (vi a1), x2, x3, x4, x5] [] w Q = ((w32 ((w 1 1) + 20) ≤ 900 → T d 99 0 [some (vr 1), some (vi a1), none] [] w (fun r w1 => T (d + 1) 1 27 [some (vr 0), some (vi a1), x2, x3, x4, x5] (r.toList ++ []) w1 Q)) ∧ (¬ (w32 ((w 1 1) + 20) ≤ 900) → Q (some (vi (-5))) w)) := by
  rw [T_aload_0 c1_0, T_getR 11 0 0 c1_1 rfl rfl rfl rfl, rf_0_0, T_getI 4 1 1 c1_4 rfl rfl rfl rfl, T_sipush c1_7, T_iadd c1_9, T_sipush c1_10, T_icmp_le 19 c1_13 rfl, T_aload_0 c1_19, T_getR 11 0 0 c1_20 rfl rfl rfl rfl, rf_0_0, T_iload_1 c1_23, T_invv (es := [some (vr 1), some (vi a1), none]) (st := [vi a1, vr 1]) (ks := [2, 0]) (n := 3) (c := 4) (k := 1) (as := [vi a1]) (rest := []) c1_24 (by decide +kernel) (by decide +kernel) (by decide +kernel) (by decide) rfl rfl (Nat.le_of_ble_eq_true rfl), T_sipush c1_16, T_ireti c1_18 (by decide +kernel)]
  all_goals try simp only [Int.reduceToNat, lay_0, lay_1, true_and, Nat.reduceAdd, eq_self_iff_true]
theorem g1_27 {d : Nat} {a2 : Int} {x1 x3 x4 x5 : Option aV} {w : aW} {Q : Option aV → aW → Prop} : T (d + 1) 1 27 [some (vr 0), x1, some (vi a2), x3, x4, x5] [] w Q = T d 99 0 [some (vr 1), some (vi a2), none] [] w (fun r w1 => T (d + 1) 1 35 [some (vr 0), x1, some (vi a2), x3, x4, x5] (r.toList ++ []) w1 Q) := by
  rw [T_aload_0 c1_27, T_getR 11 0 0 c1_28 rfl rfl rfl rfl, rf_0_0, T_iload_2 c1_31, T_invv (es := [some (vr 1), some (vi a2), none]) (st := [vi a2, vr 1]) (ks := [2, 0]) (n := 3) (c := 4) (k := 1) (as := [vi a2]) (rest := []) c1_32 (by decide +kernel) (by decide +kernel) (by decide +kernel) (by decide) rfl rfl (Nat.le_of_ble_eq_true rfl)]
  all_goals try simp only [lay_0, lay_1, true_and, Nat.reduceAdd, eq_self_iff_true]
theorem g1_35 {d : Nat} {a3 : Int} {x1 x2 x4 x5 : Option aV} {w : aW} {Q : Option aV → aW → Prop} : T (d + 1) 1 35 [some (vr 0), x1, x2, some (vi a3), x4, x5] [] w Q = T d 99 0 [some (vr 1), some (vi a3), none] [] w (fun r w1 => T (d + 1) 1 43 [some (vr 0), x1, x2, some (vi a3), x4, x5] (r.toList ++ []) w1 Q) := by
  rw [T_aload_0 c1_35, T_getR 11 0 0 c1_36 rfl rfl rfl rfl, rf_0_0, T_iload_3 c1_39, T_invv (es := [some (vr 1), some (vi a3), none]) (st := [vi a3, vr 1]) (ks := [2, 0]) (n := 3) (c := 4) (k := 1) (as := [vi a3]) (rest := []) c1_40 (by decide +kernel) (by decide +kernel) (by decide +kernel) (by decide) rfl rfl (Nat.le_of_ble_eq_true rfl)]
  all_goals try simp only [lay_0, lay_1, true_and, Nat.reduceAdd, eq_self_iff_true]
theorem g1_43 {d : Nat} {a4 : Int} {x1 x2 x3 x5 : Option aV} {w : aW} {Q : Option aV → aW → Prop} : T (d + 1) 1 43 [some (vr 0), x1, x2, x3, some (vi a4), x5] [] w Q = T d 99 0 [some (vr 1), some (vi a4), none] [] w (fun r w1 => T (d + 1) 1 52 [some (vr 0), x1, x2, x3, some (vi a4), x5] (r.toList ++ []) w1 Q) := by
  rw [T_aload_0 c1_43, T_getR 11 0 0 c1_44 rfl rfl rfl rfl, rf_0_0, T_iload_4 c1_47, T_invv (es := [some (vr 1), some (vi a4), none]) (st := [vi a4, vr 1]) (ks := [2, 0]) (n := 3) (c := 4) (k := 1) (as := [vi a4]) (rest := []) c1_49 (by decide +kernel) (by decide +kernel) (by decide +kernel) (by decide) rfl rfl (Nat.le_of_ble_eq_true rfl)]
  all_goals try simp only [lay_0, lay_1, true_and, Nat.reduceAdd, eq_self_iff_true]
theorem g1_52 {d : Nat} {a5 : Int} {x1 x2 x3 x4 : Option aV} {w : aW} {Q : Option aV → aW → Prop} : T (d + 1) 1 52 [some (vr 0), x1, x2, x3, x4, some (vi a5)] [] w Q = T d 99 0 [some (vr 1), some (vi a5), none] [] w (fun r w1 => T (d + 1) 1 61 [some (vr 0), x1, x2, x3, x4, some (vi a5)] (r.toList ++ []) w1 Q) := by
  rw [T_aload_0 c1_52, T_getR 11 0 0 c1_53 rfl rfl rfl rfl, rf_0_0, T_iload_5 c1_56, T_invv (es := [some (vr 1), some (vi a5), none]) (st := [vi a5, vr 1]) (ks := [2, 0]) (n := 3) (c := 4) (k := 1) (as := [vi a5]) (rest := []) c1_58 (by decide +kernel) (by decide +kernel) (by decide +kernel) (by decide) rfl rfl (Nat.le_of_ble_eq_true rfl)]
  all_goals try simp only [lay_0, lay_1, true_and, Nat.reduceAdd, eq_self_iff_true]
theorem g1_61 {d : Nat} {x1 x2 x3 x4 x5 : Option aV} {w : aW} {Q : Option aV → aW → Prop} : T d 1 61 [some (vr 0), x1, x2, x3, x4, x5] [] w Q = Q (some (vi (w 1 1))) w := by
  rw [T_aload_0 c1_61, T_getR 11 0 0 c1_62 rfl rfl rfl rfl, rf_0_0, T_getI 4 1 1 c1_65 rfl rfl rfl rfl, T_ireti c1_68 (by decide +kernel)]
  all_goals try simp only [lay_0, lay_1, true_and, Nat.reduceAdd, eq_self_iff_true]
/-! 2: StringHandsModel.feed.(IIIII)I -/
theorem c2_0 : cd 2 0 = some (.aload 0, 1) := by decide +kernel
theorem c2_1 : cd 2 1 = some (.sipush 0, 1) := by decide +kernel
theorem c2_2 : cd 2 2 = some (.putfield 3072, 3) := by decide +kernel
theorem c2_5 : cd 2 5 = some (.aload 0, 1) := by decide +kernel
theorem c2_6 : cd 2 6 = some (.getfield 3092, 3) := by decide +kernel
theorem c2_9 : cd 2 9 = some (.sipush 20, 2) := by decide +kernel
theorem c2_11 : cd 2 11 = some (.iadd, 1) := by decide +kernel
theorem c2_12 : cd 2 12 = some (.sipush 900, 3) := by decide +kernel
theorem c2_15 : cd 2 15 = some (.if_icmp .le 21, 3) := by decide +kernel
theorem c2_18 : cd 2 18 = some (.sipush (-5), 2) := by decide +kernel
theorem c2_20 : cd 2 20 = some (.ireturn, 1) := by decide +kernel
theorem c2_21 : cd 2 21 = some (.sipush 0, 1) := by decide +kernel
theorem c2_22 : cd 2 22 = some (.istore 6, 2) := by decide +kernel
theorem c2_24 : cd 2 24 = some (.iload 6, 2) := by decide +kernel
theorem c2_26 : cd 2 26 = some (.sipush 20, 2) := by decide +kernel
theorem c2_28 : cd 2 28 = some (.if_icmp .ge 121, 3) := by decide +kernel
theorem c2_31 : cd 2 31 = some (.iload 6, 2) := by decide +kernel
theorem c2_33 : cd 2 33 = some (.sipush 4, 1) := by decide +kernel
theorem c2_34 : cd 2 34 = some (.if_icmp .ge 41, 3) := by decide +kernel
theorem c2_37 : cd 2 37 = some (.iload 1, 1) := by decide +kernel
theorem c2_38 : cd 2 38 = some (.goto 77, 3) := by decide +kernel
theorem c2_41 : cd 2 41 = some (.iload 6, 2) := by decide +kernel
theorem c2_43 : cd 2 43 = some (.sipush 8, 2) := by decide +kernel
theorem c2_45 : cd 2 45 = some (.if_icmp .ge 52, 3) := by decide +kernel
theorem c2_48 : cd 2 48 = some (.iload 2, 1) := by decide +kernel
theorem c2_49 : cd 2 49 = some (.goto 77, 3) := by decide +kernel
theorem c2_52 : cd 2 52 = some (.iload 6, 2) := by decide +kernel
theorem c2_54 : cd 2 54 = some (.sipush 12, 2) := by decide +kernel
theorem c2_56 : cd 2 56 = some (.if_icmp .ge 63, 3) := by decide +kernel
theorem c2_59 : cd 2 59 = some (.iload 3, 1) := by decide +kernel
theorem c2_60 : cd 2 60 = some (.goto 77, 3) := by decide +kernel
theorem c2_63 : cd 2 63 = some (.iload 6, 2) := by decide +kernel
theorem c2_65 : cd 2 65 = some (.sipush 16, 2) := by decide +kernel
theorem c2_67 : cd 2 67 = some (.if_icmp .ge 75, 3) := by decide +kernel
theorem c2_70 : cd 2 70 = some (.iload 4, 2) := by decide +kernel
theorem c2_72 : cd 2 72 = some (.goto 77, 3) := by decide +kernel
theorem c2_75 : cd 2 75 = some (.iload 5, 2) := by decide +kernel
theorem c2_77 : cd 2 77 = some (.istore 7, 2) := by decide +kernel
theorem c2_79 : cd 2 79 = some (.aload 0, 1) := by decide +kernel
theorem c2_80 : cd 2 80 = some (.getfield 3086, 3) := by decide +kernel
theorem c2_83 : cd 2 83 = some (.aload 0, 1) := by decide +kernel
theorem c2_84 : cd 2 84 = some (.getfield 3092, 3) := by decide +kernel
theorem c2_87 : cd 2 87 = some (.iload 7, 2) := by decide +kernel
theorem c2_89 : cd 2 89 = some (.sipush 24, 2) := by decide +kernel
theorem c2_91 : cd 2 91 = some (.sipush 8, 2) := by decide +kernel
theorem c2_93 : cd 2 93 = some (.iload 6, 2) := by decide +kernel
theorem c2_95 : cd 2 95 = some (.sipush 4, 1) := by decide +kernel
theorem c2_96 : cd 2 96 = some (.irem, 1) := by decide +kernel
theorem c2_97 : cd 2 97 = some (.imul, 1) := by decide +kernel
theorem c2_98 : cd 2 98 = some (.isub, 1) := by decide +kernel
theorem c2_99 : cd 2 99 = some (.ishr, 1) := by decide +kernel
theorem c2_100 : cd 2 100 = some (.sipush 255, 3) := by decide +kernel
theorem c2_103 : cd 2 103 = some (.iand, 1) := by decide +kernel
theorem c2_104 : cd 2 104 = some (.iastore, 1) := by decide +kernel
theorem c2_105 : cd 2 105 = some (.aload 0, 1) := by decide +kernel
theorem c2_106 : cd 2 106 = some (.dup, 1) := by decide +kernel
theorem c2_107 : cd 2 107 = some (.getfield 3092, 3) := by decide +kernel
theorem c2_110 : cd 2 110 = some (.sipush 1, 1) := by decide +kernel
theorem c2_111 : cd 2 111 = some (.iadd, 1) := by decide +kernel
theorem c2_112 : cd 2 112 = some (.putfield 3092, 3) := by decide +kernel
theorem c2_115 : cd 2 115 = some (.iinc 6 1, 3) := by decide +kernel
theorem c2_118 : cd 2 118 = some (.goto 24, 3) := by decide +kernel
theorem c2_121 : cd 2 121 = some (.aload 0, 1) := by decide +kernel
theorem c2_122 : cd 2 122 = some (.getfield 3092, 3) := by decide +kernel
theorem c2_125 : cd 2 125 = some (.ireturn, 1) := by decide +kernel
theorem g2_0 {d : Nat} {x1 x2 x3 x4 x5 x6 x7 : Option aV} {w : aW} {Q : Option aV → aW → Prop} : T d 2 0 [some (vr 167), x1, x2, x3, x4, x5, x6, x7] [] w Q = ((w32 (((iup w 167 0 0) 167 5) + 20) ≤ 900 → T d 2 24 [some (vr 167), x1, x2, x3, x4, x5, some (vi 0), x7] [] (iup w 167 0 0) Q) ∧ (¬ (w32 (((iup w 167 0 0) 167 5) + 20) ≤ 900) → Q (some (vi (-5))) (iup w 167 0 0))) := by
  rw [T_aload_0 c2_0, T_sipush c2_1, T_putI 12 0 0 c2_2 rfl rfl rfl rfl, T_aload_0 c2_5, T_getI 12 5 5 c2_6 rfl rfl rfl rfl, T_sipush c2_9, T_iadd c2_11, T_sipush c2_12, T_icmp_le 21 c2_15 rfl, T_sipush c2_21, T_istore_6 c2_22, T_sipush c2_18, T_ireti c2_20 (by decide +kernel)]
  all_goals try simp only [Int.reduceToNat, lay_167, true_and, Nat.reduceAdd, eq_self_iff_true]
theorem g2_24 {d : Nat} {a1 a2 a3 a4 a5 a6 : Int} {x7 : Option aV} {w : aW} {Q : Option aV → aW → Prop} : T d 2 24 [some (vr 167), some (vi a1), some (vi a2), some (vi a3), some (vi a4), some (vi a5), some (vi a6), x7] [] w Q = ((20 ≤ a6 → Q (some (vi (w 167 5))) w) ∧ (¬ (20 ≤ a6) → ((4 ≤ a6 → ((8 ≤ a6 → ((12 ≤ a6 → ((16 ≤ a6 → T d 2 77 [some (vr 167), some (vi a1), some (vi a2), some (vi a3), some (vi a4), some (vi a5), some (vi a6), x7] [vi a5] w Q) ∧ (¬ (16 ≤ a6) → T d 2 77 [some (vr 167), some (vi a1), some (vi a2), some (vi a3), some (vi a4), some (vi a5), some (vi a6), x7] [vi a4] w Q))) ∧ (¬ (12 ≤ a6) → T d 2 77 [some (vr 167), some (vi a1), some (vi a2), some (vi a3), some (vi a4), some (vi a5), some (vi a6), x7] [vi a3] w Q))) ∧ (¬ (8 ≤ a6) → T d 2 77 [some (vr 167), some (vi a1), some (vi a2), some (vi a3), some (vi a4), some (vi a5), some (vi a6), x7] [vi a2] w Q))) ∧ (¬ (4 ≤ a6) → T d 2 77 [some (vr 167), some (vi a1), some (vi a2), some (vi a3), some (vi a4), some (vi a5), some (vi a6), x7] [vi a1] w Q)))) := by
  rw [T_iload_6 c2_24, T_sipush c2_26, T_icmp_ge 121 c2_28 rfl, T_aload_0 c2_121, T_getI 12 5 5 c2_122 rfl rfl rfl rfl, T_ireti c2_125 (by decide +kernel), T_iload_6 c2_31, T_sipush c2_33, T_icmp_ge 41 c2_34 rfl, T_iload_6 c2_41, T_sipush c2_43, T_icmp_ge 52 c2_45 rfl, T_iload_6 c2_52, T_sipush c2_54, T_icmp_ge 63 c2_56 rfl, T_iload_6 c2_63, T_sipush c2_65, T_icmp_ge 75 c2_67 rfl, T_iload_5 c2_75, T_iload_4 c2_70, T_goto 77 c2_72 rfl, T_iload_3 c2_59, T_goto 77 c2_60 rfl, T_iload_2 c2_48, T_goto 77 c2_49 rfl, T_iload_1 c2_37, T_goto 77 c2_38 rfl]
  all_goals try simp only [Int.reduceToNat, lay_167, true_and, Nat.reduceAdd, eq_self_iff_true]
theorem g2_77 {d : Nat} {a6 s0 : Int} {x1 x2 x3 x4 x5 x7 : Option aV} {w : aW} {Q : Option aV → aW → Prop} : T d 2 77 [some (vr 167), x1, x2, x3, x4, x5, some (vi a6), x7] [vi s0] w Q = ((0 ≤ w 167 5 ∧ w 167 5 < 900) ∧ T d 2 24 [some (vr 167), x1, x2, x3, x4, x5, some (vi (w32 (a6 + 1))), some (vi s0)] [] (iup (iup w 170 (w 167 5) (jand (jshr s0 (w32 (24 - (w32 (8 * (jrem a6 4)))))) 255)) 167 5 (w32 (((iup w 170 (w 167 5) (jand (jshr s0 (w32 (24 - (w32 (8 * (jrem a6 4)))))) 255)) 167 5) + 1))) Q) := by
  rw [T_istore_7 c2_77, T_aload_0 c2_79, T_getR 12 3 3 c2_80 rfl rfl rfl rfl, rf_167_3, T_aload_0 c2_83, T_getI 12 5 5 c2_84 rfl rfl rfl rfl, T_iload_7 c2_87, T_sipush c2_89, T_sipush c2_91, T_iload_6 c2_93, T_sipush c2_95, T_irem c2_96, T_imul c2_97, T_isub c2_98, T_ishr c2_99, T_sipush c2_100, T_iand c2_103, T_iast c2_104, T_aload_0 c2_105, T_dup_r c2_106, T_getI 12 5 5 c2_107 rfl rfl rfl rfl, T_sipush c2_110, T_iadd c2_111, T_putI 12 5 5 c2_112 rfl rfl rfl rfl, T_iinc_6 c2_115, T_goto 24 c2_118 rfl]
  all_goals try simp only [Int.reduceEq, ia0_170, lay_167, ne_eq, not_false_eq_true, true_and, Nat.reduceAdd, eq_self_iff_true]
/-! 3: StringHands.troupe.(I)I -/
theorem c3_0 : cd 3 0 = some (.iload 1, 1) := by decide +kernel
theorem c3_1 : cd 3 1 = some (.ifCond .lt 15, 3) := by decide +kernel
theorem c3_4 : cd 3 4 = some (.iload 1, 1) := by decide +kernel
theorem c3_5 : cd 3 5 = some (.aload 0, 1) := by decide +kernel
theorem c3_6 : cd 3 6 = some (.getfield 2818, 3) := by decide +kernel
theorem c3_9 : cd 3 9 = some (.getfield 1028, 3) := by decide +kernel
theorem c3_12 : cd 3 12 = some (.if_icmp .le 18, 3) := by decide +kernel
theorem c3_15 : cd 3 15 = some (.sipush (-3), 2) := by decide +kernel
theorem c3_17 : cd 3 17 = some (.ireturn, 1) := by decide +kernel
theorem c3_18 : cd 3 18 = some (.aload 0, 1) := by decide +kernel
theorem c3_19 : cd 3 19 = some (.getfield 2818, 3) := by decide +kernel
theorem c3_22 : cd 3 22 = some (.iload 1, 1) := by decide +kernel
theorem c3_23 : cd 3 23 = some (.invokevirtual 100, 3) := by decide +kernel
theorem c3_26 : cd 3 26 = some (.aload 0, 1) := by decide +kernel
theorem c3_27 : cd 3 27 = some (.getfield 2818, 3) := by decide +kernel
theorem c3_30 : cd 3 30 = some (.invokevirtual 101, 3) := by decide +kernel
theorem c3_33 : cd 3 33 = some (.ifCond .ne 47, 3) := by decide +kernel
theorem c3_36 : cd 3 36 = some (.sipush (-30), 2) := by decide +kernel
theorem c3_38 : cd 3 38 = some (.aload 0, 1) := by decide +kernel
theorem c3_39 : cd 3 39 = some (.getfield 2818, 3) := by decide +kernel
theorem c3_42 : cd 3 42 = some (.getfield 1032, 3) := by decide +kernel
theorem c3_45 : cd 3 45 = some (.isub, 1) := by decide +kernel
theorem c3_46 : cd 3 46 = some (.ireturn, 1) := by decide +kernel
theorem c3_47 : cd 3 47 = some (.aload 0, 1) := by decide +kernel
theorem c3_48 : cd 3 48 = some (.getfield 2850, 3) := by decide +kernel
theorem c3_51 : cd 3 51 = some (.aload 0, 1) := by decide +kernel
theorem c3_52 : cd 3 52 = some (.getfield 2818, 3) := by decide +kernel
theorem c3_55 : cd 3 55 = some (.getfield 1042, 3) := by decide +kernel
theorem c3_58 : cd 3 58 = some (.invokevirtual 102, 3) := by decide +kernel
theorem c3_61 : cd 3 61 = some (.aload 0, 1) := by decide +kernel
theorem c3_62 : cd 3 62 = some (.getfield 2854, 3) := by decide +kernel
theorem c3_65 : cd 3 65 = some (.aload 0, 1) := by decide +kernel
theorem c3_66 : cd 3 66 = some (.getfield 2850, 3) := by decide +kernel
theorem c3_69 : cd 3 69 = some (.invokevirtual 103, 3) := by decide +kernel
theorem c3_72 : cd 3 72 = some (.aload 0, 1) := by decide +kernel
theorem c3_73 : cd 3 73 = some (.getfield 2826, 3) := by decide +kernel
theorem c3_76 : cd 3 76 = some (.invokevirtual 104, 3) := by decide +kernel
theorem c3_79 : cd 3 79 = some (.aload 0, 1) := by decide +kernel
theorem c3_80 : cd 3 80 = some (.sipush 0, 1) := by decide +kernel
theorem c3_81 : cd 3 81 = some (.putfield 2864, 3) := by decide +kernel
theorem c3_84 : cd 3 84 = some (.aload 0, 1) := by decide +kernel
theorem c3_85 : cd 3 85 = some (.getfield 2850, 3) := by decide +kernel
theorem c3_88 : cd 3 88 = some (.getfield 2068, 3) := by decide +kernel
theorem c3_91 : cd 3 91 = some (.ireturn, 1) := by decide +kernel
theorem g3_0 {d : Nat} {a1 : Int} {w : aW} {Q : Option aV → aW → Prop} : T (d + 1) 3 0 [some (vr 0), some (vi a1)] [] w Q = ((a1 < 0 → T (d + 1) 3 15 [some (vr 0), some (vi a1)] [] w Q) ∧ (¬ (a1 < 0) → ((a1 ≤ w 1 1 → T d 100 0 [some (vr 1), some (vi a1), none, none, none] [] w (fun r w1 => T (d + 1) 3 26 [some (vr 0), some (vi a1)] (r.toList ++ []) w1 Q)) ∧ (¬ (a1 ≤ w 1 1) → T (d + 1) 3 15 [some (vr 0), some (vi a1)] [] w Q)))) := by
  rw [T_iload_1 c3_0, T_if_lt 15 c3_1 rfl, T_iload_1 c3_4, T_aload_0 c3_5, T_getR 11 0 0 c3_6 rfl rfl rfl rfl, rf_0_0, T_getI 4 1 1 c3_9 rfl rfl rfl rfl, T_icmp_le 18 c3_12 rfl, T_aload_0 c3_18, T_getR 11 0 0 c3_19 rfl rfl rfl rfl, rf_0_0, T_iload_1 c3_22, T_invv (es := [some (vr 1), some (vi a1), none, none, none]) (st := [vi a1, vr 1]) (ks := [2, 0]) (n := 5) (c := 4) (k := 1) (as := [vi a1]) (rest := []) c3_23 (by decide +kernel) (by decide +kernel) (by decide +kernel) (by decide) rfl rfl (Nat.le_of_ble_eq_true rfl)]
  all_goals try simp only [Int.reduceToNat, lay_0, lay_1, true_and, Nat.reduceAdd, eq_self_iff_true]
theorem g3_15 {d : Nat} {x0 x1 : Option aV} {w : aW} {Q : Option aV → aW → Prop} : T d 3 15 [x0, x1] [] w Q = Q (some (vi (-3))) w := by
  rw [T_sipush c3_15, T_ireti c3_17 (by decide +kernel)]
  all_goals try simp only [true_and, Nat.reduceAdd, eq_self_iff_true]
theorem g3_26 {d : Nat} {x1 : Option aV} {w : aW} {Q : Option aV → aW → Prop} : T (d + 1) 3 26 [some (vr 0), x1] [] w Q = T d 101 0 [some (vr 1), none, none] [] w (fun r w1 => T (d + 1) 3 33 [some (vr 0), x1] (r.toList ++ []) w1 Q) := by
  rw [T_aload_0 c3_26, T_getR 11 0 0 c3_27 rfl rfl rfl rfl, rf_0_0, T_invv (es := [some (vr 1), none, none]) (st := [vr 1]) (ks := [2]) (n := 3) (c := 4) (k := 1) (as := []) (rest := []) c3_30 (by decide +kernel) (by decide +kernel) (by decide +kernel) (by decide) rfl rfl (Nat.le_of_ble_eq_true rfl)]
  all_goals try simp only [lay_0, lay_1, true_and, Nat.reduceAdd, eq_self_iff_true]
theorem g3_33 {d : Nat} {s0 : Int} {x1 : Option aV} {w : aW} {Q : Option aV → aW → Prop} : T (d + 1) 3 33 [some (vr 0), x1] [vi s0] w Q = ((¬ s0 = 0 → T d 102 0 [some (vr 69), some (vr 3)] [] w (fun r w1 => T (d + 1) 3 61 [some (vr 0), x1] (r.toList ++ []) w1 Q)) ∧ (¬ (¬ s0 = 0) → Q (some (vi (w32 ((-30) - (w 1 2))))) w)) := by
  rw [T_if_ne 47 c3_33 rfl, T_aload_0 c3_47, T_getR 11 8 8 c3_48 rfl rfl rfl rfl, rf_0_8, T_aload_0 c3_51, T_getR 11 0 0 c3_52 rfl rfl rfl rfl, rf_0_0, T_getR 4 4 4 c3_55 rfl rfl rfl rfl, rf_1_4, T_invv (es := [some (vr 69), some (vr 3)]) (st := [vr 3, vr 69]) (ks := [2, 2]) (n := 2) (c := 8) (k := 69) (as := [vr 3]) (rest := []) c3_58 (by decide +kernel) (by decide +kernel) (by decide +kernel) (by decide) rfl rfl (Nat.le_of_ble_eq_true rfl), T_sipush c3_36, T_aload_0 c3_38, T_getR 11 0 0 c3_39 rfl rfl rfl rfl, rf_0_0, T_getI 4 2 2 c3_42 rfl rfl rfl rfl, T_isub c3_45, T_ireti c3_46 (by decide +kernel)]
  all_goals try simp only [Int.reduceToNat, lay_0, lay_1, lay_69, true_and, Nat.reduceAdd, eq_self_iff_true]
theorem g3_61 {d : Nat} {x1 : Option aV} {w : aW} {Q : Option aV → aW → Prop} : T (d + 1) 3 61 [some (vr 0), x1] [] w Q = T d 103 0 [some (vr 79), some (vr 69), none] [] w (fun r w1 => T (d + 1) 3 72 [some (vr 0), x1] (r.toList ++ []) w1 Q) := by
  rw [T_aload_0 c3_61, T_getR 11 9 9 c3_62 rfl rfl rfl rfl, rf_0_9, T_aload_0 c3_65, T_getR 11 8 8 c3_66 rfl rfl rfl rfl, rf_0_8, T_invv (es := [some (vr 79), some (vr 69), none]) (st := [vr 69, vr 79]) (ks := [2, 2]) (n := 3) (c := 6) (k := 79) (as := [vr 69]) (rest := []) c3_69 (by decide +kernel) (by decide +kernel) (by decide +kernel) (by decide) rfl rfl (Nat.le_of_ble_eq_true rfl)]
  all_goals try simp only [lay_0, lay_79, true_and, Nat.reduceAdd, eq_self_iff_true]
theorem g3_72 {d : Nat} {x1 : Option aV} {w : aW} {Q : Option aV → aW → Prop} : T (d + 1) 3 72 [some (vr 0), x1] [] w Q = T d 104 0 [some (vr 19)] [] w (fun r w1 => T (d + 1) 3 79 [some (vr 0), x1] (r.toList ++ []) w1 Q) := by
  rw [T_aload_0 c3_72, T_getR 11 2 2 c3_73 rfl rfl rfl rfl, rf_0_2, T_invv (es := [some (vr 19)]) (st := [vr 19]) (ks := [2]) (n := 1) (c := 0) (k := 19) (as := []) (rest := []) c3_76 (by decide +kernel) (by decide +kernel) (by decide +kernel) (by decide) rfl rfl (Nat.le_of_ble_eq_true rfl)]
  all_goals try simp only [lay_0, lay_19, true_and, Nat.reduceAdd, eq_self_iff_true]
theorem g3_79 {d : Nat} {x1 : Option aV} {w : aW} {Q : Option aV → aW → Prop} : T d 3 79 [some (vr 0), x1] [] w Q = Q (some (vi ((iup w 0 12 0) 69 5))) (iup w 0 12 0) := by
  rw [T_aload_0 c3_79, T_sipush c3_80, T_putI 11 12 12 c3_81 rfl rfl rfl rfl, T_aload_0 c3_84, T_getR 11 8 8 c3_85 rfl rfl rfl rfl, rf_0_8, T_getI 8 5 5 c3_88 rfl rfl rfl rfl, T_ireti c3_91 (by decide +kernel)]
  all_goals try simp only [lay_0, lay_69, true_and, Nat.reduceAdd, eq_self_iff_true]
/-! 4: StringHandsModel.troupe.(I)I -/
theorem c4_0 : cd 4 0 = some (.aload 0, 1) := by decide +kernel
theorem c4_1 : cd 4 1 = some (.sipush 0, 1) := by decide +kernel
theorem c4_2 : cd 4 2 = some (.putfield 3072, 3) := by decide +kernel
theorem c4_5 : cd 4 5 = some (.iload 1, 1) := by decide +kernel
theorem c4_6 : cd 4 6 = some (.i2l, 1) := by decide +kernel
theorem c4_7 : cd 4 7 = some (.bipush 0, 1) := by decide +kernel
theorem c4_8 : cd 4 8 = some (.aload 0, 1) := by decide +kernel
theorem c4_9 : cd 4 9 = some (.getfield 3092, 3) := by decide +kernel
theorem c4_12 : cd 4 12 = some (.i2l, 1) := by decide +kernel
theorem c4_13 : cd 4 13 = some (.invokestatic 105, 3) := by decide +kernel
theorem c4_16 : cd 4 16 = some (.ifCond .ne 22, 3) := by decide +kernel
theorem c4_19 : cd 4 19 = some (.sipush (-3), 2) := by decide +kernel
theorem c4_21 : cd 4 21 = some (.ireturn, 1) := by decide +kernel
theorem c4_22 : cd 4 22 = some (.aload 0, 1) := by decide +kernel
theorem c4_23 : cd 4 23 = some (.iload 1, 1) := by decide +kernel
theorem c4_24 : cd 4 24 = some (.putfield 3104, 3) := by decide +kernel
theorem c4_27 : cd 4 27 = some (.aload 0, 1) := by decide +kernel
theorem c4_28 : cd 4 28 = some (.sipush 0, 1) := by decide +kernel
theorem c4_29 : cd 4 29 = some (.putfield 3092, 3) := by decide +kernel
theorem c4_32 : cd 4 32 = some (.aload 0, 1) := by decide +kernel
theorem c4_33 : cd 4 33 = some (.sipush 0, 1) := by decide +kernel
theorem c4_34 : cd 4 34 = some (.putfield 3100, 3) := by decide +kernel
theorem c4_37 : cd 4 37 = some (.aload 0, 1) := by decide +kernel
theorem c4_38 : cd 4 38 = some (.sipush 0, 1) := by decide +kernel
theorem c4_39 : cd 4 39 = some (.putfield 3116, 3) := by decide +kernel
theorem c4_42 : cd 4 42 = some (.sipush 0, 1) := by decide +kernel
theorem c4_43 : cd 4 43 = some (.istore 2, 1) := by decide +kernel
theorem c4_44 : cd 4 44 = some (.iload 2, 1) := by decide +kernel
theorem c4_45 : cd 4 45 = some (.sipush 1644, 3) := by decide +kernel
theorem c4_48 : cd 4 48 = some (.if_icmp .ge 64, 3) := by decide +kernel
theorem c4_51 : cd 4 51 = some (.aload 0, 1) := by decide +kernel
theorem c4_52 : cd 4 52 = some (.getfield 3090, 3) := by decide +kernel
theorem c4_55 : cd 4 55 = some (.iload 2, 1) := by decide +kernel
theorem c4_56 : cd 4 56 = some (.sipush 0, 1) := by decide +kernel
theorem c4_57 : cd 4 57 = some (.iastore, 1) := by decide +kernel
theorem c4_58 : cd 4 58 = some (.iinc 2 1, 3) := by decide +kernel
theorem c4_61 : cd 4 61 = some (.goto 44, 3) := by decide +kernel
theorem c4_64 : cd 4 64 = some (.aload 0, 1) := by decide +kernel
theorem c4_65 : cd 4 65 = some (.invokevirtual 106, 3) := by decide +kernel
theorem c4_68 : cd 4 68 = some (.aload 0, 1) := by decide +kernel
theorem c4_69 : cd 4 69 = some (.getfield 3116, 3) := by decide +kernel
theorem c4_72 : cd 4 72 = some (.ifCond .ne 218, 3) := by decide +kernel
theorem c4_75 : cd 4 75 = some (.aload 0, 1) := by decide +kernel
theorem c4_76 : cd 4 76 = some (.getfield 3108, 3) := by decide +kernel
theorem c4_79 : cd 4 79 = some (.sipush 16, 2) := by decide +kernel
theorem c4_81 : cd 4 81 = some (.if_icmp .eq 218, 3) := by decide +kernel
theorem c4_84 : cd 4 84 = some (.aload 0, 1) := by decide +kernel
theorem c4_85 : cd 4 85 = some (.sipush 0, 1) := by decide +kernel
theorem c4_86 : cd 4 86 = some (.invokevirtual 107, 3) := by decide +kernel
theorem c4_89 : cd 4 89 = some (.ifCond .eq 99, 3) := by decide +kernel
theorem c4_92 : cd 4 92 = some (.aload 0, 1) := by decide +kernel
theorem c4_93 : cd 4 93 = some (.invokevirtual 108, 3) := by decide +kernel
theorem c4_96 : cd 4 96 = some (.goto 191, 3) := by decide +kernel
theorem c4_99 : cd 4 99 = some (.aload 0, 1) := by decide +kernel
theorem c4_100 : cd 4 100 = some (.sipush 1, 1) := by decide +kernel
theorem c4_101 : cd 4 101 = some (.invokevirtual 109, 3) := by decide +kernel
theorem c4_104 : cd 4 104 = some (.ifCond .eq 114, 3) := by decide +kernel
theorem c4_107 : cd 4 107 = some (.aload 0, 1) := by decide +kernel
theorem c4_108 : cd 4 108 = some (.invokevirtual 110, 3) := by decide +kernel
theorem c4_111 : cd 4 111 = some (.goto 191, 3) := by decide +kernel
theorem c4_114 : cd 4 114 = some (.aload 0, 1) := by decide +kernel
theorem c4_115 : cd 4 115 = some (.sipush 5, 1) := by decide +kernel
theorem c4_116 : cd 4 116 = some (.invokevirtual 107, 3) := by decide +kernel
theorem c4_119 : cd 4 119 = some (.ifCond .eq 129, 3) := by decide +kernel
theorem c4_122 : cd 4 122 = some (.aload 0, 1) := by decide +kernel
theorem c4_123 : cd 4 123 = some (.invokevirtual 111, 3) := by decide +kernel
theorem c4_126 : cd 4 126 = some (.goto 191, 3) := by decide +kernel
theorem c4_129 : cd 4 129 = some (.aload 0, 1) := by decide +kernel
theorem c4_130 : cd 4 130 = some (.sipush 6, 2) := by decide +kernel
theorem c4_132 : cd 4 132 = some (.invokevirtual 107, 3) := by decide +kernel
theorem c4_135 : cd 4 135 = some (.ifCond .eq 145, 3) := by decide +kernel
theorem c4_138 : cd 4 138 = some (.aload 0, 1) := by decide +kernel
theorem c4_139 : cd 4 139 = some (.invokevirtual 112, 3) := by decide +kernel
theorem c4_142 : cd 4 142 = some (.goto 191, 3) := by decide +kernel
theorem c4_145 : cd 4 145 = some (.aload 0, 1) := by decide +kernel
theorem c4_146 : cd 4 146 = some (.sipush 7, 2) := by decide +kernel
theorem c4_148 : cd 4 148 = some (.invokevirtual 107, 3) := by decide +kernel
theorem c4_151 : cd 4 151 = some (.ifCond .eq 161, 3) := by decide +kernel
theorem c4_154 : cd 4 154 = some (.aload 0, 1) := by decide +kernel
theorem c4_155 : cd 4 155 = some (.invokevirtual 113, 3) := by decide +kernel
theorem c4_158 : cd 4 158 = some (.goto 191, 3) := by decide +kernel
theorem c4_161 : cd 4 161 = some (.aload 0, 1) := by decide +kernel
theorem c4_162 : cd 4 162 = some (.sipush 8, 2) := by decide +kernel
theorem c4_164 : cd 4 164 = some (.invokevirtual 107, 3) := by decide +kernel
theorem c4_167 : cd 4 167 = some (.ifCond .eq 186, 3) := by decide +kernel
theorem c4_170 : cd 4 170 = some (.aload 0, 1) := by decide +kernel
theorem c4_171 : cd 4 171 = some (.getfield 3090, 3) := by decide +kernel
theorem c4_174 : cd 4 174 = some (.sipush 4, 1) := by decide +kernel
theorem c4_175 : cd 4 175 = some (.aload 0, 1) := by decide +kernel
theorem c4_176 : cd 4 176 = some (.sipush 1, 1) := by decide +kernel
theorem c4_177 : cd 4 177 = some (.sipush 99, 2) := by decide +kernel
theorem c4_179 : cd 4 179 = some (.invokevirtual 114, 3) := by decide +kernel
theorem c4_182 : cd 4 182 = some (.iastore, 1) := by decide +kernel
theorem c4_183 : cd 4 183 = some (.goto 191, 3) := by decide +kernel
theorem c4_186 : cd 4 186 = some (.aload 0, 1) := by decide +kernel
theorem c4_187 : cd 4 187 = some (.sipush 2, 1) := by decide +kernel
theorem c4_188 : cd 4 188 = some (.invokevirtual 115, 3) := by decide +kernel
theorem c4_191 : cd 4 191 = some (.aload 0, 1) := by decide +kernel
theorem c4_192 : cd 4 192 = some (.sipush 20, 2) := by decide +kernel
theorem c4_194 : cd 4 194 = some (.invokevirtual 107, 3) := by decide +kernel
theorem c4_197 : cd 4 197 = some (.ifCond .ne 205, 3) := by decide +kernel
theorem c4_200 : cd 4 200 = some (.aload 0, 1) := by decide +kernel
theorem c4_201 : cd 4 201 = some (.sipush 2, 1) := by decide +kernel
theorem c4_202 : cd 4 202 = some (.invokevirtual 115, 3) := by decide +kernel
theorem c4_205 : cd 4 205 = some (.aload 0, 1) := by decide +kernel
theorem c4_206 : cd 4 206 = some (.getfield 3090, 3) := by decide +kernel
theorem c4_209 : cd 4 209 = some (.sipush 0, 1) := by decide +kernel
theorem c4_210 : cd 4 210 = some (.dup2, 1) := by decide +kernel
theorem c4_211 : cd 4 211 = some (.iaload, 1) := by decide +kernel
theorem c4_212 : cd 4 212 = some (.sipush 1, 1) := by decide +kernel
theorem c4_213 : cd 4 213 = some (.iadd, 1) := by decide +kernel
theorem c4_214 : cd 4 214 = some (.iastore, 1) := by decide +kernel
theorem c4_215 : cd 4 215 = some (.goto 68, 3) := by decide +kernel
theorem c4_218 : cd 4 218 = some (.aload 0, 1) := by decide +kernel
theorem c4_219 : cd 4 219 = some (.aload 0, 1) := by decide +kernel
theorem c4_220 : cd 4 220 = some (.getfield 3116, 3) := by decide +kernel
theorem c4_223 : cd 4 223 = some (.putfield 3124, 3) := by decide +kernel
theorem c4_226 : cd 4 226 = some (.aload 0, 1) := by decide +kernel
theorem c4_227 : cd 4 227 = some (.aload 0, 1) := by decide +kernel
theorem c4_228 : cd 4 228 = some (.getfield 3116, 3) := by decide +kernel
theorem c4_231 : cd 4 231 = some (.ifCond .ne 238, 3) := by decide +kernel
theorem c4_234 : cd 4 234 = some (.sipush (-1), 1) := by decide +kernel
theorem c4_235 : cd 4 235 = some (.goto 242, 3) := by decide +kernel
theorem c4_238 : cd 4 238 = some (.aload 0, 1) := by decide +kernel
theorem c4_239 : cd 4 239 = some (.getfield 3120, 3) := by decide +kernel
theorem c4_242 : cd 4 242 = some (.putfield 3128, 3) := by decide +kernel
theorem c4_245 : cd 4 245 = some (.aload 0, 1) := by decide +kernel
theorem c4_246 : cd 4 246 = some (.getfield 3116, 3) := by decide +kernel
theorem c4_249 : cd 4 249 = some (.ifCond .eq 260, 3) := by decide +kernel
theorem c4_252 : cd 4 252 = some (.sipush (-30), 2) := by decide +kernel
theorem c4_254 : cd 4 254 = some (.aload 0, 1) := by decide +kernel
theorem c4_255 : cd 4 255 = some (.getfield 3116, 3) := by decide +kernel
theorem c4_258 : cd 4 258 = some (.isub, 1) := by decide +kernel
theorem c4_259 : cd 4 259 = some (.ireturn, 1) := by decide +kernel
theorem c4_260 : cd 4 260 = some (.sipush 0, 1) := by decide +kernel
theorem c4_261 : cd 4 261 = some (.istore 2, 1) := by decide +kernel
theorem c4_262 : cd 4 262 = some (.iload 2, 1) := by decide +kernel
theorem c4_263 : cd 4 263 = some (.sipush 1644, 3) := by decide +kernel
theorem c4_266 : cd 4 266 = some (.if_icmp .ge 287, 3) := by decide +kernel
theorem c4_269 : cd 4 269 = some (.aload 0, 1) := by decide +kernel
theorem c4_270 : cd 4 270 = some (.getfield 3078, 3) := by decide +kernel
theorem c4_273 : cd 4 273 = some (.iload 2, 1) := by decide +kernel
theorem c4_274 : cd 4 274 = some (.aload 0, 1) := by decide +kernel
theorem c4_275 : cd 4 275 = some (.getfield 3090, 3) := by decide +kernel
theorem c4_278 : cd 4 278 = some (.iload 2, 1) := by decide +kernel
theorem c4_279 : cd 4 279 = some (.iaload, 1) := by decide +kernel
theorem c4_280 : cd 4 280 = some (.iastore, 1) := by decide +kernel
theorem c4_281 : cd 4 281 = some (.iinc 2 1, 3) := by decide +kernel
theorem c4_284 : cd 4 284 = some (.goto 262, 3) := by decide +kernel
theorem c4_287 : cd 4 287 = some (.aload 0, 1) := by decide +kernel
theorem c4_288 : cd 4 288 = some (.getfield 3078, 3) := by decide +kernel
theorem c4_291 : cd 4 291 = some (.sipush 0, 1) := by decide +kernel
theorem c4_292 : cd 4 292 = some (.iaload, 1) := by decide +kernel
theorem c4_293 : cd 4 293 = some (.ireturn, 1) := by decide +kernel
theorem g4_0 {d : Nat} {a1 : Int} {x2 : Option aV} {w : aW} {Q : Option aV → aW → Prop} : T (d + 1) 4 0 [some (vr 167), some (vi a1), x2] [] w Q = T d 105 0 [some (vl a1), none, some (vl 0), none, some (vl ((iup w 167 0 0) 167 5)), none] [] (iup w 167 0 0) (fun r w1 => T (d + 1) 4 16 [some (vr 167), some (vi a1), x2] (r.toList ++ []) w1 Q) := by
  rw [T_aload_0 c4_0, T_sipush c4_1, T_putI 12 0 0 c4_2 rfl rfl rfl rfl, T_iload_1 c4_5, T_i2l c4_6, T_bipush c4_7, T_aload_0 c4_8, T_getI 12 5 5 c4_9 rfl rfl rfl rfl, T_i2l c4_12, T_inv (es := [some (vl a1), none, some (vl 0), none, some (vl ((iup w 167 0 0) 167 5)), none]) (st := [vl ((iup w 167 0 0) 167 5), vl 0, vl a1]) (ks := [1, 1, 1]) (n := 6) (as := [vl a1, vl 0, vl ((iup w 167 0 0) 167 5)]) (rest := []) c4_13 (by decide +kernel) (by decide +kernel) rfl rfl (Nat.le_of_ble_eq_true rfl)]
  all_goals try simp only [lay_167, true_and, Nat.reduceAdd, eq_self_iff_true]
theorem g4_16 {d : Nat} {a1 s0 : Int} {x2 : Option aV} {w : aW} {Q : Option aV → aW → Prop} : T d 4 16 [some (vr 167), some (vi a1), x2] [vi s0] w Q = ((¬ s0 = 0 → T d 4 44 [some (vr 167), some (vi a1), some (vi 0)] [] (iup (iup (iup (iup w 167 8 a1) 167 5 0) 167 7 0) 167 11 0) Q) ∧ (¬ (¬ s0 = 0) → Q (some (vi (-3))) w)) := by
  rw [T_if_ne 22 c4_16 rfl, T_aload_0 c4_22, T_iload_1 c4_23, T_putI 12 8 8 c4_24 rfl rfl rfl rfl, T_aload_0 c4_27, T_sipush c4_28, T_putI 12 5 5 c4_29 rfl rfl rfl rfl, T_aload_0 c4_32, T_sipush c4_33, T_putI 12 7 7 c4_34 rfl rfl rfl rfl, T_aload_0 c4_37, T_sipush c4_38, T_putI 12 11 11 c4_39 rfl rfl rfl rfl, T_sipush c4_42, T_istore_2 c4_43, T_sipush c4_19, T_ireti c4_21 (by decide +kernel)]
  all_goals try simp only [Int.reduceToNat, lay_167, true_and, Nat.reduceAdd, eq_self_iff_true]
theorem g4_44 {d : Nat} {a2 : Int} {x1 : Option aV} {w : aW} {Q : Option aV → aW → Prop} : T (d + 1) 4 44 [some (vr 167), x1, some (vi a2)] [] w Q = ((1644 ≤ a2 → T d 106 0 [some (vr 167), none] [] w (fun r w1 => T (d + 1) 4 68 [some (vr 167), x1, some (vi a2)] (r.toList ++ []) w1 Q)) ∧ (¬ (1644 ≤ a2) → ((0 ≤ a2 ∧ a2 < 1644) ∧ T (d + 1) 4 44 [some (vr 167), x1, some (vi (w32 (a2 + 1)))] [] (iup w 171 a2 0) Q))) := by
  rw [T_iload_2 c4_44, T_sipush c4_45, T_icmp_ge 64 c4_48 rfl, T_aload_0 c4_64, T_invv (es := [some (vr 167), none]) (st := [vr 167]) (ks := [2]) (n := 2) (c := 12) (k := 167) (as := []) (rest := []) c4_65 (by decide +kernel) (by decide +kernel) (by decide +kernel) (by decide) rfl rfl (Nat.le_of_ble_eq_true rfl), T_aload_0 c4_51, T_getR 12 4 4 c4_52 rfl rfl rfl rfl, rf_167_4, T_iload_2 c4_55, T_sipush c4_56, T_iast c4_57, T_iinc_2 c4_58, T_goto 44 c4_61 rfl]
  all_goals try simp only [Int.reduceToNat, ia0_171, lay_167, true_and, Nat.reduceAdd, eq_self_iff_true]
theorem g4_68 {d : Nat} {x1 x2 : Option aV} {w : aW} {Q : Option aV → aW → Prop} : T (d + 1) 4 68 [some (vr 167), x1, x2] [] w Q = ((¬ w 167 11 = 0 → T (d + 1) 4 218 [some (vr 167), x1, x2] [] w Q) ∧ (¬ (¬ w 167 11 = 0) → ((w 167 9 = 16 → T (d + 1) 4 218 [some (vr 167), x1, x2] [] w Q) ∧ (¬ (w 167 9 = 16) → T d 107 0 [some (vr 167), some (vi 0)] [] w (fun r w1 => T (d + 1) 4 89 [some (vr 167), x1, x2] (r.toList ++ []) w1 Q))))) := by
  rw [T_aload_0 c4_68, T_getI 12 11 11 c4_69 rfl rfl rfl rfl, T_if_ne 218 c4_72 rfl, T_aload_0 c4_75, T_getI 12 9 9 c4_76 rfl rfl rfl rfl, T_sipush c4_79, T_icmp_eq 218 c4_81 rfl, T_aload_0 c4_84, T_sipush c4_85, T_invv (es := [some (vr 167), some (vi 0)]) (st := [vi 0, vr 167]) (ks := [2, 0]) (n := 2) (c := 12) (k := 167) (as := [vi 0]) (rest := []) c4_86 (by decide +kernel) (by decide +kernel) (by decide +kernel) (by decide) rfl rfl (Nat.le_of_ble_eq_true rfl)]
  all_goals try simp only [Int.reduceToNat, lay_167, true_and, Nat.reduceAdd, eq_self_iff_true]
theorem g4_89 {d : Nat} {s0 : Int} {x1 x2 : Option aV} {w : aW} {Q : Option aV → aW → Prop} : T (d + 1) 4 89 [some (vr 167), x1, x2] [vi s0] w Q = ((s0 = 0 → T d 109 0 [some (vr 167), some (vi 1)] [] w (fun r w1 => T (d + 1) 4 104 [some (vr 167), x1, x2] (r.toList ++ []) w1 Q)) ∧ (¬ (s0 = 0) → T d 108 0 [some (vr 167), none, none, none] [] w (fun r w1 => T (d + 1) 4 96 [some (vr 167), x1, x2] (r.toList ++ []) w1 Q))) := by
  rw [T_if_eq 99 c4_89 rfl, T_aload_0 c4_99, T_sipush c4_100, T_invv (es := [some (vr 167), some (vi 1)]) (st := [vi 1, vr 167]) (ks := [2, 0]) (n := 2) (c := 12) (k := 167) (as := [vi 1]) (rest := []) c4_101 (by decide +kernel) (by decide +kernel) (by decide +kernel) (by decide) rfl rfl (Nat.le_of_ble_eq_true rfl), T_aload_0 c4_92, T_invv (es := [some (vr 167), none, none, none]) (st := [vr 167]) (ks := [2]) (n := 4) (c := 12) (k := 167) (as := []) (rest := []) c4_93 (by decide +kernel) (by decide +kernel) (by decide +kernel) (by decide) rfl rfl (Nat.le_of_ble_eq_true rfl)]
  all_goals try simp only [Int.reduceToNat, lay_167, true_and, Nat.reduceAdd, eq_self_iff_true]
theorem g4_96 {d : Nat} {x0 x1 x2 : Option aV} {w : aW} {Q : Option aV → aW → Prop} : T d 4 96 [x0, x1, x2] [] w Q = T d 4 191 [x0, x1, x2] [] w Q := by
  rw [T_goto 191 c4_96 rfl]
  all_goals try simp only [true_and, Nat.reduceAdd, eq_self_iff_true]
theorem g4_104 {d : Nat} {s0 : Int} {x1 x2 : Option aV} {w : aW} {Q : Option aV → aW → Prop} : T (d + 1) 4 104 [some (vr 167), x1, x2] [vi s0] w Q = ((s0 = 0 → T d 107 0 [some (vr 167), some (vi 5)] [] w (fun r w1 => T (d + 1) 4 119 [some (vr 167), x1, x2] (r.toList ++ []) w1 Q)) ∧ (¬ (s0 = 0) → T d 110 0 [some (vr 167), none, none, none, none, none] [] w (fun r w1 => T (d + 1) 4 111 [some (vr 167), x1, x2] (r.toList ++ []) w1 Q))) := by
  rw [T_if_eq 114 c4_104 rfl, T_aload_0 c4_114, T_sipush c4_115, T_invv (es := [some (vr 167), some (vi 5)]) (st := [vi 5, vr 167]) (ks := [2, 0]) (n := 2) (c := 12) (k := 167) (as := [vi 5]) (rest := []) c4_116 (by decide +kernel) (by decide +kernel) (by decide +kernel) (by decide) rfl rfl (Nat.le_of_ble_eq_true rfl), T_aload_0 c4_107, T_invv (es := [some (vr 167), none, none, none, none, none]) (st := [vr 167]) (ks := [2]) (n := 6) (c := 12) (k := 167) (as := []) (rest := []) c4_108 (by decide +kernel) (by decide +kernel) (by decide +kernel) (by decide) rfl rfl (Nat.le_of_ble_eq_true rfl)]
  all_goals try simp only [Int.reduceToNat, lay_167, true_and, Nat.reduceAdd, eq_self_iff_true]
theorem g4_111 {d : Nat} {x0 x1 x2 : Option aV} {w : aW} {Q : Option aV → aW → Prop} : T d 4 111 [x0, x1, x2] [] w Q = T d 4 191 [x0, x1, x2] [] w Q := by
  rw [T_goto 191 c4_111 rfl]
  all_goals try simp only [true_and, Nat.reduceAdd, eq_self_iff_true]
theorem g4_119 {d : Nat} {s0 : Int} {x1 x2 : Option aV} {w : aW} {Q : Option aV → aW → Prop} : T (d + 1) 4 119 [some (vr 167), x1, x2] [vi s0] w Q = ((s0 = 0 → T d 107 0 [some (vr 167), some (vi 6)] [] w (fun r w1 => T (d + 1) 4 135 [some (vr 167), x1, x2] (r.toList ++ []) w1 Q)) ∧ (¬ (s0 = 0) → T d 111 0 [some (vr 167), none, none] [] w (fun r w1 => T (d + 1) 4 126 [some (vr 167), x1, x2] (r.toList ++ []) w1 Q))) := by
  rw [T_if_eq 129 c4_119 rfl, T_aload_0 c4_129, T_sipush c4_130, T_invv (es := [some (vr 167), some (vi 6)]) (st := [vi 6, vr 167]) (ks := [2, 0]) (n := 2) (c := 12) (k := 167) (as := [vi 6]) (rest := []) c4_132 (by decide +kernel) (by decide +kernel) (by decide +kernel) (by decide) rfl rfl (Nat.le_of_ble_eq_true rfl), T_aload_0 c4_122, T_invv (es := [some (vr 167), none, none]) (st := [vr 167]) (ks := [2]) (n := 3) (c := 12) (k := 167) (as := []) (rest := []) c4_123 (by decide +kernel) (by decide +kernel) (by decide +kernel) (by decide) rfl rfl (Nat.le_of_ble_eq_true rfl)]
  all_goals try simp only [Int.reduceToNat, lay_167, true_and, Nat.reduceAdd, eq_self_iff_true]
theorem g4_126 {d : Nat} {x0 x1 x2 : Option aV} {w : aW} {Q : Option aV → aW → Prop} : T d 4 126 [x0, x1, x2] [] w Q = T d 4 191 [x0, x1, x2] [] w Q := by
  rw [T_goto 191 c4_126 rfl]
  all_goals try simp only [true_and, Nat.reduceAdd, eq_self_iff_true]
theorem g4_135 {d : Nat} {s0 : Int} {x1 x2 : Option aV} {w : aW} {Q : Option aV → aW → Prop} : T (d + 1) 4 135 [some (vr 167), x1, x2] [vi s0] w Q = ((s0 = 0 → T d 107 0 [some (vr 167), some (vi 7)] [] w (fun r w1 => T (d + 1) 4 151 [some (vr 167), x1, x2] (r.toList ++ []) w1 Q)) ∧ (¬ (s0 = 0) → T d 112 0 [some (vr 167), none, none] [] w (fun r w1 => T (d + 1) 4 142 [some (vr 167), x1, x2] (r.toList ++ []) w1 Q))) := by
  rw [T_if_eq 145 c4_135 rfl, T_aload_0 c4_145, T_sipush c4_146, T_invv (es := [some (vr 167), some (vi 7)]) (st := [vi 7, vr 167]) (ks := [2, 0]) (n := 2) (c := 12) (k := 167) (as := [vi 7]) (rest := []) c4_148 (by decide +kernel) (by decide +kernel) (by decide +kernel) (by decide) rfl rfl (Nat.le_of_ble_eq_true rfl), T_aload_0 c4_138, T_invv (es := [some (vr 167), none, none]) (st := [vr 167]) (ks := [2]) (n := 3) (c := 12) (k := 167) (as := []) (rest := []) c4_139 (by decide +kernel) (by decide +kernel) (by decide +kernel) (by decide) rfl rfl (Nat.le_of_ble_eq_true rfl)]
  all_goals try simp only [Int.reduceToNat, lay_167, true_and, Nat.reduceAdd, eq_self_iff_true]
theorem g4_142 {d : Nat} {x0 x1 x2 : Option aV} {w : aW} {Q : Option aV → aW → Prop} : T d 4 142 [x0, x1, x2] [] w Q = T d 4 191 [x0, x1, x2] [] w Q := by
  rw [T_goto 191 c4_142 rfl]
  all_goals try simp only [true_and, Nat.reduceAdd, eq_self_iff_true]
theorem g4_151 {d : Nat} {s0 : Int} {x1 x2 : Option aV} {w : aW} {Q : Option aV → aW → Prop} : T (d + 1) 4 151 [some (vr 167), x1, x2] [vi s0] w Q = ((s0 = 0 → T d 107 0 [some (vr 167), some (vi 8)] [] w (fun r w1 => T (d + 1) 4 167 [some (vr 167), x1, x2] (r.toList ++ []) w1 Q)) ∧ (¬ (s0 = 0) → T d 113 0 [some (vr 167), none] [] w (fun r w1 => T (d + 1) 4 158 [some (vr 167), x1, x2] (r.toList ++ []) w1 Q))) := by
  rw [T_if_eq 161 c4_151 rfl, T_aload_0 c4_161, T_sipush c4_162, T_invv (es := [some (vr 167), some (vi 8)]) (st := [vi 8, vr 167]) (ks := [2, 0]) (n := 2) (c := 12) (k := 167) (as := [vi 8]) (rest := []) c4_164 (by decide +kernel) (by decide +kernel) (by decide +kernel) (by decide) rfl rfl (Nat.le_of_ble_eq_true rfl), T_aload_0 c4_154, T_invv (es := [some (vr 167), none]) (st := [vr 167]) (ks := [2]) (n := 2) (c := 12) (k := 167) (as := []) (rest := []) c4_155 (by decide +kernel) (by decide +kernel) (by decide +kernel) (by decide) rfl rfl (Nat.le_of_ble_eq_true rfl)]
  all_goals try simp only [Int.reduceToNat, lay_167, true_and, Nat.reduceAdd, eq_self_iff_true]
theorem g4_158 {d : Nat} {x0 x1 x2 : Option aV} {w : aW} {Q : Option aV → aW → Prop} : T d 4 158 [x0, x1, x2] [] w Q = T d 4 191 [x0, x1, x2] [] w Q := by
  rw [T_goto 191 c4_158 rfl]
  all_goals try simp only [true_and, Nat.reduceAdd, eq_self_iff_true]
theorem g4_167 {d : Nat} {s0 : Int} {x1 x2 : Option aV} {w : aW} {Q : Option aV → aW → Prop} : T (d + 1) 4 167 [some (vr 167), x1, x2] [vi s0] w Q = ((s0 = 0 → T d 115 0 [some (vr 167), some (vi 2)] [] w (fun r w1 => T (d + 1) 4 191 [some (vr 167), x1, x2] (r.toList ++ []) w1 Q)) ∧ (¬ (s0 = 0) → T d 114 0 [some (vr 167), some (vi 1), some (vi 99), none] [] w (fun r w1 => T (d + 1) 4 182 [some (vr 167), x1, x2] (r.toList ++ [vi 4, vr 171]) w1 Q))) := by
  rw [T_if_eq 186 c4_167 rfl, T_aload_0 c4_186, T_sipush c4_187, T_invv (es := [some (vr 167), some (vi 2)]) (st := [vi 2, vr 167]) (ks := [2, 0]) (n := 2) (c := 12) (k := 167) (as := [vi 2]) (rest := []) c4_188 (by decide +kernel) (by decide +kernel) (by decide +kernel) (by decide) rfl rfl (Nat.le_of_ble_eq_true rfl), T_aload_0 c4_170, T_getR 12 4 4 c4_171 rfl rfl rfl rfl, rf_167_4, T_sipush c4_174, T_aload_0 c4_175, T_sipush c4_176, T_sipush c4_177, T_invv (es := [some (vr 167), some (vi 1), some (vi 99), none]) (st := [vi 99, vi 1, vr 167, vi 4, vr 171]) (ks := [2, 0, 0]) (n := 4) (c := 12) (k := 167) (as := [vi 1, vi 99]) (rest := [vi 4, vr 171]) c4_179 (by decide +kernel) (by decide +kernel) (by decide +kernel) (by decide) rfl rfl (Nat.le_of_ble_eq_true rfl)]
  all_goals try simp only [Int.reduceToNat, lay_167, true_and, Nat.reduceAdd, eq_self_iff_true]
theorem g4_182 {d : Nat} {s1 s2 : Int} {s0 : Nat} {x0 x1 x2 : Option aV} {w : aW} {Q : Option aV → aW → Prop} : T d 4 182 [x0, x1, x2] [vi s2, vi s1, vr s0] w Q = (inA s0 0 s1 = true ∧ T d 4 191 [x0, x1, x2] [] (iup w s0 s1 s2) Q) := by
  rw [T_iast c4_182, T_goto 191 c4_183 rfl]
  all_goals try simp only [true_and, Nat.reduceAdd, eq_self_iff_true]
theorem g4_191 {d : Nat} {x1 x2 : Option aV} {w : aW} {Q : Option aV → aW → Prop} : T (d + 1) 4 191 [some (vr 167), x1, x2] [] w Q = T d 107 0 [some (vr 167), some (vi 20)] [] w (fun r w1 => T (d + 1) 4 197 [some (vr 167), x1, x2] (r.toList ++ []) w1 Q) := by
  rw [T_aload_0 c4_191, T_sipush c4_192, T_invv (es := [some (vr 167), some (vi 20)]) (st := [vi 20, vr 167]) (ks := [2, 0]) (n := 2) (c := 12) (k := 167) (as := [vi 20]) (rest := []) c4_194 (by decide +kernel) (by decide +kernel) (by decide +kernel) (by decide) rfl rfl (Nat.le_of_ble_eq_true rfl)]
  all_goals try simp only [lay_167, true_and, Nat.reduceAdd, eq_self_iff_true]
theorem g4_197 {d : Nat} {s0 : Int} {x1 x2 : Option aV} {w : aW} {Q : Option aV → aW → Prop} : T (d + 1) 4 197 [some (vr 167), x1, x2] [vi s0] w Q = ((¬ s0 = 0 → T (d + 1) 4 205 [some (vr 167), x1, x2] [] w Q) ∧ (¬ (¬ s0 = 0) → T d 115 0 [some (vr 167), some (vi 2)] [] w (fun r w1 => T (d + 1) 4 205 [some (vr 167), x1, x2] (r.toList ++ []) w1 Q))) := by
  rw [T_if_ne 205 c4_197 rfl, T_aload_0 c4_200, T_sipush c4_201, T_invv (es := [some (vr 167), some (vi 2)]) (st := [vi 2, vr 167]) (ks := [2, 0]) (n := 2) (c := 12) (k := 167) (as := [vi 2]) (rest := []) c4_202 (by decide +kernel) (by decide +kernel) (by decide +kernel) (by decide) rfl rfl (Nat.le_of_ble_eq_true rfl)]
  all_goals try simp only [Int.reduceToNat, lay_167, true_and, Nat.reduceAdd, eq_self_iff_true]
theorem g4_205 {d : Nat} {x1 x2 : Option aV} {w : aW} {Q : Option aV → aW → Prop} : T d 4 205 [some (vr 167), x1, x2] [] w Q = T d 4 68 [some (vr 167), x1, x2] [] (iup w 171 0 (w32 ((w 171 0) + 1))) Q := by
  rw [T_aload_0 c4_205, T_getR 12 4 4 c4_206 rfl rfl rfl rfl, rf_167_4, T_sipush c4_209, T_dup2 c4_210, T_iald c4_211, T_sipush c4_212, T_iadd c4_213, T_iast c4_214, T_goto 68 c4_215 rfl]
  all_goals try simp only [Int.reduceLE, Int.reduceLT, and_self, ia0_171, lay_167, ld_171, true_and, Nat.reduceAdd, eq_self_iff_true]
theorem g4_218 {d : Nat} {x1 x2 : Option aV} {w : aW} {Q : Option aV → aW → Prop} : T d 4 218 [some (vr 167), x1, x2] [] w Q = ((¬ (iup w 167 13 (w 167 11)) 167 11 = 0 → T d 4 242 [some (vr 167), x1, x2] [vi ((iup w 167 13 (w 167 11)) 167 12), vr 167] (iup w 167 13 (w 167 11)) Q) ∧ (¬ (¬ (iup w 167 13 (w 167 11)) 167 11 = 0) → T d 4 242 [some (vr 167), x1, x2] [vi (-1), vr 167] (iup w 167 13 (w 167 11)) Q)) := by
  rw [T_aload_0 c4_218, T_aload_0 c4_219, T_getI 12 11 11 c4_220 rfl rfl rfl rfl, T_putI 12 13 13 c4_223 rfl rfl rfl rfl, T_aload_0 c4_226, T_aload_0 c4_227, T_getI 12 11 11 c4_228 rfl rfl rfl rfl, T_if_ne 238 c4_231 rfl, T_aload_0 c4_238, T_getI 12 12 12 c4_239 rfl rfl rfl rfl, T_sipush c4_234, T_goto 242 c4_235 rfl]
  all_goals try simp only [Int.reduceToNat, lay_167, true_and, Nat.reduceAdd, eq_self_iff_true]
theorem g4_242 {d : Nat} {s1 : Int} {s0 : Nat} {x1 x2 : Option aV} {w : aW} {Q : Option aV → aW → Prop} : T d 4 242 [some (vr 167), x1, x2] [vi s1, vr s0] w Q = ((lay s0 = (12, 0)) ∧ (((iup w s0 14 s1) 167 11 = 0 → T d 4 262 [some (vr 167), x1, some (vi 0)] [] (iup w s0 14 s1) Q) ∧ (¬ ((iup w s0 14 s1) 167 11 = 0) → Q (some (vi (w32 ((-30) - ((iup w s0 14 s1) 167 11))))) (iup w s0 14 s1)))) := by
  rw [T_putI 12 14 14 c4_242 rfl rfl rfl rfl, T_aload_0 c4_245, T_getI 12 11 11 c4_246 rfl rfl rfl rfl, T_if_eq 260 c4_249 rfl, T_sipush c4_260, T_istore_2 c4_261, T_sipush c4_252, T_aload_0 c4_254, T_getI 12 11 11 c4_255 rfl rfl rfl rfl, T_isub c4_258, T_ireti c4_259 (by decide +kernel)]
  all_goals try simp only [Int.reduceToNat, lay_167, true_and, Nat.reduceAdd, eq_self_iff_true]
theorem g4_262 {d : Nat} {a2 : Int} {x1 : Option aV} {w : aW} {Q : Option aV → aW → Prop} : T d 4 262 [some (vr 167), x1, some (vi a2)] [] w Q = ((1644 ≤ a2 → Q (some (vi (w 168 0))) w) ∧ (¬ (1644 ≤ a2) → ((0 ≤ a2 ∧ a2 < 1644) ∧ ((0 ≤ a2 ∧ a2 < 4932) ∧ T d 4 262 [some (vr 167), x1, some (vi (w32 (a2 + 1)))] [] (iup w 168 a2 (w 171 a2)) Q)))) := by
  rw [T_iload_2 c4_262, T_sipush c4_263, T_icmp_ge 287 c4_266 rfl, T_aload_0 c4_287, T_getR 12 1 1 c4_288 rfl rfl rfl rfl, rf_167_1, T_sipush c4_291, T_iald c4_292, T_ireti c4_293 (by decide +kernel), T_aload_0 c4_269, T_getR 12 1 1 c4_270 rfl rfl rfl rfl, rf_167_1, T_iload_2 c4_273, T_aload_0 c4_274, T_getR 12 4 4 c4_275 rfl rfl rfl rfl, rf_167_4, T_iload_2 c4_278, T_iald c4_279, T_iast c4_280, T_iinc_2 c4_281, T_goto 262 c4_284 rfl]
  all_goals try simp only [Int.reduceLE, Int.reduceLT, Int.reduceToNat, and_self, ia0_168, lay_167, ld_168, ld_171, true_and, Nat.reduceAdd, eq_self_iff_true]
