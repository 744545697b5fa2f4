theorem dL_holds_245 : decode cL_holds 245 = .ok (.iconst 3, 1) := by decide +kernel
theorem dL_holds_246 : decode cL_holds 246 = .ok (.iload 9, 2) := by decide +kernel
theorem dL_holds_248 : decode cL_holds 248 = .ok (.bipush 10, 2) := by decide +kernel
theorem dL_holds_250 : decode cL_holds 250 = .ok (.iconst 0, 1) := by decide +kernel
theorem dL_holds_251 : decode cL_holds 251 = .ok (.invokestatic 162, 3) := by decide +kernel
theorem dL_holds_254 : decode cL_holds 254 = .ok (.if_icmp .ne 109, 3) := by decide +kernel
theorem dL_holds_257 : decode cL_holds 257 = .ok (.aload_n 0, 1) := by decide +kernel
theorem dL_holds_258 : decode cL_holds 258 = .ok (.iconst 3, 1) := by decide +kernel
theorem dL_holds_259 : decode cL_holds 259 = .ok (.iload 9, 2) := by decide +kernel
theorem dL_holds_261 : decode cL_holds 261 = .ok (.bipush 7, 2) := by decide +kernel
theorem dL_holds_263 : decode cL_holds 263 = .ok (.iconst 0, 1) := by decide +kernel
theorem dL_holds_264 : decode cL_holds 264 = .ok (.invokestatic 162, 3) := by decide +kernel
theorem dL_holds_267 : decode cL_holds 267 = .ok (.iconst 1, 1) := by decide +kernel
theorem dL_holds_268 : decode cL_holds 268 = .ok (.if_icmp .lt 95, 3) := by decide +kernel
theorem dL_holds_271 : decode cL_holds 271 = .ok (.aload_n 0, 1) := by decide +kernel
theorem dL_holds_272 : decode cL_holds 272 = .ok (.iconst 3, 1) := by decide +kernel
theorem dL_holds_273 : decode cL_holds 273 = .ok (.iload 9, 2) := by decide +kernel
theorem dL_holds_275 : decode cL_holds 275 = .ok (.bipush 7, 2) := by decide +kernel
theorem dL_holds_277 : decode cL_holds 277 = .ok (.iconst 0, 1) := by decide +kernel
theorem dL_holds_278 : decode cL_holds 278 = .ok (.invokestatic 162, 3) := by decide +kernel
theorem dL_holds_281 : decode cL_holds 281 = .ok (.aload_n 0, 1) := by decide +kernel
theorem dL_holds_282 : decode cL_holds 282 = .ok (.iconst 3, 1) := by decide +kernel
theorem dL_holds_283 : decode cL_holds 283 = .ok (.iload 9, 2) := by decide +kernel
theorem dL_holds_285 : decode cL_holds 285 = .ok (.bipush 8, 2) := by decide +kernel
theorem dL_holds_287 : decode cL_holds 287 = .ok (.iconst 0, 1) := by decide +kernel
theorem dL_holds_288 : decode cL_holds 288 = .ok (.invokestatic 162, 3) := by decide +kernel
theorem dL_holds_291 : decode cL_holds 291 = .ok (.if_icmp .gt 72, 3) := by decide +kernel
theorem dL_holds_294 : decode cL_holds 294 = .ok (.aload_n 0, 1) := by decide +kernel
theorem dL_holds_295 : decode cL_holds 295 = .ok (.iconst 3, 1) := by decide +kernel
theorem dL_holds_296 : decode cL_holds 296 = .ok (.iload 9, 2) := by decide +kernel
theorem dL_holds_298 : decode cL_holds 298 = .ok (.bipush 8, 2) := by decide +kernel
theorem dL_holds_300 : decode cL_holds 300 = .ok (.iconst 0, 1) := by decide +kernel
theorem dL_holds_301 : decode cL_holds 301 = .ok (.invokestatic 162, 3) := by decide +kernel
theorem dL_holds_304 : decode cL_holds 304 = .ok (.sipush 999, 3) := by decide +kernel
theorem dL_holds_307 : decode cL_holds 307 = .ok (.if_icmp .gt 56, 3) := by decide +kernel
theorem dL_holds_310 : decode cL_holds 310 = .ok (.aload_n 0, 1) := by decide +kernel
theorem dL_holds_311 : decode cL_holds 311 = .ok (.iconst 3, 1) := by decide +kernel
theorem dL_holds_312 : decode cL_holds 312 = .ok (.iload 9, 2) := by decide +kernel
theorem dL_holds_314 : decode cL_holds 314 = .ok (.bipush 9, 2) := by decide +kernel
theorem dL_holds_316 : decode cL_holds 316 = .ok (.iconst 0, 1) := by decide +kernel
theorem dL_holds_317 : decode cL_holds 317 = .ok (.invokestatic 162, 3) := by decide +kernel
theorem dL_holds_320 : decode cL_holds 320 = .ok (.aload_n 0, 1) := by decide +kernel
theorem dL_holds_321 : decode cL_holds 321 = .ok (.iconst 4, 1) := by decide +kernel
theorem dL_holds_322 : decode cL_holds 322 = .ok (.aload_n 0, 1) := by decide +kernel
theorem dL_holds_323 : decode cL_holds 323 = .ok (.iconst 3, 1) := by decide +kernel
theorem dL_holds_324 : decode cL_holds 324 = .ok (.iload 9, 2) := by decide +kernel
theorem dL_holds_326 : decode cL_holds 326 = .ok (.iconst 1, 1) := by decide +kernel
theorem dL_holds_327 : decode cL_holds 327 = .ok (.iconst 0, 1) := by decide +kernel
theorem dL_holds_328 : decode cL_holds 328 = .ok (.invokestatic 162, 3) := by decide +kernel
theorem dL_holds_331 : decode cL_holds 331 = .ok (.iconst 0, 1) := by decide +kernel
theorem dL_holds_332 : decode cL_holds 332 = .ok (.iconst 0, 1) := by decide +kernel
theorem dL_holds_333 : decode cL_holds 333 = .ok (.invokestatic 162, 3) := by decide +kernel
theorem dL_holds_336 : decode cL_holds 336 = .ok (.iload 11, 2) := by decide +kernel
theorem dL_holds_338 : decode cL_holds 338 = .ok (.iconst 2, 1) := by decide +kernel
theorem dL_holds_339 : decode cL_holds 339 = .ok (.if_icmp .ge 15, 3) := by decide +kernel
theorem dL_holds_342 : decode cL_holds 342 = .ok (.aload_n 0, 1) := by decide +kernel
theorem dL_holds_343 : decode cL_holds 343 = .ok (.bipush 8, 2) := by decide +kernel
theorem dL_holds_345 : decode cL_holds 345 = .ok (.iconst 0, 1) := by decide +kernel
theorem dL_holds_346 : decode cL_holds 346 = .ok (.iconst 0, 1) := by decide +kernel
theorem dL_holds_347 : decode cL_holds 347 = .ok (.iconst 0, 1) := by decide +kernel
theorem dL_holds_348 : decode cL_holds 348 = .ok (.invokestatic 162, 3) := by decide +kernel
theorem dL_holds_351 : decode cL_holds 351 = .ok (.goto 4, 3) := by decide +kernel
theorem dL_holds_354 : decode cL_holds 354 = .ok (.iconst 0, 1) := by decide +kernel
theorem dL_holds_355 : decode cL_holds 355 = .ok (.iadd, 1) := by decide +kernel
theorem dL_holds_356 : decode cL_holds 356 = .ok (.if_icmp .ne 7, 3) := by decide +kernel
theorem dL_holds_359 : decode cL_holds 359 = .ok (.iconst 1, 1) := by decide +kernel
theorem dL_holds_360 : decode cL_holds 360 = .ok (.goto 4, 3) := by decide +kernel
theorem dL_holds_363 : decode cL_holds 363 = .ok (.iconst 0, 1) := by decide +kernel
theorem dL_holds_364 : decode cL_holds 364 = .ok (.istore 8, 2) := by decide +kernel
theorem dL_holds_366 : decode cL_holds 366 = .ok (.iinc 9 1, 3) := by decide +kernel
theorem dL_holds_369 : decode cL_holds 369 = .ok (.goto (-318), 3) := by decide +kernel
theorem dL_holds_372 : decode cL_holds 372 = .ok (.iconst 0, 1) := by decide +kernel
theorem dL_holds_373 : decode cL_holds 373 = .ok (.istore 9, 2) := by decide +kernel
theorem dL_holds_375 : decode cL_holds 375 = .ok (.iconst 0, 1) := by decide +kernel
theorem dL_holds_376 : decode cL_holds 376 = .ok (.istore 10, 2) := by decide +kernel
theorem dL_holds_378 : decode cL_holds 378 = .ok (.iload 10, 2) := by decide +kernel
theorem dL_holds_380 : decode cL_holds 380 = .ok (.bipush 6, 2) := by decide +kernel
theorem dL_holds_382 : decode cL_holds 382 = .ok (.if_icmp .ge 117, 3) := by decide +kernel
theorem dL_holds_385 : decode cL_holds 385 = .ok (.iload 8, 2) := by decide +kernel
theorem dL_holds_387 : decode cL_holds 387 = .ok (.ifCond .eq 112, 3) := by decide +kernel
theorem dL_holds_390 : decode cL_holds 390 = .ok (.iload 6, 2) := by decide +kernel
theorem dL_holds_392 : decode cL_holds 392 = .ok (.aload_n 0, 1) := by decide +kernel
theorem dL_holds_393 : decode cL_holds 393 = .ok (.iconst 4, 1) := by decide +kernel
theorem dL_holds_394 : decode cL_holds 394 = .ok (.iload 10, 2) := by decide +kernel
theorem dL_holds_396 : decode cL_holds 396 = .ok (.iconst 0, 1) := by decide +kernel
theorem dL_holds_397 : decode cL_holds 397 = .ok (.iconst 0, 1) := by decide +kernel
theorem dL_holds_398 : decode cL_holds 398 = .ok (.invokestatic 162, 3) := by decide +kernel
theorem dL_holds_401 : decode cL_holds 401 = .ok (.iadd, 1) := by decide +kernel
theorem dL_holds_402 : decode cL_holds 402 = .ok (.istore 6, 2) := by decide +kernel
theorem dL_holds_404 : decode cL_holds 404 = .ok (.iload 7, 2) := by decide +kernel
theorem dL_holds_406 : decode cL_holds 406 = .ok (.aload_n 0, 1) := by decide +kernel
theorem dL_holds_407 : decode cL_holds 407 = .ok (.iconst 4, 1) := by decide +kernel
theorem dL_holds_408 : decode cL_holds 408 = .ok (.iload 10, 2) := by decide +kernel
theorem dL_holds_410 : decode cL_holds 410 = .ok (.iconst 1, 1) := by decide +kernel
theorem dL_holds_411 : decode cL_holds 411 = .ok (.iconst 0, 1) := by decide +kernel
theorem dL_holds_412 : decode cL_holds 412 = .ok (.invokestatic 162, 3) := by decide +kernel
theorem dL_holds_415 : decode cL_holds 415 = .ok (.iadd, 1) := by decide +kernel
theorem dL_holds_416 : decode cL_holds 416 = .ok (.istore 7, 2) := by decide +kernel
theorem dL_holds_418 : decode cL_holds 418 = .ok (.iload 4, 2) := by decide +kernel
theorem dL_holds_420 : decode cL_holds 420 = .ok (.aload_n 0, 1) := by decide +kernel
theorem dL_holds_421 : decode cL_holds 421 = .ok (.iconst 4, 1) := by decide +kernel
theorem dL_holds_422 : decode cL_holds 422 = .ok (.iload 10, 2) := by decide +kernel
theorem dL_holds_424 : decode cL_holds 424 = .ok (.iconst 2, 1) := by decide +kernel
theorem dL_holds_425 : decode cL_holds 425 = .ok (.iconst 0, 1) := by decide +kernel
theorem dL_holds_426 : decode cL_holds 426 = .ok (.invokestatic 162, 3) := by decide +kernel
theorem dL_holds_429 : decode cL_holds 429 = .ok (.iadd, 1) := by decide +kernel
theorem dL_holds_430 : decode cL_holds 430 = .ok (.istore 4, 2) := by decide +kernel
theorem dL_holds_432 : decode cL_holds 432 = .ok (.iload 5, 2) := by decide +kernel
theorem dL_holds_434 : decode cL_holds 434 = .ok (.aload_n 0, 1) := by decide +kernel
theorem dL_holds_435 : decode cL_holds 435 = .ok (.iconst 4, 1) := by decide +kernel
theorem dL_holds_436 : decode cL_holds 436 = .ok (.iload 10, 2) := by decide +kernel
theorem dL_holds_438 : decode cL_holds 438 = .ok (.iconst 3, 1) := by decide +kernel
theorem dL_holds_439 : decode cL_holds 439 = .ok (.iconst 0, 1) := by decide +kernel
theorem dL_holds_440 : decode cL_holds 440 = .ok (.invokestatic 162, 3) := by decide +kernel
theorem dL_holds_443 : decode cL_holds 443 = .ok (.iadd, 1) := by decide +kernel
theorem dL_holds_444 : decode cL_holds 444 = .ok (.istore 5, 2) := by decide +kernel
theorem dL_holds_446 : decode cL_holds 446 = .ok (.iload 9, 2) := by decide +kernel
theorem dL_holds_448 : decode cL_holds 448 = .ok (.aload_n 0, 1) := by decide +kernel
theorem dL_holds_449 : decode cL_holds 449 = .ok (.iconst 4, 1) := by decide +kernel
theorem dL_holds_450 : decode cL_holds 450 = .ok (.iload 10, 2) := by decide +kernel
theorem dL_holds_452 : decode cL_holds 452 = .ok (.iconst 4, 1) := by decide +kernel
theorem dL_holds_453 : decode cL_holds 453 = .ok (.iconst 0, 1) := by decide +kernel
theorem dL_holds_454 : decode cL_holds 454 = .ok (.invokestatic 162, 3) := by decide +kernel
theorem dL_holds_457 : decode cL_holds 457 = .ok (.iadd, 1) := by decide +kernel
theorem dL_holds_458 : decode cL_holds 458 = .ok (.istore 9, 2) := by decide +kernel
theorem dL_holds_460 : decode cL_holds 460 = .ok (.aload_n 0, 1) := by decide +kernel
theorem dL_holds_461 : decode cL_holds 461 = .ok (.iconst 4, 1) := by decide +kernel
theorem dL_holds_462 : decode cL_holds 462 = .ok (.iload 10, 2) := by decide +kernel
theorem dL_holds_464 : decode cL_holds 464 = .ok (.iconst 0, 1) := by decide +kernel
theorem dL_holds_465 : decode cL_holds 465 = .ok (.iconst 0, 1) := by decide +kernel
theorem dL_holds_466 : decode cL_holds 466 = .ok (.invokestatic 162, 3) := by decide +kernel
theorem dL_holds_469 : decode cL_holds 469 = .ok (.ifCond .lt 21, 3) := by decide +kernel
theorem dL_holds_472 : decode cL_holds 472 = .ok (.aload_n 0, 1) := by decide +kernel
theorem dL_holds_473 : decode cL_holds 473 = .ok (.iconst 4, 1) := by decide +kernel
theorem dL_holds_474 : decode cL_holds 474 = .ok (.iload 10, 2) := by decide +kernel
theorem dL_holds_476 : decode cL_holds 476 = .ok (.iconst 0, 1) := by decide +kernel
theorem dL_holds_477 : decode cL_holds 477 = .ok (.iconst 0, 1) := by decide +kernel
theorem dL_holds_478 : decode cL_holds 478 = .ok (.invokestatic 162, 3) := by decide +kernel
theorem dL_holds_481 : decode cL_holds 481 = .ok (.bipush 9, 2) := by decide +kernel
theorem dL_holds_483 : decode cL_holds 483 = .ok (.if_icmp .gt 7, 3) := by decide +kernel
theorem dL_holds_486 : decode cL_holds 486 = .ok (.iconst 1, 1) := by decide +kernel
theorem dL_holds_487 : decode cL_holds 487 = .ok (.goto 4, 3) := by decide +kernel
theorem dL_holds_490 : decode cL_holds 490 = .ok (.iconst 0, 1) := by decide +kernel
theorem dL_holds_491 : decode cL_holds 491 = .ok (.istore 8, 2) := by decide +kernel
theorem dL_holds_493 : decode cL_holds 493 = .ok (.iinc 10 1, 3) := by decide +kernel
theorem dL_holds_496 : decode cL_holds 496 = .ok (.goto (-118), 3) := by decide +kernel
theorem dL_holds_499 : decode cL_holds 499 = .ok (.iconst 0, 1) := by decide +kernel
theorem dL_holds_500 : decode cL_holds 500 = .ok (.istore 10, 2) := by decide +kernel
theorem dL_holds_502 : decode cL_holds 502 = .ok (.iload 10, 2) := by decide +kernel
theorem dL_holds_504 : decode cL_holds 504 = .ok (.iconst 3, 1) := by decide +kernel
theorem dL_holds_505 : decode cL_holds 505 = .ok (.if_icmp .ge 352, 3) := by decide +kernel
theorem dL_holds_508 : decode cL_holds 508 = .ok (.iload 8, 2) := by decide +kernel
theorem dL_holds_510 : decode cL_holds 510 = .ok (.ifCond .eq 347, 3) := by decide +kernel
theorem dL_holds_513 : decode cL_holds 513 = .ok (.aload_n 0, 1) := by decide +kernel
theorem dL_holds_514 : decode cL_holds 514 = .ok (.bipush 7, 2) := by decide +kernel
theorem dL_holds_516 : decode cL_holds 516 = .ok (.iload 10, 2) := by decide +kernel
theorem dL_holds_518 : decode cL_holds 518 = .ok (.iconst 0, 1) := by decide +kernel
theorem dL_holds_519 : decode cL_holds 519 = .ok (.iconst 0, 1) := by decide +kernel
theorem dL_holds_520 : decode cL_holds 520 = .ok (.invokestatic 162, 3) := by decide +kernel
theorem dL_holds_523 : decode cL_holds 523 = .ok (.istore 11, 2) := by decide +kernel
theorem dL_holds_525 : decode cL_holds 525 = .ok (.aload_n 0, 1) := by decide +kernel
theorem dL_holds_526 : decode cL_holds 526 = .ok (.bipush 7, 2) := by decide +kernel
theorem dL_holds_528 : decode cL_holds 528 = .ok (.iload 10, 2) := by decide +kernel
theorem dL_holds_530 : decode cL_holds 530 = .ok (.iconst 1, 1) := by decide +kernel
theorem dL_holds_531 : decode cL_holds 531 = .ok (.iconst 0, 1) := by decide +kernel
theorem dL_holds_532 : decode cL_holds 532 = .ok (.invokestatic 162, 3) := by decide +kernel
theorem dL_holds_535 : decode cL_holds 535 = .ok (.istore 12, 2) := by decide +kernel
theorem dL_holds_537 : decode cL_holds 537 = .ok (.aload_n 0, 1) := by decide +kernel
theorem dL_holds_538 : decode cL_holds 538 = .ok (.bipush 7, 2) := by decide +kernel
theorem dL_holds_540 : decode cL_holds 540 = .ok (.iload 10, 2) := by decide +kernel
theorem dL_holds_542 : decode cL_holds 542 = .ok (.iconst 2, 1) := by decide +kernel
theorem dL_holds_543 : decode cL_holds 543 = .ok (.iconst 0, 1) := by decide +kernel
theorem dL_holds_544 : decode cL_holds 544 = .ok (.invokestatic 162, 3) := by decide +kernel
theorem dL_holds_547 : decode cL_holds 547 = .ok (.istore 13, 2) := by decide +kernel
theorem dL_holds_549 : decode cL_holds 549 = .ok (.iconst 1, 1) := by decide +kernel
theorem dL_holds_550 : decode cL_holds 550 = .ok (.iload_n 1, 1) := by decide +kernel
theorem dL_holds_551 : decode cL_holds 551 = .ok (.sipush 999, 3) := by decide +kernel
theorem dL_holds_554 : decode cL_holds 554 = .ok (.irem, 1) := by decide +kernel
theorem dL_holds_555 : decode cL_holds 555 = .ok (.iadd, 1) := by decide +kernel
theorem dL_holds_556 : decode cL_holds 556 = .ok (.istore 14, 2) := by decide +kernel
theorem dL_holds_558 : decode cL_holds 558 = .ok (.aload_n 0, 1) := by decide +kernel
theorem dL_holds_559 : decode cL_holds 559 = .ok (.bipush 6, 2) := by decide +kernel
theorem dL_holds_561 : decode cL_holds 561 = .ok (.iload 10, 2) := by decide +kernel
theorem dL_holds_563 : decode cL_holds 563 = .ok (.iload 14, 2) := by decide +kernel
theorem dL_holds_565 : decode cL_holds 565 = .ok (.iconst 0, 1) := by decide +kernel
theorem dL_holds_566 : decode cL_holds 566 = .ok (.invokestatic 162, 3) := by decide +kernel
theorem dL_holds_569 : decode cL_holds 569 = .ok (.istore 15, 2) := by decide +kernel
theorem dL_holds_571 : decode cL_holds 571 = .ok (.aload_n 0, 1) := by decide +kernel
theorem dL_holds_572 : decode cL_holds 572 = .ok (.bipush 15, 2) := by decide +kernel
theorem dL_holds_574 : decode cL_holds 574 = .ok (.iload 10, 2) := by decide +kernel
theorem dL_holds_576 : decode cL_holds 576 = .ok (.iconst 0, 1) := by decide +kernel
theorem dL_holds_577 : decode cL_holds 577 = .ok (.iconst 0, 1) := by decide +kernel
theorem dL_holds_578 : decode cL_holds 578 = .ok (.invokestatic 162, 3) := by decide +kernel
theorem dL_holds_581 : decode cL_holds 581 = .ok (.istore 16, 2) := by decide +kernel
theorem dL_holds_583 : decode cL_holds 583 = .ok (.iload 11, 2) := by decide +kernel
theorem dL_holds_585 : decode cL_holds 585 = .ok (.aload_n 0, 1) := by decide +kernel
theorem dL_holds_586 : decode cL_holds 586 = .ok (.bipush 7, 2) := by decide +kernel
theorem dL_holds_588 : decode cL_holds 588 = .ok (.iload 10, 2) := by decide +kernel
theorem dL_holds_590 : decode cL_holds 590 = .ok (.iconst 0, 1) := by decide +kernel
theorem dL_holds_591 : decode cL_holds 591 = .ok (.iconst 1, 1) := by decide +kernel
theorem dL_holds_592 : decode cL_holds 592 = .ok (.invokestatic 162, 3) := by decide +kernel
theorem dL_holds_595 : decode cL_holds 595 = .ok (.if_icmp .ne 253, 3) := by decide +kernel
theorem dL_holds_598 : decode cL_holds 598 = .ok (.iload 12, 2) := by decide +kernel
theorem dL_holds_600 : decode cL_holds 600 = .ok (.aload_n 0, 1) := by decide +kernel
theorem dL_holds_601 : decode cL_holds 601 = .ok (.bipush 7, 2) := by decide +kernel
theorem dL_holds_603 : decode cL_holds 603 = .ok (.iload 10, 2) := by decide +kernel
theorem dL_holds_605 : decode cL_holds 605 = .ok (.iconst 1, 1) := by decide +kernel
theorem dL_holds_606 : decode cL_holds 606 = .ok (.iconst 1, 1) := by decide +kernel
theorem dL_holds_607 : decode cL_holds 607 = .ok (.invokestatic 162, 3) := by decide +kernel
theorem dL_holds_610 : decode cL_holds 610 = .ok (.if_icmp .ne 238, 3) := by decide +kernel
theorem dL_holds_613 : decode cL_holds 613 = .ok (.iload 13, 2) := by decide +kernel
theorem dL_holds_615 : decode cL_holds 615 = .ok (.aload_n 0, 1) := by decide +kernel
theorem dL_holds_616 : decode cL_holds 616 = .ok (.bipush 7, 2) := by decide +kernel
theorem dL_holds_618 : decode cL_holds 618 = .ok (.iload 10, 2) := by decide +kernel
theorem dL_holds_620 : decode cL_holds 620 = .ok (.iconst 2, 1) := by decide +kernel
theorem dL_holds_621 : decode cL_holds 621 = .ok (.iconst 1, 1) := by decide +kernel
theorem dL_holds_622 : decode cL_holds 622 = .ok (.invokestatic 162, 3) := by decide +kernel
theorem dL_holds_625 : decode cL_holds 625 = .ok (.if_icmp .ne 223, 3) := by decide +kernel
theorem dL_holds_628 : decode cL_holds 628 = .ok (.iload 11, 2) := by decide +kernel
theorem dL_holds_630 : decode cL_holds 630 = .ok (.iconst 1, 1) := by decide +kernel
theorem dL_holds_631 : decode cL_holds 631 = .ok (.if_icmp .lt 217, 3) := by decide +kernel
theorem dL_holds_634 : decode cL_holds 634 = .ok (.iload 11, 2) := by decide +kernel
theorem dL_holds_636 : decode cL_holds 636 = .ok (.iload 12, 2) := by decide +kernel
theorem dL_holds_638 : decode cL_holds 638 = .ok (.if_icmp .gt 210, 3) := by decide +kernel
theorem dL_holds_641 : decode cL_holds 641 = .ok (.iload 12, 2) := by decide +kernel
theorem dL_holds_643 : decode cL_holds 643 = .ok (.sipush 999, 3) := by decide +kernel
theorem dL_holds_646 : decode cL_holds 646 = .ok (.if_icmp .gt 202, 3) := by decide +kernel
theorem dL_holds_649 : decode cL_holds 649 = .ok (.aload_n 0, 1) := by decide +kernel
theorem dL_holds_650 : decode cL_holds 650 = .ok (.bipush 6, 2) := by decide +kernel
theorem dL_holds_652 : decode cL_holds 652 = .ok (.iload 10, 2) := by decide +kernel
theorem dL_holds_654 : decode cL_holds 654 = .ok (.iload 11, 2) := by decide +kernel
theorem dL_holds_656 : decode cL_holds 656 = .ok (.iconst 0, 1) := by decide +kernel
theorem dL_holds_657 : decode cL_holds 657 = .ok (.invokestatic 162, 3) := by decide +kernel
theorem dL_holds_660 : decode cL_holds 660 = .ok (.iload 13, 2) := by decide +kernel
theorem dL_holds_662 : decode cL_holds 662 = .ok (.if_icmp .ne 186, 3) := by decide +kernel
theorem dL_holds_665 : decode cL_holds 665 = .ok (.aload_n 0, 1) := by decide +kernel
theorem dL_holds_666 : decode cL_holds 666 = .ok (.bipush 6, 2) := by decide +kernel
theorem dL_holds_668 : decode cL_holds 668 = .ok (.iload 10, 2) := by decide +kernel
theorem dL_holds_670 : decode cL_holds 670 = .ok (.iload 12, 2) := by decide +kernel
theorem dL_holds_672 : decode cL_holds 672 = .ok (.iconst 0, 1) := by decide +kernel
theorem dL_holds_673 : decode cL_holds 673 = .ok (.invokestatic 162, 3) := by decide +kernel
theorem dL_holds_676 : decode cL_holds 676 = .ok (.iload 13, 2) := by decide +kernel
theorem dL_holds_678 : decode cL_holds 678 = .ok (.if_icmp .ne 170, 3) := by decide +kernel
theorem dL_holds_681 : decode cL_holds 681 = .ok (.iload 15, 2) := by decide +kernel
theorem dL_holds_683 : decode cL_holds 683 = .ok (.iload 13, 2) := by decide +kernel
theorem dL_holds_685 : decode cL_holds 685 = .ok (.if_icmp .lt 17, 3) := by decide +kernel
theorem dL_holds_688 : decode cL_holds 688 = .ok (.iload 15, 2) := by decide +kernel
theorem dL_holds_690 : decode cL_holds 690 = .ok (.iload 13, 2) := by decide +kernel
theorem dL_holds_692 : decode cL_holds 692 = .ok (.if_icmp .ne 156, 3) := by decide +kernel
theorem dL_holds_695 : decode cL_holds 695 = .ok (.iload 14, 2) := by decide +kernel
theorem dL_holds_697 : decode cL_holds 697 = .ok (.iload 11, 2) := by decide +kernel
theorem dL_holds_699 : decode cL_holds 699 = .ok (.if_icmp .lt 149, 3) := by decide +kernel
theorem dL_holds_702 : decode cL_holds 702 = .ok (.iload 14, 2) := by decide +kernel
theorem dL_holds_704 : decode cL_holds 704 = .ok (.iload 11, 2) := by decide +kernel
theorem dL_holds_706 : decode cL_holds 706 = .ok (.if_icmp .lt 17, 3) := by decide +kernel
theorem dL_holds_709 : decode cL_holds 709 = .ok (.iload 14, 2) := by decide +kernel
theorem dL_holds_711 : decode cL_holds 711 = .ok (.iload 12, 2) := by decide +kernel
theorem dL_holds_713 : decode cL_holds 713 = .ok (.if_icmp .gt 10, 3) := by decide +kernel
theorem dL_holds_716 : decode cL_holds 716 = .ok (.iload 15, 2) := by decide +kernel
theorem dL_holds_718 : decode cL_holds 718 = .ok (.iload 13, 2) := by decide +kernel
theorem dL_holds_720 : decode cL_holds 720 = .ok (.if_icmp .ne 128, 3) := by decide +kernel
theorem dL_holds_723 : decode cL_holds 723 = .ok (.iload 12, 2) := by decide +kernel
theorem dL_holds_725 : decode cL_holds 725 = .ok (.sipush 999, 3) := by decide +kernel
theorem dL_holds_728 : decode cL_holds 728 = .ok (.if_icmp .eq 21, 3) := by decide +kernel
theorem dL_holds_731 : decode cL_holds 731 = .ok (.aload_n 0, 1) := by decide +kernel
theorem dL_holds_732 : decode cL_holds 732 = .ok (.bipush 6, 2) := by decide +kernel
theorem dL_holds_734 : decode cL_holds 734 = .ok (.iload 10, 2) := by decide +kernel
theorem dL_holds_736 : decode cL_holds 736 = .ok (.iload 12, 2) := by decide +kernel
theorem dL_holds_738 : decode cL_holds 738 = .ok (.iconst 1, 1) := by decide +kernel
theorem dL_holds_739 : decode cL_holds 739 = .ok (.iadd, 1) := by decide +kernel
theorem dL_holds_740 : decode cL_holds 740 = .ok (.iconst 0, 1) := by decide +kernel
theorem dL_holds_741 : decode cL_holds 741 = .ok (.invokestatic 162, 3) := by decide +kernel
theorem dL_holds_744 : decode cL_holds 744 = .ok (.iload 13, 2) := by decide +kernel
theorem dL_holds_746 : decode cL_holds 746 = .ok (.if_icmp .ge 102, 3) := by decide +kernel
theorem dL_holds_749 : decode cL_holds 749 = .ok (.iload 13, 2) := by decide +kernel
theorem dL_holds_751 : decode cL_holds 751 = .ok (.aload_n 0, 1) := by decide +kernel
theorem dL_holds_752 : decode cL_holds 752 = .ok (.iconst 5, 1) := by decide +kernel
theorem dL_holds_753 : decode cL_holds 753 = .ok (.iload 10, 2) := by decide +kernel
theorem dL_holds_755 : decode cL_holds 755 = .ok (.iconst 2, 1) := by decide +kernel
theorem dL_holds_756 : decode cL_holds 756 = .ok (.iconst 0, 1) := by decide +kernel
theorem dL_holds_757 : decode cL_holds 757 = .ok (.invokestatic 162, 3) := by decide +kernel
theorem dL_holds_760 : decode cL_holds 760 = .ok (.if_icmp .gt 88, 3) := by decide +kernel
theorem dL_holds_763 : decode cL_holds 763 = .ok (.iload 16, 2) := by decide +kernel
theorem dL_holds_765 : decode cL_holds 765 = .ok (.iconst (-1), 1) := by decide +kernel
theorem dL_holds_766 : decode cL_holds 766 = .ok (.if_icmp .eq 47, 3) := by decide +kernel
theorem dL_holds_769 : decode cL_holds 769 = .ok (.aload_n 0, 1) := by decide +kernel
theorem dL_holds_770 : decode cL_holds 770 = .ok (.iconst 3, 1) := by decide +kernel
theorem dL_holds_771 : decode cL_holds 771 = .ok (.iload 16, 2) := by decide +kernel
theorem dL_holds_773 : decode cL_holds 773 = .ok (.iconst 0, 1) := by decide +kernel
theorem dL_holds_774 : decode cL_holds 774 = .ok (.iconst 0, 1) := by decide +kernel
theorem dL_holds_775 : decode cL_holds 775 = .ok (.invokestatic 162, 3) := by decide +kernel
theorem dL_holds_778 : decode cL_holds 778 = .ok (.iload 10, 2) := by decide +kernel
theorem dL_holds_780 : decode cL_holds 780 = .ok (.if_icmp .ne 68, 3) := by decide +kernel
theorem dL_holds_783 : decode cL_holds 783 = .ok (.aload_n 0, 1) := by decide +kernel
theorem dL_holds_784 : decode cL_holds 784 = .ok (.iconst 3, 1) := by decide +kernel
theorem dL_holds_785 : decode cL_holds 785 = .ok (.iload 16, 2) := by decide +kernel
theorem dL_holds_787 : decode cL_holds 787 = .ok (.bipush 7, 2) := by decide +kernel
theorem dL_holds_789 : decode cL_holds 789 = .ok (.iconst 0, 1) := by decide +kernel
theorem dL_holds_790 : decode cL_holds 790 = .ok (.invokestatic 162, 3) := by decide +kernel
theorem dL_holds_793 : decode cL_holds 793 = .ok (.iload 11, 2) := by decide +kernel
theorem dL_holds_795 : decode cL_holds 795 = .ok (.if_icmp .gt 18, 3) := by decide +kernel
theorem dL_holds_798 : decode cL_holds 798 = .ok (.aload_n 0, 1) := by decide +kernel
theorem dL_holds_799 : decode cL_holds 799 = .ok (.iconst 3, 1) := by decide +kernel
theorem dL_holds_800 : decode cL_holds 800 = .ok (.iload 16, 2) := by decide +kernel
theorem dL_holds_802 : decode cL_holds 802 = .ok (.bipush 8, 2) := by decide +kernel
theorem dL_holds_804 : decode cL_holds 804 = .ok (.iconst 0, 1) := by decide +kernel
theorem dL_holds_805 : decode cL_holds 805 = .ok (.invokestatic 162, 3) := by decide +kernel
theorem dL_holds_808 : decode cL_holds 808 = .ok (.iload 11, 2) := by decide +kernel
theorem dL_holds_810 : decode cL_holds 810 = .ok (.if_icmp .ge 38, 3) := by decide +kernel
theorem dL_holds_813 : decode cL_holds 813 = .ok (.aload_n 0, 1) := by decide +kernel
theorem dL_holds_814 : decode cL_holds 814 = .ok (.iconst 5, 1) := by decide +kernel
theorem dL_holds_815 : decode cL_holds 815 = .ok (.iload 10, 2) := by decide +kernel
theorem dL_holds_817 : decode cL_holds 817 = .ok (.iconst 0, 1) := by decide +kernel
theorem dL_holds_818 : decode cL_holds 818 = .ok (.iconst 0, 1) := by decide +kernel
theorem dL_holds_819 : decode cL_holds 819 = .ok (.invokestatic 162, 3) := by decide +kernel
theorem dL_holds_822 : decode cL_holds 822 = .ok (.ifCond .gt 22, 3) := by decide +kernel
theorem dL_holds_825 : decode cL_holds 825 = .ok (.iload 11, 2) := by decide +kernel
theorem dL_holds_827 : decode cL_holds 827 = .ok (.iconst 1, 1) := by decide +kernel
theorem dL_holds_828 : decode cL_holds 828 = .ok (.if_icmp .ne 20, 3) := by decide +kernel
theorem dL_holds_831 : decode cL_holds 831 = .ok (.iload 12, 2) := by decide +kernel
theorem dL_holds_833 : decode cL_holds 833 = .ok (.sipush 999, 3) := by decide +kernel
theorem dL_holds_836 : decode cL_holds 836 = .ok (.if_icmp .ne 12, 3) := by decide +kernel
theorem dL_holds_839 : decode cL_holds 839 = .ok (.iload 13, 2) := by decide +kernel
theorem dL_holds_841 : decode cL_holds 841 = .ok (.ifCond .ne 7, 3) := by decide +kernel
theorem dL_holds_844 : decode cL_holds 844 = .ok (.iconst 1, 1) := by decide +kernel
theorem dL_holds_845 : decode cL_holds 845 = .ok (.goto 4, 3) := by decide +kernel
theorem dL_holds_848 : decode cL_holds 848 = .ok (.iconst 0, 1) := by decide +kernel
theorem dL_holds_849 : decode cL_holds 849 = .ok (.istore 8, 2) := by decide +kernel
theorem dL_holds_851 : decode cL_holds 851 = .ok (.iinc 10 1, 3) := by decide +kernel
theorem dL_holds_854 : decode cL_holds 854 = .ok (.goto (-352), 3) := by decide +kernel
theorem dL_holds_857 : decode cL_holds 857 = .ok (.iload 8, 2) := by decide +kernel
theorem dL_holds_859 : decode cL_holds 859 = .ok (.ifCond .eq 153, 3) := by decide +kernel
theorem dL_holds_862 : decode cL_holds 862 = .ok (.iload_n 3, 1) := by decide +kernel
theorem dL_holds_863 : decode cL_holds 863 = .ok (.iconst 2, 1) := by decide +kernel
theorem dL_holds_864 : decode cL_holds 864 = .ok (.aload_n 0, 1) := by decide +kernel
theorem dL_holds_865 : decode cL_holds 865 = .ok (.iconst 2, 1) := by decide +kernel
theorem dL_holds_866 : decode cL_holds 866 = .ok (.iconst 4, 1) := by decide +kernel
theorem dL_holds_867 : decode cL_holds 867 = .ok (.iconst 0, 1) := by decide +kernel
theorem dL_holds_868 : decode cL_holds 868 = .ok (.iconst 0, 1) := by decide +kernel
theorem dL_holds_869 : decode cL_holds 869 = .ok (.invokestatic 162, 3) := by decide +kernel
theorem dL_holds_872 : decode cL_holds 872 = .ok (.imul, 1) := by decide +kernel
theorem dL_holds_873 : decode cL_holds 873 = .ok (.if_icmp .ne 139, 3) := by decide +kernel
theorem dL_holds_876 : decode cL_holds 876 = .ok (.iload 9, 2) := by decide +kernel
theorem dL_holds_878 : decode cL_holds 878 = .ok (.iload_n 3, 1) := by decide +kernel
theorem dL_holds_879 : decode cL_holds 879 = .ok (.if_icmp .ne 133, 3) := by decide +kernel
theorem dL_holds_882 : decode cL_holds 882 = .ok (.aload_n 0, 1) := by decide +kernel
theorem dL_holds_883 : decode cL_holds 883 = .ok (.iconst 2, 1) := by decide +kernel
theorem dL_holds_884 : decode cL_holds 884 = .ok (.iconst 5, 1) := by decide +kernel
theorem dL_holds_885 : decode cL_holds 885 = .ok (.iconst 0, 1) := by decide +kernel
theorem dL_holds_886 : decode cL_holds 886 = .ok (.iconst 0, 1) := by decide +kernel
theorem dL_holds_887 : decode cL_holds 887 = .ok (.invokestatic 162, 3) := by decide +kernel
theorem dL_holds_890 : decode cL_holds 890 = .ok (.aload_n 0, 1) := by decide +kernel
theorem dL_holds_891 : decode cL_holds 891 = .ok (.iconst 2, 1) := by decide +kernel
theorem dL_holds_892 : decode cL_holds 892 = .ok (.iconst 4, 1) := by decide +kernel
theorem dL_holds_893 : decode cL_holds 893 = .ok (.iconst 0, 1) := by decide +kernel
theorem dL_holds_894 : decode cL_holds 894 = .ok (.iconst 0, 1) := by decide +kernel
theorem dL_holds_895 : decode cL_holds 895 = .ok (.invokestatic 162, 3) := by decide +kernel
theorem dL_holds_898 : decode cL_holds 898 = .ok (.if_icmp .gt 114, 3) := by decide +kernel
theorem dL_holds_901 : decode cL_holds 901 = .ok (.iload 6, 2) := by decide +kernel
theorem dL_holds_903 : decode cL_holds 903 = .ok (.aload_n 0, 1) := by decide +kernel
theorem dL_holds_904 : decode cL_holds 904 = .ok (.iconst 2, 1) := by decide +kernel
theorem dL_holds_905 : decode cL_holds 905 = .ok (.bipush 6, 2) := by decide +kernel
theorem dL_holds_907 : decode cL_holds 907 = .ok (.iconst 0, 1) := by decide +kernel
theorem dL_holds_908 : decode cL_holds 908 = .ok (.iconst 0, 1) := by decide +kernel
theorem dL_holds_909 : decode cL_holds 909 = .ok (.invokestatic 162, 3) := by decide +kernel
theorem dL_holds_912 : decode cL_holds 912 = .ok (.if_icmp .ne 100, 3) := by decide +kernel
theorem dL_holds_915 : decode cL_holds 915 = .ok (.iload 4, 2) := by decide +kernel
theorem dL_holds_917 : decode cL_holds 917 = .ok (.aload_n 0, 1) := by decide +kernel
theorem dL_holds_918 : decode cL_holds 918 = .ok (.iconst 2, 1) := by decide +kernel
theorem dL_holds_919 : decode cL_holds 919 = .ok (.bipush 8, 2) := by decide +kernel
theorem dL_holds_921 : decode cL_holds 921 = .ok (.iconst 0, 1) := by decide +kernel
theorem dL_holds_922 : decode cL_holds 922 = .ok (.iconst 0, 1) := by decide +kernel
theorem dL_holds_923 : decode cL_holds 923 = .ok (.invokestatic 162, 3) := by decide +kernel
theorem dL_holds_926 : decode cL_holds 926 = .ok (.if_icmp .ne 86, 3) := by decide +kernel
theorem dL_holds_929 : decode cL_holds 929 = .ok (.iload 5, 2) := by decide +kernel
theorem dL_holds_931 : decode cL_holds 931 = .ok (.aload_n 0, 1) := by decide +kernel
theorem dL_holds_932 : decode cL_holds 932 = .ok (.iconst 2, 1) := by decide +kernel
theorem dL_holds_933 : decode cL_holds 933 = .ok (.bipush 9, 2) := by decide +kernel
theorem dL_holds_935 : decode cL_holds 935 = .ok (.iconst 0, 1) := by decide +kernel
theorem dL_holds_936 : decode cL_holds 936 = .ok (.iconst 0, 1) := by decide +kernel
theorem dL_holds_937 : decode cL_holds 937 = .ok (.invokestatic 162, 3) := by decide +kernel
theorem dL_holds_940 : decode cL_holds 940 = .ok (.if_icmp .ne 72, 3) := by decide +kernel
theorem dL_holds_943 : decode cL_holds 943 = .ok (.iload 7, 2) := by decide +kernel
theorem dL_holds_945 : decode cL_holds 945 = .ok (.iload_n 2, 1) := by decide +kernel
theorem dL_holds_946 : decode cL_holds 946 = .ok (.if_icmp .ne 66, 3) := by decide +kernel
theorem dL_holds_949 : decode cL_holds 949 = .ok (.aload_n 0, 1) := by decide +kernel
theorem dL_holds_950 : decode cL_holds 950 = .ok (.iconst 5, 1) := by decide +kernel
theorem dL_holds_951 : decode cL_holds 951 = .ok (.iconst 0, 1) := by decide +kernel
theorem dL_holds_952 : decode cL_holds 952 = .ok (.iconst 0, 1) := by decide +kernel
theorem dL_holds_953 : decode cL_holds 953 = .ok (.iconst 0, 1) := by decide +kernel
theorem dL_holds_954 : decode cL_holds 954 = .ok (.invokestatic 162, 3) := by decide +kernel
theorem dL_holds_957 : decode cL_holds 957 = .ok (.aload_n 0, 1) := by decide +kernel
theorem dL_holds_958 : decode cL_holds 958 = .ok (.iconst 5, 1) := by decide +kernel
theorem dL_holds_959 : decode cL_holds 959 = .ok (.iconst 1, 1) := by decide +kernel
theorem dL_holds_960 : decode cL_holds 960 = .ok (.iconst 0, 1) := by decide +kernel
theorem dL_holds_961 : decode cL_holds 961 = .ok (.iconst 0, 1) := by decide +kernel
theorem dL_holds_962 : decode cL_holds 962 = .ok (.invokestatic 162, 3) := by decide +kernel
theorem dL_holds_965 : decode cL_holds 965 = .ok (.iadd, 1) := by decide +kernel
theorem dL_holds_966 : decode cL_holds 966 = .ok (.aload_n 0, 1) := by decide +kernel
theorem dL_holds_967 : decode cL_holds 967 = .ok (.iconst 5, 1) := by decide +kernel
theorem dL_holds_968 : decode cL_holds 968 = .ok (.iconst 2, 1) := by decide +kernel
theorem dL_holds_969 : decode cL_holds 969 = .ok (.iconst 0, 1) := by decide +kernel
theorem dL_holds_970 : decode cL_holds 970 = .ok (.iconst 0, 1) := by decide +kernel
theorem dL_holds_971 : decode cL_holds 971 = .ok (.invokestatic 162, 3) := by decide +kernel
theorem dL_holds_974 : decode cL_holds 974 = .ok (.iadd, 1) := by decide +kernel
theorem dL_holds_975 : decode cL_holds 975 = .ok (.iload_n 2, 1) := by decide +kernel
theorem dL_holds_976 : decode cL_holds 976 = .ok (.if_icmp .ne 36, 3) := by decide +kernel
theorem dL_holds_979 : decode cL_holds 979 = .ok (.aload_n 0, 1) := by decide +kernel
theorem dL_holds_980 : decode cL_holds 980 = .ok (.invokevirtual 180, 3) := by decide +kernel
theorem dL_holds_983 : decode cL_holds 983 = .ok (.iconst (-1), 1) := by decide +kernel
theorem dL_holds_984 : decode cL_holds 984 = .ok (.if_icmp .ne 7, 3) := by decide +kernel
theorem dL_holds_987 : decode cL_holds 987 = .ok (.iconst 1, 1) := by decide +kernel
theorem dL_holds_988 : decode cL_holds 988 = .ok (.goto 4, 3) := by decide +kernel
theorem dL_holds_991 : decode cL_holds 991 = .ok (.iconst 0, 1) := by decide +kernel
theorem dL_holds_992 : decode cL_holds 992 = .ok (.iload 4, 2) := by decide +kernel
theorem dL_holds_994 : decode cL_holds 994 = .ok (.iload 5, 2) := by decide +kernel
theorem dL_holds_996 : decode cL_holds 996 = .ok (.iadd, 1) := by decide +kernel
theorem dL_holds_997 : decode cL_holds 997 = .ok (.ifCond .ne 7, 3) := by decide +kernel
theorem dL_holds_1000 : decode cL_holds 1000 = .ok (.iconst 1, 1) := by decide +kernel
theorem dL_holds_1001 : decode cL_holds 1001 = .ok (.goto 4, 3) := by decide +kernel
theorem dL_holds_1004 : decode cL_holds 1004 = .ok (.iconst 0, 1) := by decide +kernel
theorem dL_holds_1005 : decode cL_holds 1005 = .ok (.if_icmp .ne 7, 3) := by decide +kernel
theorem dL_holds_1008 : decode cL_holds 1008 = .ok (.iconst 1, 1) := by decide +kernel
theorem dL_holds_1009 : decode cL_holds 1009 = .ok (.goto 4, 3) := by decide +kernel
theorem dL_holds_1012 : decode cL_holds 1012 = .ok (.iconst 0, 1) := by decide +kernel
theorem dL_holds_1013 : decode cL_holds 1013 = .ok (.ireturn, 1) := by decide +kernel
theorem dL_act_0 : decode cL_act 0 = .ok (.iload_n 1, 1) := by decide +kernel
theorem dL_act_1 : decode cL_act 1 = .ok (.bipush 16, 2) := by decide +kernel
theorem dL_act_3 : decode cL_act 3 = .ok (.idiv, 1) := by decide +kernel
theorem dL_act_4 : decode cL_act 4 = .ok (.istore_n 2, 1) := by decide +kernel
theorem dL_act_5 : decode cL_act 5 = .ok (.aload_n 0, 1) := by decide +kernel
theorem dL_act_6 : decode cL_act 6 = .ok (.iconst 2, 1) := by decide +kernel
theorem dL_act_7 : decode cL_act 7 = .ok (.iconst 0, 1) := by decide +kernel
theorem dL_act_8 : decode cL_act 8 = .ok (.iconst 0, 1) := by decide +kernel
theorem dL_act_9 : decode cL_act 9 = .ok (.iconst 0, 1) := by decide +kernel
theorem dL_act_10 : decode cL_act 10 = .ok (.invokestatic 162, 3) := by decide +kernel
theorem dL_act_13 : decode cL_act 13 = .ok (.istore_n 3, 1) := by decide +kernel
theorem dL_act_14 : decode cL_act 14 = .ok (.iconst 1, 1) := by decide +kernel
theorem dL_act_15 : decode cL_act 15 = .ok (.iload_n 2, 1) := by decide +kernel
theorem dL_act_16 : decode cL_act 16 = .ok (.bipush 18, 2) := by decide +kernel
theorem dL_act_18 : decode cL_act 18 = .ok (.idiv, 1) := by decide +kernel
theorem dL_act_19 : decode cL_act 19 = .ok (.sipush 300, 3) := by decide +kernel
theorem dL_act_22 : decode cL_act 22 = .ok (.irem, 1) := by decide +kernel
theorem dL_act_23 : decode cL_act 23 = .ok (.iadd, 1) := by decide +kernel
theorem dL_act_24 : decode cL_act 24 = .ok (.istore 4, 2) := by decide +kernel
theorem dL_act_26 : decode cL_act 26 = .ok (.iload_n 1, 1) := by decide +kernel
theorem dL_act_27 : decode cL_act 27 = .ok (.bipush 16, 2) := by decide +kernel
theorem dL_act_29 : decode cL_act 29 = .ok (.irem, 1) := by decide +kernel
theorem dL_act_30 : decode cL_act 30 = .ok (.tableswitch 332 0 13 #[70, 70, 122, 174, 174, 174, 174, 204, 224, 243, 243, 248, 286, 296], 70) := by decide +kernel
theorem dL_act_100 : decode cL_act 100 = .ok (.aload_n 0, 1) := by decide +kernel
theorem dL_act_101 : decode cL_act 101 = .ok (.iload_n 2, 1) := by decide +kernel
theorem dL_act_102 : decode cL_act 102 = .ok (.iconst 3, 1) := by decide +kernel
theorem dL_act_103 : decode cL_act 103 = .ok (.irem, 1) := by decide +kernel
theorem dL_act_104 : decode cL_act 104 = .ok (.iload_n 2, 1) := by decide +kernel
theorem dL_act_105 : decode cL_act 105 = .ok (.iconst 3, 1) := by decide +kernel
theorem dL_act_106 : decode cL_act 106 = .ok (.idiv, 1) := by decide +kernel
theorem dL_act_107 : decode cL_act 107 = .ok (.bipush 6, 2) := by decide +kernel
theorem dL_act_109 : decode cL_act 109 = .ok (.irem, 1) := by decide +kernel
theorem dL_act_110 : decode cL_act 110 = .ok (.iconst 0, 1) := by decide +kernel
theorem dL_act_111 : decode cL_act 111 = .ok (.iconst 1, 1) := by decide +kernel
theorem dL_act_112 : decode cL_act 112 = .ok (.iload_n 2, 1) := by decide +kernel
theorem dL_act_113 : decode cL_act 113 = .ok (.bipush 18, 2) := by decide +kernel
theorem dL_act_115 : decode cL_act 115 = .ok (.idiv, 1) := by decide +kernel
theorem dL_act_116 : decode cL_act 116 = .ok (.bipush 20, 2) := by decide +kernel
theorem dL_act_118 : decode cL_act 118 = .ok (.irem, 1) := by decide +kernel
theorem dL_act_119 : decode cL_act 119 = .ok (.iadd, 1) := by decide +kernel
theorem dL_act_120 : decode cL_act 120 = .ok (.iconst 1, 1) := by decide +kernel
theorem dL_act_121 : decode cL_act 121 = .ok (.iload_n 2, 1) := by decide +kernel
theorem dL_act_122 : decode cL_act 122 = .ok (.sipush 360, 3) := by decide +kernel
theorem dL_act_125 : decode cL_act 125 = .ok (.idiv, 1) := by decide +kernel
theorem dL_act_126 : decode cL_act 126 = .ok (.bipush 40, 2) := by decide +kernel
theorem dL_act_128 : decode cL_act 128 = .ok (.irem, 1) := by decide +kernel
theorem dL_act_129 : decode cL_act 129 = .ok (.iadd, 1) := by decide +kernel
theorem dL_act_130 : decode cL_act 130 = .ok (.iconst 1, 1) := by decide +kernel
theorem dL_act_131 : decode cL_act 131 = .ok (.iload_n 2, 1) := by decide +kernel
theorem dL_act_132 : decode cL_act 132 = .ok (.sipush 21600, 3) := by decide +kernel
theorem dL_act_135 : decode cL_act 135 = .ok (.idiv, 1) := by decide +kernel
theorem dL_act_136 : decode cL_act 136 = .ok (.sipush 400, 3) := by decide +kernel
theorem dL_act_139 : decode cL_act 139 = .ok (.irem, 1) := by decide +kernel
theorem dL_act_140 : decode cL_act 140 = .ok (.iadd, 1) := by decide +kernel
theorem dL_act_141 : decode cL_act 141 = .ok (.iload_n 2, 1) := by decide +kernel
theorem dL_act_142 : decode cL_act 142 = .ok (.bipush 7, 2) := by decide +kernel
theorem dL_act_144 : decode cL_act 144 = .ok (.idiv, 1) := by decide +kernel
theorem dL_act_145 : decode cL_act 145 = .ok (.bipush 21, 2) := by decide +kernel
theorem dL_act_147 : decode cL_act 147 = .ok (.irem, 1) := by decide +kernel
theorem dL_act_148 : decode cL_act 148 = .ok (.invokestatic 166, 3) := by decide +kernel
theorem dL_act_151 : decode cL_act 151 = .ok (.ireturn, 1) := by decide +kernel
theorem dL_act_152 : decode cL_act 152 = .ok (.aload_n 0, 1) := by decide +kernel
theorem dL_act_153 : decode cL_act 153 = .ok (.iload_n 2, 1) := by decide +kernel
theorem dL_act_154 : decode cL_act 154 = .ok (.iconst 3, 1) := by decide +kernel
theorem dL_act_155 : decode cL_act 155 = .ok (.irem, 1) := by decide +kernel
theorem dL_act_156 : decode cL_act 156 = .ok (.iload_n 2, 1) := by decide +kernel
theorem dL_act_157 : decode cL_act 157 = .ok (.iconst 3, 1) := by decide +kernel
theorem dL_act_158 : decode cL_act 158 = .ok (.idiv, 1) := by decide +kernel
theorem dL_act_159 : decode cL_act 159 = .ok (.bipush 6, 2) := by decide +kernel
theorem dL_act_161 : decode cL_act 161 = .ok (.irem, 1) := by decide +kernel
theorem dL_act_162 : decode cL_act 162 = .ok (.iconst 1, 1) := by decide +kernel
theorem dL_act_163 : decode cL_act 163 = .ok (.iconst 1, 1) := by decide +kernel
theorem dL_act_164 : decode cL_act 164 = .ok (.iload_n 2, 1) := by decide +kernel
theorem dL_act_165 : decode cL_act 165 = .ok (.bipush 18, 2) := by decide +kernel
theorem dL_act_167 : decode cL_act 167 = .ok (.idiv, 1) := by decide +kernel
theorem dL_act_168 : decode cL_act 168 = .ok (.bipush 9, 2) := by decide +kernel
theorem dL_act_170 : decode cL_act 170 = .ok (.irem, 1) := by decide +kernel
theorem dL_act_171 : decode cL_act 171 = .ok (.iadd, 1) := by decide +kernel
theorem dL_act_172 : decode cL_act 172 = .ok (.iconst 1, 1) := by decide +kernel
theorem dL_act_173 : decode cL_act 173 = .ok (.iload_n 2, 1) := by decide +kernel
theorem dL_act_174 : decode cL_act 174 = .ok (.sipush 360, 3) := by decide +kernel
theorem dL_act_177 : decode cL_act 177 = .ok (.idiv, 1) := by decide +kernel
theorem dL_act_178 : decode cL_act 178 = .ok (.bipush 60, 2) := by decide +kernel
theorem dL_act_180 : decode cL_act 180 = .ok (.irem, 1) := by decide +kernel
theorem dL_act_181 : decode cL_act 181 = .ok (.iadd, 1) := by decide +kernel
theorem dL_act_182 : decode cL_act 182 = .ok (.iconst 1, 1) := by decide +kernel
theorem dL_act_183 : decode cL_act 183 = .ok (.iload_n 2, 1) := by decide +kernel
theorem dL_act_184 : decode cL_act 184 = .ok (.sipush 21600, 3) := by decide +kernel
theorem dL_act_187 : decode cL_act 187 = .ok (.idiv, 1) := by decide +kernel
theorem dL_act_188 : decode cL_act 188 = .ok (.sipush 400, 3) := by decide +kernel
theorem dL_act_191 : decode cL_act 191 = .ok (.irem, 1) := by decide +kernel
theorem dL_act_192 : decode cL_act 192 = .ok (.iadd, 1) := by decide +kernel
theorem dL_act_193 : decode cL_act 193 = .ok (.iload_n 2, 1) := by decide +kernel
theorem dL_act_194 : decode cL_act 194 = .ok (.bipush 7, 2) := by decide +kernel
theorem dL_act_196 : decode cL_act 196 = .ok (.idiv, 1) := by decide +kernel
theorem dL_act_197 : decode cL_act 197 = .ok (.bipush 21, 2) := by decide +kernel
theorem dL_act_199 : decode cL_act 199 = .ok (.irem, 1) := by decide +kernel
theorem dL_act_200 : decode cL_act 200 = .ok (.invokestatic 166, 3) := by decide +kernel
theorem dL_act_203 : decode cL_act 203 = .ok (.ireturn, 1) := by decide +kernel
theorem dL_act_204 : decode cL_act 204 = .ok (.aload_n 0, 1) := by decide +kernel
theorem dL_act_205 : decode cL_act 205 = .ok (.iload_n 2, 1) := by decide +kernel
theorem dL_act_206 : decode cL_act 206 = .ok (.iconst 3, 1) := by decide +kernel
theorem dL_act_207 : decode cL_act 207 = .ok (.irem, 1) := by decide +kernel
theorem dL_act_208 : decode cL_act 208 = .ok (.iload_n 2, 1) := by decide +kernel
theorem dL_act_209 : decode cL_act 209 = .ok (.iconst 3, 1) := by decide +kernel
theorem dL_act_210 : decode cL_act 210 = .ok (.idiv, 1) := by decide +kernel
theorem dL_act_211 : decode cL_act 211 = .ok (.bipush 6, 2) := by decide +kernel
theorem dL_act_213 : decode cL_act 213 = .ok (.irem, 1) := by decide +kernel
theorem dL_act_214 : decode cL_act 214 = .ok (.iconst 2, 1) := by decide +kernel
theorem dL_act_215 : decode cL_act 215 = .ok (.iload 4, 2) := by decide +kernel
theorem dL_act_217 : decode cL_act 217 = .ok (.iload 4, 2) := by decide +kernel
theorem dL_act_219 : decode cL_act 219 = .ok (.iload_n 2, 1) := by decide +kernel
theorem dL_act_220 : decode cL_act 220 = .ok (.sipush 5400, 3) := by decide +kernel
theorem dL_act_223 : decode cL_act 223 = .ok (.idiv, 1) := by decide +kernel
theorem dL_act_224 : decode cL_act 224 = .ok (.bipush 60, 2) := by decide +kernel
theorem dL_act_226 : decode cL_act 226 = .ok (.irem, 1) := by decide +kernel
theorem dL_act_227 : decode cL_act 227 = .ok (.iadd, 1) := by decide +kernel
theorem dL_act_228 : decode cL_act 228 = .ok (.iconst 0, 1) := by decide +kernel
theorem dL_act_229 : decode cL_act 229 = .ok (.iconst 0, 1) := by decide +kernel
theorem dL_act_230 : decode cL_act 230 = .ok (.invokestatic 166, 3) := by decide +kernel
theorem dL_act_233 : decode cL_act 233 = .ok (.ireturn, 1) := by decide +kernel
theorem dL_act_234 : decode cL_act 234 = .ok (.iload_n 3, 1) := by decide +kernel
theorem dL_act_235 : decode cL_act 235 = .ok (.ifCond .ne 7, 3) := by decide +kernel
theorem dL_act_238 : decode cL_act 238 = .ok (.iconst (-1), 1) := by decide +kernel
theorem dL_act_239 : decode cL_act 239 = .ok (.goto 14, 3) := by decide +kernel
theorem dL_act_242 : decode cL_act 242 = .ok (.aload_n 0, 1) := by decide +kernel
theorem dL_act_243 : decode cL_act 243 = .ok (.bipush 9, 2) := by decide +kernel
theorem dL_act_245 : decode cL_act 245 = .ok (.iload_n 2, 1) := by decide +kernel
theorem dL_act_246 : decode cL_act 246 = .ok (.iload_n 3, 1) := by decide +kernel
theorem dL_act_247 : decode cL_act 247 = .ok (.irem, 1) := by decide +kernel
theorem dL_act_248 : decode cL_act 248 = .ok (.iconst 0, 1) := by decide +kernel
theorem dL_act_249 : decode cL_act 249 = .ok (.iconst 0, 1) := by decide +kernel
theorem dL_act_250 : decode cL_act 250 = .ok (.invokestatic 162, 3) := by decide +kernel
theorem dL_act_253 : decode cL_act 253 = .ok (.ireturn, 1) := by decide +kernel
theorem dL_act_254 : decode cL_act 254 = .ok (.aload_n 0, 1) := by decide +kernel
theorem dL_act_255 : decode cL_act 255 = .ok (.bipush 10, 2) := by decide +kernel
theorem dL_act_257 : decode cL_act 257 = .ok (.iload_n 2, 1) := by decide +kernel
theorem dL_act_258 : decode cL_act 258 = .ok (.bipush 6, 2) := by decide +kernel
theorem dL_act_260 : decode cL_act 260 = .ok (.irem, 1) := by decide +kernel
theorem dL_act_261 : decode cL_act 261 = .ok (.iload_n 2, 1) := by decide +kernel
theorem dL_act_262 : decode cL_act 262 = .ok (.bipush 6, 2) := by decide +kernel
theorem dL_act_264 : decode cL_act 264 = .ok (.idiv, 1) := by decide +kernel
theorem dL_act_265 : decode cL_act 265 = .ok (.bipush 10, 2) := by decide +kernel
theorem dL_act_267 : decode cL_act 267 = .ok (.irem, 1) := by decide +kernel
theorem dL_act_268 : decode cL_act 268 = .ok (.iconst 0, 1) := by decide +kernel
theorem dL_act_269 : decode cL_act 269 = .ok (.invokestatic 162, 3) := by decide +kernel
theorem dL_act_272 : decode cL_act 272 = .ok (.ireturn, 1) := by decide +kernel
theorem dL_act_273 : decode cL_act 273 = .ok (.aload_n 0, 1) := by decide +kernel
theorem dL_act_274 : decode cL_act 274 = .ok (.invokevirtual 183, 3) := by decide +kernel
theorem dL_act_277 : decode cL_act 277 = .ok (.ireturn, 1) := by decide +kernel
theorem dL_act_278 : decode cL_act 278 = .ok (.iload_n 2, 1) := by decide +kernel
theorem dL_act_279 : decode cL_act 279 = .ok (.iconst 2, 1) := by decide +kernel
theorem dL_act_280 : decode cL_act 280 = .ok (.irem, 1) := by decide +kernel
theorem dL_act_281 : decode cL_act 281 = .ok (.ifCond .ne 20, 3) := by decide +kernel
theorem dL_act_284 : decode cL_act 284 = .ok (.aload_n 0, 1) := by decide +kernel
theorem dL_act_285 : decode cL_act 285 = .ok (.bipush 12, 2) := by decide +kernel
theorem dL_act_287 : decode cL_act 287 = .ok (.iconst 0, 1) := by decide +kernel
theorem dL_act_288 : decode cL_act 288 = .ok (.iload_n 2, 1) := by decide +kernel
theorem dL_act_289 : decode cL_act 289 = .ok (.iconst 2, 1) := by decide +kernel
theorem dL_act_290 : decode cL_act 290 = .ok (.idiv, 1) := by decide +kernel
theorem dL_act_291 : decode cL_act 291 = .ok (.bipush 6, 2) := by decide +kernel
theorem dL_act_293 : decode cL_act 293 = .ok (.irem, 1) := by decide +kernel
theorem dL_act_294 : decode cL_act 294 = .ok (.iconst 0, 1) := by decide +kernel
theorem dL_act_295 : decode cL_act 295 = .ok (.invokestatic 162, 3) := by decide +kernel
theorem dL_act_298 : decode cL_act 298 = .ok (.goto 17, 3) := by decide +kernel
theorem dL_act_301 : decode cL_act 301 = .ok (.aload_n 0, 1) := by decide +kernel
theorem dL_act_302 : decode cL_act 302 = .ok (.bipush 12, 2) := by decide +kernel
theorem dL_act_304 : decode cL_act 304 = .ok (.iconst 1, 1) := by decide +kernel
theorem dL_act_305 : decode cL_act 305 = .ok (.iload_n 2, 1) := by decide +kernel
theorem dL_act_306 : decode cL_act 306 = .ok (.iconst 2, 1) := by decide +kernel
theorem dL_act_307 : decode cL_act 307 = .ok (.idiv, 1) := by decide +kernel
theorem dL_act_308 : decode cL_act 308 = .ok (.bipush 51, 2) := by decide +kernel
theorem dL_act_310 : decode cL_act 310 = .ok (.irem, 1) := by decide +kernel
theorem dL_act_311 : decode cL_act 311 = .ok (.iconst 0, 1) := by decide +kernel
theorem dL_act_312 : decode cL_act 312 = .ok (.invokestatic 162, 3) := by decide +kernel
theorem dL_act_315 : decode cL_act 315 = .ok (.ireturn, 1) := by decide +kernel
theorem dL_act_316 : decode cL_act 316 = .ok (.aload_n 0, 1) := by decide +kernel
theorem dL_act_317 : decode cL_act 317 = .ok (.bipush 13, 2) := by decide +kernel
theorem dL_act_319 : decode cL_act 319 = .ok (.iconst 0, 1) := by decide +kernel
theorem dL_act_320 : decode cL_act 320 = .ok (.iconst 0, 1) := by decide +kernel
theorem dL_act_321 : decode cL_act 321 = .ok (.iconst 0, 1) := by decide +kernel
theorem dL_act_322 : decode cL_act 322 = .ok (.invokestatic 162, 3) := by decide +kernel
theorem dL_act_325 : decode cL_act 325 = .ok (.ireturn, 1) := by decide +kernel
theorem dL_act_326 : decode cL_act 326 = .ok (.iload_n 2, 1) := by decide +kernel
theorem dL_act_327 : decode cL_act 327 = .ok (.iconst 2, 1) := by decide +kernel
theorem dL_act_328 : decode cL_act 328 = .ok (.irem, 1) := by decide +kernel
theorem dL_act_329 : decode cL_act 329 = .ok (.ifCond .ne 19, 3) := by decide +kernel
theorem dL_act_332 : decode cL_act 332 = .ok (.aload_n 0, 1) := by decide +kernel
theorem dL_act_333 : decode cL_act 333 = .ok (.bipush 18, 2) := by decide +kernel
theorem dL_act_335 : decode cL_act 335 = .ok (.iload_n 2, 1) := by decide +kernel
theorem dL_act_336 : decode cL_act 336 = .ok (.iconst 2, 1) := by decide +kernel
theorem dL_act_337 : decode cL_act 337 = .ok (.idiv, 1) := by decide +kernel
theorem dL_act_338 : decode cL_act 338 = .ok (.iconst 2, 1) := by decide +kernel
theorem dL_act_339 : decode cL_act 339 = .ok (.irem, 1) := by decide +kernel
theorem dL_act_340 : decode cL_act 340 = .ok (.iconst 0, 1) := by decide +kernel
theorem dL_act_341 : decode cL_act 341 = .ok (.iconst 0, 1) := by decide +kernel
theorem dL_act_342 : decode cL_act 342 = .ok (.invokestatic 162, 3) := by decide +kernel
theorem dL_act_345 : decode cL_act 345 = .ok (.goto 16, 3) := by decide +kernel
theorem dL_act_348 : decode cL_act 348 = .ok (.aload_n 0, 1) := by decide +kernel
theorem dL_act_349 : decode cL_act 349 = .ok (.bipush 19, 2) := by decide +kernel
theorem dL_act_351 : decode cL_act 351 = .ok (.iload_n 2, 1) := by decide +kernel
theorem dL_act_352 : decode cL_act 352 = .ok (.iconst 2, 1) := by decide +kernel
theorem dL_act_353 : decode cL_act 353 = .ok (.idiv, 1) := by decide +kernel
theorem dL_act_354 : decode cL_act 354 = .ok (.iconst 2, 1) := by decide +kernel
theorem dL_act_355 : decode cL_act 355 = .ok (.irem, 1) := by decide +kernel
theorem dL_act_356 : decode cL_act 356 = .ok (.iconst 0, 1) := by decide +kernel
theorem dL_act_357 : decode cL_act 357 = .ok (.iconst 0, 1) := by decide +kernel
theorem dL_act_358 : decode cL_act 358 = .ok (.invokestatic 162, 3) := by decide +kernel
theorem dL_act_361 : decode cL_act 361 = .ok (.ireturn, 1) := by decide +kernel
theorem dL_act_362 : decode cL_act 362 = .ok (.aload_n 0, 1) := by decide +kernel
theorem dL_act_363 : decode cL_act 363 = .ok (.bipush 11, 2) := by decide +kernel
theorem dL_act_365 : decode cL_act 365 = .ok (.iload_n 2, 1) := by decide +kernel
theorem dL_act_366 : decode cL_act 366 = .ok (.iconst 3, 1) := by decide +kernel
theorem dL_act_367 : decode cL_act 367 = .ok (.irem, 1) := by decide +kernel
theorem dL_act_368 : decode cL_act 368 = .ok (.iconst 1, 1) := by decide +kernel
theorem dL_act_369 : decode cL_act 369 = .ok (.iload_n 2, 1) := by decide +kernel
theorem dL_act_370 : decode cL_act 370 = .ok (.bipush 18, 2) := by decide +kernel
theorem dL_act_372 : decode cL_act 372 = .ok (.idiv, 1) := by decide +kernel
theorem dL_act_373 : decode cL_act 373 = .ok (.sipush 360, 3) := by decide +kernel
theorem dL_act_376 : decode cL_act 376 = .ok (.irem, 1) := by decide +kernel
theorem dL_act_377 : decode cL_act 377 = .ok (.iadd, 1) := by decide +kernel
theorem dL_act_378 : decode cL_act 378 = .ok (.iconst 0, 1) := by decide +kernel
theorem dL_act_379 : decode cL_act 379 = .ok (.invokestatic 162, 3) := by decide +kernel
theorem dL_act_382 : decode cL_act 382 = .ok (.ireturn, 1) := by decide +kernel
theorem dL_alike_0 : decode cL_alike 0 = .ok (.aload_n 0, 1) := by decide +kernel
theorem dL_alike_1 : decode cL_alike 1 = .ok (.iload_n 2, 1) := by decide +kernel
theorem dL_alike_2 : decode cL_alike 2 = .ok (.i2l, 1) := by decide +kernel
theorem dL_alike_3 : decode cL_alike 3 = .ok (.iconst 1, 1) := by decide +kernel
theorem dL_alike_4 : decode cL_alike 4 = .ok (.iload_n 2, 1) := by decide +kernel
theorem dL_alike_5 : decode cL_alike 5 = .ok (.bipush 60, 2) := by decide +kernel
theorem dL_alike_7 : decode cL_alike 7 = .ok (.irem, 1) := by decide +kernel
theorem dL_alike_8 : decode cL_alike 8 = .ok (.iadd, 1) := by decide +kernel
theorem dL_alike_9 : decode cL_alike 9 = .ok (.invokestatic 176, 3) := by decide +kernel
theorem dL_alike_12 : decode cL_alike 12 = .ok (.aload_n 1, 1) := by decide +kernel
theorem dL_alike_13 : decode cL_alike 13 = .ok (.iload_n 2, 1) := by decide +kernel
theorem dL_alike_14 : decode cL_alike 14 = .ok (.i2l, 1) := by decide +kernel
theorem dL_alike_15 : decode cL_alike 15 = .ok (.iconst 1, 1) := by decide +kernel
theorem dL_alike_16 : decode cL_alike 16 = .ok (.iload_n 2, 1) := by decide +kernel
theorem dL_alike_17 : decode cL_alike 17 = .ok (.bipush 60, 2) := by decide +kernel
theorem dL_alike_19 : decode cL_alike 19 = .ok (.irem, 1) := by decide +kernel
theorem dL_alike_20 : decode cL_alike 20 = .ok (.iadd, 1) := by decide +kernel
theorem dL_alike_21 : decode cL_alike 21 = .ok (.invokestatic 176, 3) := by decide +kernel
theorem dL_alike_24 : decode cL_alike 24 = .ok (.if_icmp .ne 18, 3) := by decide +kernel
theorem dL_alike_27 : decode cL_alike 27 = .ok (.aload_n 0, 1) := by decide +kernel
theorem dL_alike_28 : decode cL_alike 28 = .ok (.invokevirtual 180, 3) := by decide +kernel
theorem dL_alike_31 : decode cL_alike 31 = .ok (.aload_n 1, 1) := by decide +kernel
theorem dL_alike_32 : decode cL_alike 32 = .ok (.invokevirtual 180, 3) := by decide +kernel
theorem dL_alike_35 : decode cL_alike 35 = .ok (.if_icmp .ne 7, 3) := by decide +kernel
theorem dL_alike_38 : decode cL_alike 38 = .ok (.iconst 1, 1) := by decide +kernel
theorem dL_alike_39 : decode cL_alike 39 = .ok (.goto 4, 3) := by decide +kernel
theorem dL_alike_42 : decode cL_alike 42 = .ok (.iconst 0, 1) := by decide +kernel
theorem dL_alike_43 : decode cL_alike 43 = .ok (.istore_n 3, 1) := by decide +kernel
theorem dL_alike_44 : decode cL_alike 44 = .ok (.iconst 0, 1) := by decide +kernel
theorem dL_alike_45 : decode cL_alike 45 = .ok (.istore 4, 2) := by decide +kernel
theorem dL_alike_47 : decode cL_alike 47 = .ok (.iload 4, 2) := by decide +kernel
theorem dL_alike_49 : decode cL_alike 49 = .ok (.bipush 16, 2) := by decide +kernel
theorem dL_alike_51 : decode cL_alike 51 = .ok (.if_icmp .ge 146, 3) := by decide +kernel
theorem dL_alike_54 : decode cL_alike 54 = .ok (.iload_n 3, 1) := by decide +kernel
theorem dL_alike_55 : decode cL_alike 55 = .ok (.ifCond .eq 142, 3) := by decide +kernel
theorem dL_alike_58 : decode cL_alike 58 = .ok (.aload_n 0, 1) := by decide +kernel
theorem dL_alike_59 : decode cL_alike 59 = .ok (.iconst 2, 1) := by decide +kernel
theorem dL_alike_60 : decode cL_alike 60 = .ok (.iload 4, 2) := by decide +kernel
theorem dL_alike_62 : decode cL_alike 62 = .ok (.iconst 0, 1) := by decide +kernel
theorem dL_alike_63 : decode cL_alike 63 = .ok (.iconst 0, 1) := by decide +kernel
theorem dL_alike_64 : decode cL_alike 64 = .ok (.invokestatic 162, 3) := by decide +kernel
theorem dL_alike_67 : decode cL_alike 67 = .ok (.aload_n 1, 1) := by decide +kernel
theorem dL_alike_68 : decode cL_alike 68 = .ok (.iconst 2, 1) := by decide +kernel
theorem dL_alike_69 : decode cL_alike 69 = .ok (.iload 4, 2) := by decide +kernel
theorem dL_alike_71 : decode cL_alike 71 = .ok (.iconst 0, 1) := by decide +kernel
theorem dL_alike_72 : decode cL_alike 72 = .ok (.iconst 0, 1) := by decide +kernel
theorem dL_alike_73 : decode cL_alike 73 = .ok (.invokestatic 162, 3) := by decide +kernel
theorem dL_alike_76 : decode cL_alike 76 = .ok (.if_icmp .ne 113, 3) := by decide +kernel
theorem dL_alike_79 : decode cL_alike 79 = .ok (.aload_n 0, 1) := by decide +kernel
theorem dL_alike_80 : decode cL_alike 80 = .ok (.iconst 3, 1) := by decide +kernel
theorem dL_alike_81 : decode cL_alike 81 = .ok (.iload 4, 2) := by decide +kernel
theorem dL_alike_83 : decode cL_alike 83 = .ok (.iload_n 2, 1) := by decide +kernel
theorem dL_alike_84 : decode cL_alike 84 = .ok (.bipush 11, 2) := by decide +kernel
theorem dL_alike_86 : decode cL_alike 86 = .ok (.irem, 1) := by decide +kernel
theorem dL_alike_87 : decode cL_alike 87 = .ok (.iconst 0, 1) := by decide +kernel
theorem dL_alike_88 : decode cL_alike 88 = .ok (.invokestatic 162, 3) := by decide +kernel
theorem dL_alike_91 : decode cL_alike 91 = .ok (.aload_n 1, 1) := by decide +kernel
theorem dL_alike_92 : decode cL_alike 92 = .ok (.iconst 3, 1) := by decide +kernel
theorem dL_alike_93 : decode cL_alike 93 = .ok (.iload 4, 2) := by decide +kernel
theorem dL_alike_95 : decode cL_alike 95 = .ok (.iload_n 2, 1) := by decide +kernel
theorem dL_alike_96 : decode cL_alike 96 = .ok (.bipush 11, 2) := by decide +kernel
theorem dL_alike_98 : decode cL_alike 98 = .ok (.irem, 1) := by decide +kernel
theorem dL_alike_99 : decode cL_alike 99 = .ok (.iconst 0, 1) := by decide +kernel
theorem dL_alike_100 : decode cL_alike 100 = .ok (.invokestatic 162, 3) := by decide +kernel
theorem dL_alike_103 : decode cL_alike 103 = .ok (.if_icmp .ne 86, 3) := by decide +kernel
theorem dL_alike_106 : decode cL_alike 106 = .ok (.aload_n 0, 1) := by decide +kernel
theorem dL_alike_107 : decode cL_alike 107 = .ok (.iconst 4, 1) := by decide +kernel
theorem dL_alike_108 : decode cL_alike 108 = .ok (.iload 4, 2) := by decide +kernel
theorem dL_alike_110 : decode cL_alike 110 = .ok (.iload_n 2, 1) := by decide +kernel
theorem dL_alike_111 : decode cL_alike 111 = .ok (.iconst 5, 1) := by decide +kernel
theorem dL_alike_112 : decode cL_alike 112 = .ok (.irem, 1) := by decide +kernel
theorem dL_alike_113 : decode cL_alike 113 = .ok (.iconst 0, 1) := by decide +kernel
theorem dL_alike_114 : decode cL_alike 114 = .ok (.invokestatic 162, 3) := by decide +kernel
theorem dL_alike_117 : decode cL_alike 117 = .ok (.aload_n 1, 1) := by decide +kernel
theorem dL_alike_118 : decode cL_alike 118 = .ok (.iconst 4, 1) := by decide +kernel
theorem dL_alike_119 : decode cL_alike 119 = .ok (.iload 4, 2) := by decide +kernel
theorem dL_alike_121 : decode cL_alike 121 = .ok (.iload_n 2, 1) := by decide +kernel
theorem dL_alike_122 : decode cL_alike 122 = .ok (.iconst 5, 1) := by decide +kernel
theorem dL_alike_123 : decode cL_alike 123 = .ok (.irem, 1) := by decide +kernel
theorem dL_alike_124 : decode cL_alike 124 = .ok (.iconst 0, 1) := by decide +kernel
theorem dL_alike_125 : decode cL_alike 125 = .ok (.invokestatic 162, 3) := by decide +kernel
theorem dL_alike_128 : decode cL_alike 128 = .ok (.if_icmp .ne 61, 3) := by decide +kernel
theorem dL_alike_131 : decode cL_alike 131 = .ok (.aload_n 0, 1) := by decide +kernel
theorem dL_alike_132 : decode cL_alike 132 = .ok (.iconst 5, 1) := by decide +kernel
theorem dL_alike_133 : decode cL_alike 133 = .ok (.iload 4, 2) := by decide +kernel
theorem dL_alike_135 : decode cL_alike 135 = .ok (.iload_n 2, 1) := by decide +kernel
theorem dL_alike_136 : decode cL_alike 136 = .ok (.iconst 3, 1) := by decide +kernel
theorem dL_alike_137 : decode cL_alike 137 = .ok (.irem, 1) := by decide +kernel
theorem dL_alike_138 : decode cL_alike 138 = .ok (.iconst 0, 1) := by decide +kernel
theorem dL_alike_139 : decode cL_alike 139 = .ok (.invokestatic 162, 3) := by decide +kernel
theorem dL_alike_142 : decode cL_alike 142 = .ok (.aload_n 1, 1) := by decide +kernel
theorem dL_alike_143 : decode cL_alike 143 = .ok (.iconst 5, 1) := by decide +kernel
theorem dL_alike_144 : decode cL_alike 144 = .ok (.iload 4, 2) := by decide +kernel
theorem dL_alike_146 : decode cL_alike 146 = .ok (.iload_n 2, 1) := by decide +kernel
theorem dL_alike_147 : decode cL_alike 147 = .ok (.iconst 3, 1) := by decide +kernel
theorem dL_alike_148 : decode cL_alike 148 = .ok (.irem, 1) := by decide +kernel
theorem dL_alike_149 : decode cL_alike 149 = .ok (.iconst 0, 1) := by decide +kernel
theorem dL_alike_150 : decode cL_alike 150 = .ok (.invokestatic 162, 3) := by decide +kernel
theorem dL_alike_153 : decode cL_alike 153 = .ok (.if_icmp .ne 36, 3) := by decide +kernel
theorem dL_alike_156 : decode cL_alike 156 = .ok (.aload_n 0, 1) := by decide +kernel
theorem dL_alike_157 : decode cL_alike 157 = .ok (.bipush 17, 2) := by decide +kernel
theorem dL_alike_159 : decode cL_alike 159 = .ok (.iload_n 2, 1) := by decide +kernel
theorem dL_alike_160 : decode cL_alike 160 = .ok (.bipush 6, 2) := by decide +kernel
theorem dL_alike_162 : decode cL_alike 162 = .ok (.irem, 1) := by decide +kernel
theorem dL_alike_163 : decode cL_alike 163 = .ok (.iload 4, 2) := by decide +kernel
theorem dL_alike_165 : decode cL_alike 165 = .ok (.iconst 0, 1) := by decide +kernel
theorem dL_alike_166 : decode cL_alike 166 = .ok (.invokestatic 162, 3) := by decide +kernel
theorem dL_alike_169 : decode cL_alike 169 = .ok (.aload_n 1, 1) := by decide +kernel
theorem dL_alike_170 : decode cL_alike 170 = .ok (.bipush 17, 2) := by decide +kernel
theorem dL_alike_172 : decode cL_alike 172 = .ok (.iload_n 2, 1) := by decide +kernel
theorem dL_alike_173 : decode cL_alike 173 = .ok (.bipush 6, 2) := by decide +kernel
theorem dL_alike_175 : decode cL_alike 175 = .ok (.irem, 1) := by decide +kernel
theorem dL_alike_176 : decode cL_alike 176 = .ok (.iload 4, 2) := by decide +kernel
theorem dL_alike_178 : decode cL_alike 178 = .ok (.iconst 0, 1) := by decide +kernel
theorem dL_alike_179 : decode cL_alike 179 = .ok (.invokestatic 162, 3) := by decide +kernel
theorem dL_alike_182 : decode cL_alike 182 = .ok (.if_icmp .ne 7, 3) := by decide +kernel
theorem dL_alike_185 : decode cL_alike 185 = .ok (.iconst 1, 1) := by decide +kernel
theorem dL_alike_186 : decode cL_alike 186 = .ok (.goto 4, 3) := by decide +kernel
theorem dL_alike_189 : decode cL_alike 189 = .ok (.iconst 0, 1) := by decide +kernel
theorem dL_alike_190 : decode cL_alike 190 = .ok (.istore_n 3, 1) := by decide +kernel
theorem dL_alike_191 : decode cL_alike 191 = .ok (.iinc 4 1, 3) := by decide +kernel
theorem dL_alike_194 : decode cL_alike 194 = .ok (.goto (-147), 3) := by decide +kernel
theorem dL_alike_197 : decode cL_alike 197 = .ok (.iload_n 3, 1) := by decide +kernel
theorem dL_alike_198 : decode cL_alike 198 = .ok (.ireturn, 1) := by decide +kernel
theorem dL_law_0 : decode cL_law 0 = .ok (.new 8, 3) := by decide +kernel
theorem dL_law_3 : decode cL_law 3 = .ok (.dup, 1) := by decide +kernel
theorem dL_law_4 : decode cL_law 4 = .ok (.invokespecial 186, 3) := by decide +kernel
theorem dL_law_7 : decode cL_law 7 = .ok (.astore_n 1, 1) := by decide +kernel
theorem dL_law_8 : decode cL_law 8 = .ok (.new 8, 3) := by decide +kernel
theorem dL_law_11 : decode cL_law 11 = .ok (.dup, 1) := by decide +kernel
theorem dL_law_12 : decode cL_law 12 = .ok (.invokespecial 186, 3) := by decide +kernel
theorem dL_law_15 : decode cL_law 15 = .ok (.astore_n 2, 1) := by decide +kernel
theorem dL_law_16 : decode cL_law 16 = .ok (.bipush 14, 2) := by decide +kernel
theorem dL_law_18 : decode cL_law 18 = .ok (.aload_n 0, 1) := by decide +kernel
theorem dL_law_19 : decode cL_law 19 = .ok (.iconst 0, 1) := by decide +kernel
theorem dL_law_20 : decode cL_law 20 = .ok (.invokestatic 187, 3) := by decide +kernel
theorem dL_law_23 : decode cL_law 23 = .ok (.bipush 21, 2) := by decide +kernel
theorem dL_law_25 : decode cL_law 25 = .ok (.irem, 1) := by decide +kernel
theorem dL_law_26 : decode cL_law 26 = .ok (.iadd, 1) := by decide +kernel
theorem dL_law_27 : decode cL_law 27 = .ok (.istore_n 3, 1) := by decide +kernel
theorem dL_law_28 : decode cL_law 28 = .ok (.iconst 1, 1) := by decide +kernel
theorem dL_law_29 : decode cL_law 29 = .ok (.istore 4, 2) := by decide +kernel
theorem dL_law_31 : decode cL_law 31 = .ok (.iconst 0, 1) := by decide +kernel
theorem dL_law_32 : decode cL_law 32 = .ok (.istore 5, 2) := by decide +kernel
theorem dL_law_34 : decode cL_law 34 = .ok (.iload 5, 2) := by decide +kernel
theorem dL_law_36 : decode cL_law 36 = .ok (.iload_n 3, 1) := by decide +kernel
theorem dL_law_37 : decode cL_law 37 = .ok (.if_icmp .ge 147, 3) := by decide +kernel
theorem dL_law_40 : decode cL_law 40 = .ok (.iload 4, 2) := by decide +kernel
theorem dL_law_42 : decode cL_law 42 = .ok (.ifCond .eq 142, 3) := by decide +kernel
theorem dL_law_45 : decode cL_law 45 = .ok (.aload_n 0, 1) := by decide +kernel
theorem dL_law_46 : decode cL_law 46 = .ok (.iconst 1, 1) := by decide +kernel
theorem dL_law_47 : decode cL_law 47 = .ok (.iload 5, 2) := by decide +kernel
theorem dL_law_49 : decode cL_law 49 = .ok (.iadd, 1) := by decide +kernel
theorem dL_law_50 : decode cL_law 50 = .ok (.invokestatic 187, 3) := by decide +kernel
theorem dL_law_53 : decode cL_law 53 = .ok (.istore 6, 2) := by decide +kernel
theorem dL_law_55 : decode cL_law 55 = .ok (.aload_n 1, 1) := by decide +kernel
theorem dL_law_56 : decode cL_law 56 = .ok (.iload 6, 2) := by decide +kernel
theorem dL_law_58 : decode cL_law 58 = .ok (.invokestatic 191, 3) := by decide +kernel
theorem dL_law_61 : decode cL_law 61 = .ok (.istore 7, 2) := by decide +kernel
theorem dL_law_63 : decode cL_law 63 = .ok (.aload_n 2, 1) := by decide +kernel
theorem dL_law_64 : decode cL_law 64 = .ok (.iload 6, 2) := by decide +kernel
theorem dL_law_66 : decode cL_law 66 = .ok (.ldc 194, 2) := by decide +kernel
theorem dL_law_68 : decode cL_law 68 = .ok (.irem, 1) := by decide +kernel
theorem dL_law_69 : decode cL_law 69 = .ok (.invokestatic 195, 3) := by decide +kernel
theorem dL_law_72 : decode cL_law 72 = .ok (.ifCond .eq 103, 3) := by decide +kernel
theorem dL_law_75 : decode cL_law 75 = .ok (.aload_n 2, 1) := by decide +kernel
theorem dL_law_76 : decode cL_law 76 = .ok (.iload 6, 2) := by decide +kernel
theorem dL_law_78 : decode cL_law 78 = .ok (.invokestatic 191, 3) := by decide +kernel
theorem dL_law_81 : decode cL_law 81 = .ok (.iload 7, 2) := by decide +kernel
theorem dL_law_83 : decode cL_law 83 = .ok (.if_icmp .ne 92, 3) := by decide +kernel
theorem dL_law_86 : decode cL_law 86 = .ok (.aload_n 2, 1) := by decide +kernel
theorem dL_law_87 : decode cL_law 87 = .ok (.iload 6, 2) := by decide +kernel
theorem dL_law_89 : decode cL_law 89 = .ok (.sipush 1000, 3) := by decide +kernel
theorem dL_law_92 : decode cL_law 92 = .ok (.irem, 1) := by decide +kernel
theorem dL_law_93 : decode cL_law 93 = .ok (.invokestatic 195, 3) := by decide +kernel
theorem dL_law_96 : decode cL_law 96 = .ok (.ifCond .eq 79, 3) := by decide +kernel
theorem dL_law_99 : decode cL_law 99 = .ok (.aload_n 1, 1) := by decide +kernel
theorem dL_law_100 : decode cL_law 100 = .ok (.aload_n 2, 1) := by decide +kernel
theorem dL_law_101 : decode cL_law 101 = .ok (.iload 6, 2) := by decide +kernel
theorem dL_law_103 : decode cL_law 103 = .ok (.sipush 5000, 3) := by decide +kernel
theorem dL_law_106 : decode cL_law 106 = .ok (.irem, 1) := by decide +kernel
theorem dL_law_107 : decode cL_law 107 = .ok (.invokestatic 199, 3) := by decide +kernel
theorem dL_law_110 : decode cL_law 110 = .ok (.ifCond .eq 65, 3) := by decide +kernel
theorem dL_law_113 : decode cL_law 113 = .ok (.iload 5, 2) := by decide +kernel
theorem dL_law_115 : decode cL_law 115 = .ok (.iconst 2, 1) := by decide +kernel
theorem dL_law_116 : decode cL_law 116 = .ok (.irem, 1) := by decide +kernel
theorem dL_law_117 : decode cL_law 117 = .ok (.ifCond .ne 17, 3) := by decide +kernel
theorem dL_law_120 : decode cL_law 120 = .ok (.aload_n 1, 1) := by decide +kernel
theorem dL_law_121 : decode cL_law 121 = .ok (.iload 6, 2) := by decide +kernel
theorem dL_law_123 : decode cL_law 123 = .ok (.iconst 3, 1) := by decide +kernel
theorem dL_law_124 : decode cL_law 124 = .ok (.idiv, 1) := by decide +kernel
theorem dL_law_125 : decode cL_law 125 = .ok (.invokestatic 203, 3) := by decide +kernel
theorem dL_law_128 : decode cL_law 128 = .ok (.ifCond .eq 47, 3) := by decide +kernel
theorem dL_law_131 : decode cL_law 131 = .ok (.goto 14, 3) := by decide +kernel
theorem dL_law_134 : decode cL_law 134 = .ok (.aload_n 2, 1) := by decide +kernel
theorem dL_law_135 : decode cL_law 135 = .ok (.iload 6, 2) := by decide +kernel
theorem dL_law_137 : decode cL_law 137 = .ok (.iconst 3, 1) := by decide +kernel
theorem dL_law_138 : decode cL_law 138 = .ok (.idiv, 1) := by decide +kernel
theorem dL_law_139 : decode cL_law 139 = .ok (.invokestatic 203, 3) := by decide +kernel
theorem dL_law_142 : decode cL_law 142 = .ok (.ifCond .eq 33, 3) := by decide +kernel
theorem dL_law_145 : decode cL_law 145 = .ok (.aload_n 1, 1) := by decide +kernel
theorem dL_law_146 : decode cL_law 146 = .ok (.aload_n 2, 1) := by decide +kernel
theorem dL_law_147 : decode cL_law 147 = .ok (.iload 6, 2) := by decide +kernel
theorem dL_law_149 : decode cL_law 149 = .ok (.bipush 7, 2) := by decide +kernel
theorem dL_law_151 : decode cL_law 151 = .ok (.idiv, 1) := by decide +kernel
theorem dL_law_152 : decode cL_law 152 = .ok (.invokestatic 206, 3) := by decide +kernel
theorem dL_law_155 : decode cL_law 155 = .ok (.ifCond .eq 20, 3) := by decide +kernel
theorem dL_law_158 : decode cL_law 158 = .ok (.aload_n 1, 1) := by decide +kernel
theorem dL_law_159 : decode cL_law 159 = .ok (.aload_n 2, 1) := by decide +kernel
theorem dL_law_160 : decode cL_law 160 = .ok (.iload 6, 2) := by decide +kernel
theorem dL_law_162 : decode cL_law 162 = .ok (.bipush 11, 2) := by decide +kernel
theorem dL_law_164 : decode cL_law 164 = .ok (.idiv, 1) := by decide +kernel
theorem dL_law_165 : decode cL_law 165 = .ok (.invokestatic 209, 3) := by decide +kernel
theorem dL_law_168 : decode cL_law 168 = .ok (.ifCond .eq 7, 3) := by decide +kernel
theorem dL_law_171 : decode cL_law 171 = .ok (.iconst 1, 1) := by decide +kernel
theorem dL_law_172 : decode cL_law 172 = .ok (.goto 4, 3) := by decide +kernel
theorem dL_law_175 : decode cL_law 175 = .ok (.iconst 0, 1) := by decide +kernel
theorem dL_law_176 : decode cL_law 176 = .ok (.istore 4, 2) := by decide +kernel
theorem dL_law_178 : decode cL_law 178 = .ok (.iinc 5 1, 3) := by decide +kernel
theorem dL_law_181 : decode cL_law 181 = .ok (.goto (-147), 3) := by decide +kernel
theorem dL_law_184 : decode cL_law 184 = .ok (.iload 4, 2) := by decide +kernel
theorem dL_law_186 : decode cL_law 186 = .ok (.ireturn, 1) := by decide +kernel
theorem dL_surveys_0 : decode cL_surveys 0 = .ok (.aload_n 0, 1) := by decide +kernel
theorem dL_surveys_1 : decode cL_surveys 1 = .ok (.iconst 2, 1) := by decide +kernel
theorem dL_surveys_2 : decode cL_surveys 2 = .ok (.bipush 6, 2) := by decide +kernel
theorem dL_surveys_4 : decode cL_surveys 4 = .ok (.iconst 0, 1) := by decide +kernel
theorem dL_surveys_5 : decode cL_surveys 5 = .ok (.iconst 0, 1) := by decide +kernel
theorem dL_surveys_6 : decode cL_surveys 6 = .ok (.invokestatic 162, 3) := by decide +kernel
theorem dL_surveys_9 : decode cL_surveys 9 = .ok (.istore_n 3, 1) := by decide +kernel
theorem dL_surveys_10 : decode cL_surveys 10 = .ok (.aload_n 0, 1) := by decide +kernel
theorem dL_surveys_11 : decode cL_surveys 11 = .ok (.iconst 2, 1) := by decide +kernel
theorem dL_surveys_12 : decode cL_surveys 12 = .ok (.bipush 7, 2) := by decide +kernel
theorem dL_surveys_14 : decode cL_surveys 14 = .ok (.iconst 0, 1) := by decide +kernel
theorem dL_surveys_15 : decode cL_surveys 15 = .ok (.iconst 0, 1) := by decide +kernel
theorem dL_surveys_16 : decode cL_surveys 16 = .ok (.invokestatic 162, 3) := by decide +kernel
theorem dL_surveys_19 : decode cL_surveys 19 = .ok (.istore 4, 2) := by decide +kernel
theorem dL_surveys_21 : decode cL_surveys 21 = .ok (.aload_n 0, 1) := by decide +kernel
theorem dL_surveys_22 : decode cL_surveys 22 = .ok (.iconst 2, 1) := by decide +kernel
theorem dL_surveys_23 : decode cL_surveys 23 = .ok (.iconst 5, 1) := by decide +kernel
theorem dL_surveys_24 : decode cL_surveys 24 = .ok (.iconst 0, 1) := by decide +kernel
theorem dL_surveys_25 : decode cL_surveys 25 = .ok (.iconst 0, 1) := by decide +kernel
theorem dL_surveys_26 : decode cL_surveys 26 = .ok (.invokestatic 162, 3) := by decide +kernel
theorem dL_surveys_29 : decode cL_surveys 29 = .ok (.istore 5, 2) := by decide +kernel
theorem dL_surveys_31 : decode cL_surveys 31 = .ok (.aload_n 0, 1) := by decide +kernel
theorem dL_surveys_32 : decode cL_surveys 32 = .ok (.iconst 2, 1) := by decide +kernel
theorem dL_surveys_33 : decode cL_surveys 33 = .ok (.iconst 0, 1) := by decide +kernel
theorem dL_surveys_34 : decode cL_surveys 34 = .ok (.iconst 0, 1) := by decide +kernel
theorem dL_surveys_35 : decode cL_surveys 35 = .ok (.iconst 0, 1) := by decide +kernel
theorem dL_surveys_36 : decode cL_surveys 36 = .ok (.invokestatic 162, 3) := by decide +kernel
theorem dL_surveys_39 : decode cL_surveys 39 = .ok (.istore 6, 2) := by decide +kernel
theorem dL_surveys_41 : decode cL_surveys 41 = .ok (.aload_n 0, 1) := by decide +kernel
theorem dL_surveys_42 : decode cL_surveys 42 = .ok (.invokevirtual 183, 3) := by decide +kernel
theorem dL_surveys_45 : decode cL_surveys 45 = .ok (.istore 7, 2) := by decide +kernel
theorem dL_surveys_47 : decode cL_surveys 47 = .ok (.aload_n 1, 1) := by decide +kernel
theorem dL_surveys_48 : decode cL_surveys 48 = .ok (.invokevirtual 183, 3) := by decide +kernel
theorem dL_surveys_51 : decode cL_surveys 51 = .ok (.iload 7, 2) := by decide +kernel
theorem dL_surveys_53 : decode cL_surveys 53 = .ok (.if_icmp .ne 108, 3) := by decide +kernel
theorem dL_surveys_56 : decode cL_surveys 56 = .ok (.iload 7, 2) := by decide +kernel
theorem dL_surveys_58 : decode cL_surveys 58 = .ok (.ifCond .lt 103, 3) := by decide +kernel
theorem dL_surveys_61 : decode cL_surveys 61 = .ok (.iload 7, 2) := by decide +kernel
theorem dL_surveys_63 : decode cL_surveys 63 = .ok (.iload 5, 2) := by decide +kernel
theorem dL_surveys_65 : decode cL_surveys 65 = .ok (.if_icmp .gt 96, 3) := by decide +kernel
theorem dL_surveys_68 : decode cL_surveys 68 = .ok (.aload_n 0, 1) := by decide +kernel
theorem dL_surveys_69 : decode cL_surveys 69 = .ok (.iconst 2, 1) := by decide +kernel
theorem dL_surveys_70 : decode cL_surveys 70 = .ok (.bipush 6, 2) := by decide +kernel
theorem dL_surveys_72 : decode cL_surveys 72 = .ok (.iconst 0, 1) := by decide +kernel
theorem dL_surveys_73 : decode cL_surveys 73 = .ok (.iconst 0, 1) := by decide +kernel
theorem dL_surveys_74 : decode cL_surveys 74 = .ok (.invokestatic 162, 3) := by decide +kernel
theorem dL_surveys_77 : decode cL_surveys 77 = .ok (.iload_n 3, 1) := by decide +kernel
theorem dL_surveys_78 : decode cL_surveys 78 = .ok (.iload 7, 2) := by decide +kernel
theorem dL_surveys_80 : decode cL_surveys 80 = .ok (.isub, 1) := by decide +kernel
theorem dL_surveys_81 : decode cL_surveys 81 = .ok (.if_icmp .ne 80, 3) := by decide +kernel
theorem dL_surveys_84 : decode cL_surveys 84 = .ok (.aload_n 0, 1) := by decide +kernel
theorem dL_surveys_85 : decode cL_surveys 85 = .ok (.iconst 2, 1) := by decide +kernel
theorem dL_surveys_86 : decode cL_surveys 86 = .ok (.bipush 7, 2) := by decide +kernel
theorem dL_surveys_88 : decode cL_surveys 88 = .ok (.iconst 0, 1) := by decide +kernel
theorem dL_surveys_89 : decode cL_surveys 89 = .ok (.iconst 0, 1) := by decide +kernel
theorem dL_surveys_90 : decode cL_surveys 90 = .ok (.invokestatic 162, 3) := by decide +kernel
theorem dL_surveys_93 : decode cL_surveys 93 = .ok (.iload 4, 2) := by decide +kernel
theorem dL_surveys_95 : decode cL_surveys 95 = .ok (.iload 7, 2) := by decide +kernel
theorem dL_surveys_97 : decode cL_surveys 97 = .ok (.iadd, 1) := by decide +kernel
theorem dL_surveys_98 : decode cL_surveys 98 = .ok (.if_icmp .ne 63, 3) := by decide +kernel
theorem dL_surveys_101 : decode cL_surveys 101 = .ok (.aload_n 0, 1) := by decide +kernel
theorem dL_surveys_102 : decode cL_surveys 102 = .ok (.iconst 2, 1) := by decide +kernel
theorem dL_surveys_103 : decode cL_surveys 103 = .ok (.iconst 0, 1) := by decide +kernel
theorem dL_surveys_104 : decode cL_surveys 104 = .ok (.iconst 0, 1) := by decide +kernel
theorem dL_surveys_105 : decode cL_surveys 105 = .ok (.iconst 0, 1) := by decide +kernel
theorem dL_surveys_106 : decode cL_surveys 106 = .ok (.invokestatic 162, 3) := by decide +kernel
theorem dL_surveys_109 : decode cL_surveys 109 = .ok (.iload 6, 2) := by decide +kernel
theorem dL_surveys_111 : decode cL_surveys 111 = .ok (.if_icmp .ne 50, 3) := by decide +kernel
theorem dL_surveys_114 : decode cL_surveys 114 = .ok (.aload_n 0, 1) := by decide +kernel
theorem dL_surveys_115 : decode cL_surveys 115 = .ok (.bipush 13, 2) := by decide +kernel
theorem dL_surveys_117 : decode cL_surveys 117 = .ok (.iconst 0, 1) := by decide +kernel
theorem dL_surveys_118 : decode cL_surveys 118 = .ok (.iconst 0, 1) := by decide +kernel
theorem dL_surveys_119 : decode cL_surveys 119 = .ok (.iconst 0, 1) := by decide +kernel
theorem dL_surveys_120 : decode cL_surveys 120 = .ok (.invokestatic 162, 3) := by decide +kernel
theorem dL_surveys_123 : decode cL_surveys 123 = .ok (.invokestatic 212, 3) := by decide +kernel
theorem dL_surveys_126 : decode cL_surveys 126 = .ok (.ifCond .ne 35, 3) := by decide +kernel
theorem dL_surveys_129 : decode cL_surveys 129 = .ok (.aload_n 1, 1) := by decide +kernel
theorem dL_surveys_130 : decode cL_surveys 130 = .ok (.bipush 13, 2) := by decide +kernel
theorem dL_surveys_132 : decode cL_surveys 132 = .ok (.iconst 0, 1) := by decide +kernel
theorem dL_surveys_133 : decode cL_surveys 133 = .ok (.iconst 0, 1) := by decide +kernel
theorem dL_surveys_134 : decode cL_surveys 134 = .ok (.iconst 0, 1) := by decide +kernel
theorem dL_surveys_135 : decode cL_surveys 135 = .ok (.invokestatic 162, 3) := by decide +kernel
theorem dL_surveys_138 : decode cL_surveys 138 = .ok (.invokestatic 212, 3) := by decide +kernel
theorem dL_surveys_141 : decode cL_surveys 141 = .ok (.ifCond .ne 20, 3) := by decide +kernel
theorem dL_surveys_144 : decode cL_surveys 144 = .ok (.aload_n 0, 1) := by decide +kernel
theorem dL_surveys_145 : decode cL_surveys 145 = .ok (.iconst 2, 1) := by decide +kernel
theorem dL_surveys_146 : decode cL_surveys 146 = .ok (.bipush 6, 2) := by decide +kernel
theorem dL_surveys_148 : decode cL_surveys 148 = .ok (.iconst 0, 1) := by decide +kernel
theorem dL_surveys_149 : decode cL_surveys 149 = .ok (.iconst 0, 1) := by decide +kernel
theorem dL_surveys_150 : decode cL_surveys 150 = .ok (.invokestatic 162, 3) := by decide +kernel
theorem dL_surveys_153 : decode cL_surveys 153 = .ok (.iload_n 3, 1) := by decide +kernel
theorem dL_surveys_154 : decode cL_surveys 154 = .ok (.if_icmp .ne 7, 3) := by decide +kernel
theorem dL_surveys_157 : decode cL_surveys 157 = .ok (.iconst 1, 1) := by decide +kernel
theorem dL_surveys_158 : decode cL_surveys 158 = .ok (.goto 4, 3) := by decide +kernel
theorem dL_surveys_161 : decode cL_surveys 161 = .ok (.iconst 0, 1) := by decide +kernel
theorem dL_surveys_162 : decode cL_surveys 162 = .ok (.istore 8, 2) := by decide +kernel
theorem dL_surveys_164 : decode cL_surveys 164 = .ok (.iload_n 2, 1) := by decide +kernel
theorem dL_surveys_165 : decode cL_surveys 165 = .ok (.iconst 3, 1) := by decide +kernel
theorem dL_surveys_166 : decode cL_surveys 166 = .ok (.irem, 1) := by decide +kernel
theorem dL_surveys_167 : decode cL_surveys 167 = .ok (.istore 9, 2) := by decide +kernel
theorem dL_surveys_169 : decode cL_surveys 169 = .ok (.iload_n 2, 1) := by decide +kernel
theorem dL_surveys_170 : decode cL_surveys 170 = .ok (.iconst 3, 1) := by decide +kernel
theorem dL_surveys_171 : decode cL_surveys 171 = .ok (.idiv, 1) := by decide +kernel
theorem dL_surveys_172 : decode cL_surveys 172 = .ok (.iconst 3, 1) := by decide +kernel
theorem dL_surveys_173 : decode cL_surveys 173 = .ok (.irem, 1) := by decide +kernel
theorem dL_surveys_174 : decode cL_surveys 174 = .ok (.ifCond .le 21, 3) := by decide +kernel
theorem dL_surveys_177 : decode cL_surveys 177 = .ok (.aload_n 0, 1) := by decide +kernel
theorem dL_surveys_178 : decode cL_surveys 178 = .ok (.bipush 7, 2) := by decide +kernel
theorem dL_surveys_180 : decode cL_surveys 180 = .ok (.iload 9, 2) := by decide +kernel
theorem dL_surveys_182 : decode cL_surveys 182 = .ok (.iload_n 2, 1) := by decide +kernel
theorem dL_surveys_183 : decode cL_surveys 183 = .ok (.bipush 9, 2) := by decide +kernel
theorem dL_surveys_185 : decode cL_surveys 185 = .ok (.idiv, 1) := by decide +kernel
theorem dL_surveys_186 : decode cL_surveys 186 = .ok (.iconst 2, 1) := by decide +kernel
theorem dL_surveys_187 : decode cL_surveys 187 = .ok (.irem, 1) := by decide +kernel
theorem dL_surveys_188 : decode cL_surveys 188 = .ok (.iconst 0, 1) := by decide +kernel
theorem dL_surveys_189 : decode cL_surveys 189 = .ok (.invokestatic 162, 3) := by decide +kernel
theorem dL_surveys_192 : decode cL_surveys 192 = .ok (.goto 13, 3) := by decide +kernel
theorem dL_surveys_195 : decode cL_surveys 195 = .ok (.iconst 1, 1) := by decide +kernel
theorem dL_surveys_196 : decode cL_surveys 196 = .ok (.iload_n 2, 1) := by decide +kernel
theorem dL_surveys_197 : decode cL_surveys 197 = .ok (.bipush 18, 2) := by decide +kernel
theorem dL_surveys_199 : decode cL_surveys 199 = .ok (.idiv, 1) := by decide +kernel
theorem dL_surveys_200 : decode cL_surveys 200 = .ok (.sipush 999, 3) := by decide +kernel
theorem dL_surveys_203 : decode cL_surveys 203 = .ok (.irem, 1) := by decide +kernel
theorem dL_surveys_204 : decode cL_surveys 204 = .ok (.iadd, 1) := by decide +kernel
theorem dL_surveys_205 : decode cL_surveys 205 = .ok (.istore 10, 2) := by decide +kernel
theorem dL_surveys_207 : decode cL_surveys 207 = .ok (.aload_n 0, 1) := by decide +kernel
theorem dL_surveys_208 : decode cL_surveys 208 = .ok (.iconst 5, 1) := by decide +kernel
theorem dL_surveys_209 : decode cL_surveys 209 = .ok (.iload 9, 2) := by decide +kernel
theorem dL_surveys_211 : decode cL_surveys 211 = .ok (.iconst 0, 1) := by decide +kernel
theorem dL_surveys_212 : decode cL_surveys 212 = .ok (.iconst 0, 1) := by decide +kernel
theorem dL_surveys_213 : decode cL_surveys 213 = .ok (.invokestatic 162, 3) := by decide +kernel
theorem dL_surveys_216 : decode cL_surveys 216 = .ok (.istore 11, 2) := by decide +kernel
theorem dL_surveys_218 : decode cL_surveys 218 = .ok (.iconst 0, 1) := by decide +kernel
theorem dL_surveys_219 : decode cL_surveys 219 = .ok (.istore 12, 2) := by decide +kernel
theorem dL_surveys_221 : decode cL_surveys 221 = .ok (.iconst 0, 1) := by decide +kernel
theorem dL_surveys_222 : decode cL_surveys 222 = .ok (.istore 13, 2) := by decide +kernel
theorem dL_surveys_224 : decode cL_surveys 224 = .ok (.iload 13, 2) := by decide +kernel
theorem dL_surveys_226 : decode cL_surveys 226 = .ok (.iload 6, 2) := by decide +kernel
theorem dL_surveys_228 : decode cL_surveys 228 = .ok (.if_icmp .ge 63, 3) := by decide +kernel
theorem dL_surveys_231 : decode cL_surveys 231 = .ok (.iload 12, 2) := by decide +kernel
theorem dL_surveys_233 : decode cL_surveys 233 = .ok (.aload_n 0, 1) := by decide +kernel
theorem dL_surveys_234 : decode cL_surveys 234 = .ok (.iconst 3, 1) := by decide +kernel
theorem dL_surveys_235 : decode cL_surveys 235 = .ok (.iload 13, 2) := by decide +kernel
theorem dL_surveys_237 : decode cL_surveys 237 = .ok (.iconst 0, 1) := by decide +kernel
theorem dL_surveys_238 : decode cL_surveys 238 = .ok (.iconst 0, 1) := by decide +kernel
theorem dL_surveys_239 : decode cL_surveys 239 = .ok (.invokestatic 162, 3) := by decide +kernel
theorem dL_surveys_242 : decode cL_surveys 242 = .ok (.iload 9, 2) := by decide +kernel
theorem dL_surveys_244 : decode cL_surveys 244 = .ok (.if_icmp .ne 37, 3) := by decide +kernel
theorem dL_surveys_247 : decode cL_surveys 247 = .ok (.aload_n 0, 1) := by decide +kernel
theorem dL_surveys_248 : decode cL_surveys 248 = .ok (.iconst 3, 1) := by decide +kernel
theorem dL_surveys_249 : decode cL_surveys 249 = .ok (.iload 13, 2) := by decide +kernel
theorem dL_surveys_251 : decode cL_surveys 251 = .ok (.bipush 7, 2) := by decide +kernel
theorem dL_surveys_253 : decode cL_surveys 253 = .ok (.iconst 0, 1) := by decide +kernel
theorem dL_surveys_254 : decode cL_surveys 254 = .ok (.invokestatic 162, 3) := by decide +kernel
theorem dL_surveys_257 : decode cL_surveys 257 = .ok (.iload 10, 2) := by decide +kernel
theorem dL_surveys_259 : decode cL_surveys 259 = .ok (.if_icmp .gt 22, 3) := by decide +kernel
theorem dL_surveys_262 : decode cL_surveys 262 = .ok (.iload 10, 2) := by decide +kernel
theorem dL_surveys_264 : decode cL_surveys 264 = .ok (.aload_n 0, 1) := by decide +kernel
theorem dL_surveys_265 : decode cL_surveys 265 = .ok (.iconst 3, 1) := by decide +kernel
theorem dL_surveys_266 : decode cL_surveys 266 = .ok (.iload 13, 2) := by decide +kernel
theorem dL_surveys_268 : decode cL_surveys 268 = .ok (.bipush 8, 2) := by decide +kernel
theorem dL_surveys_270 : decode cL_surveys 270 = .ok (.iconst 0, 1) := by decide +kernel
theorem dL_surveys_271 : decode cL_surveys 271 = .ok (.invokestatic 162, 3) := by decide +kernel
theorem dL_surveys_274 : decode cL_surveys 274 = .ok (.if_icmp .gt 7, 3) := by decide +kernel
theorem dL_surveys_277 : decode cL_surveys 277 = .ok (.iconst 1, 1) := by decide +kernel
theorem dL_surveys_278 : decode cL_surveys 278 = .ok (.goto 4, 3) := by decide +kernel
theorem dL_surveys_281 : decode cL_surveys 281 = .ok (.iconst 0, 1) := by decide +kernel
theorem dL_surveys_282 : decode cL_surveys 282 = .ok (.iadd, 1) := by decide +kernel
theorem dL_surveys_283 : decode cL_surveys 283 = .ok (.istore 12, 2) := by decide +kernel
theorem dL_surveys_285 : decode cL_surveys 285 = .ok (.iinc 13 1, 3) := by decide +kernel
theorem dL_surveys_288 : decode cL_surveys 288 = .ok (.goto (-64), 3) := by decide +kernel
theorem dL_surveys_291 : decode cL_surveys 291 = .ok (.aload_n 0, 1) := by decide +kernel
theorem dL_surveys_292 : decode cL_surveys 292 = .ok (.iconst 2, 1) := by decide +kernel
theorem dL_surveys_293 : decode cL_surveys 293 = .ok (.bipush 8, 2) := by decide +kernel
theorem dL_surveys_295 : decode cL_surveys 295 = .ok (.iconst 0, 1) := by decide +kernel
theorem dL_surveys_296 : decode cL_surveys 296 = .ok (.iconst 0, 1) := by decide +kernel
theorem dL_surveys_297 : decode cL_surveys 297 = .ok (.invokestatic 162, 3) := by decide +kernel
theorem dL_surveys_300 : decode cL_surveys 300 = .ok (.istore 13, 2) := by decide +kernel
theorem dL_surveys_302 : decode cL_surveys 302 = .ok (.aload_n 0, 1) := by decide +kernel
theorem dL_surveys_303 : decode cL_surveys 303 = .ok (.iconst 2, 1) := by decide +kernel
theorem dL_surveys_304 : decode cL_surveys 304 = .ok (.bipush 9, 2) := by decide +kernel
theorem dL_surveys_306 : decode cL_surveys 306 = .ok (.iconst 0, 1) := by decide +kernel
theorem dL_surveys_307 : decode cL_surveys 307 = .ok (.iconst 0, 1) := by decide +kernel
theorem dL_surveys_308 : decode cL_surveys 308 = .ok (.invokestatic 162, 3) := by decide +kernel
theorem dL_surveys_311 : decode cL_surveys 311 = .ok (.istore 14, 2) := by decide +kernel
theorem dL_surveys_313 : decode cL_surveys 313 = .ok (.aload_n 0, 1) := by decide +kernel
theorem dL_surveys_314 : decode cL_surveys 314 = .ok (.iconst 5, 1) := by decide +kernel
theorem dL_surveys_315 : decode cL_surveys 315 = .ok (.iload 9, 2) := by decide +kernel
theorem dL_surveys_317 : decode cL_surveys 317 = .ok (.iconst 1, 1) := by decide +kernel
theorem dL_surveys_318 : decode cL_surveys 318 = .ok (.iconst 0, 1) := by decide +kernel
theorem dL_surveys_319 : decode cL_surveys 319 = .ok (.invokestatic 162, 3) := by decide +kernel
theorem dL_surveys_322 : decode cL_surveys 322 = .ok (.istore 15, 2) := by decide +kernel
theorem dL_surveys_324 : decode cL_surveys 324 = .ok (.iload 8, 2) := by decide +kernel
theorem dL_surveys_326 : decode cL_surveys 326 = .ok (.ifCond .eq 134, 3) := by decide +kernel
theorem dL_surveys_329 : decode cL_surveys 329 = .ok (.aload_n 0, 1) := by decide +kernel
theorem dL_surveys_330 : decode cL_surveys 330 = .ok (.bipush 11, 2) := by decide +kernel
theorem dL_surveys_332 : decode cL_surveys 332 = .ok (.iload 9, 2) := by decide +kernel
theorem dL_surveys_334 : decode cL_surveys 334 = .ok (.iload 10, 2) := by decide +kernel
theorem dL_surveys_336 : decode cL_surveys 336 = .ok (.iconst 0, 1) := by decide +kernel
theorem dL_surveys_337 : decode cL_surveys 337 = .ok (.invokestatic 162, 3) := by decide +kernel
theorem dL_surveys_340 : decode cL_surveys 340 = .ok (.iload 12, 2) := by decide +kernel
theorem dL_surveys_342 : decode cL_surveys 342 = .ok (.if_icmp .ne 118, 3) := by decide +kernel
theorem dL_surveys_345 : decode cL_surveys 345 = .ok (.aload_n 1, 1) := by decide +kernel
theorem dL_surveys_346 : decode cL_surveys 346 = .ok (.bipush 11, 2) := by decide +kernel
theorem dL_surveys_348 : decode cL_surveys 348 = .ok (.iload 9, 2) := by decide +kernel
theorem dL_surveys_350 : decode cL_surveys 350 = .ok (.iload 10, 2) := by decide +kernel
theorem dL_surveys_352 : decode cL_surveys 352 = .ok (.iconst 0, 1) := by decide +kernel
theorem dL_surveys_353 : decode cL_surveys 353 = .ok (.invokestatic 162, 3) := by decide +kernel
theorem dL_surveys_356 : decode cL_surveys 356 = .ok (.iload 12, 2) := by decide +kernel
theorem dL_surveys_358 : decode cL_surveys 358 = .ok (.if_icmp .ne 102, 3) := by decide +kernel
theorem dL_surveys_361 : decode cL_surveys 361 = .ok (.aload_n 0, 1) := by decide +kernel
theorem dL_surveys_362 : decode cL_surveys 362 = .ok (.iconst 2, 1) := by decide +kernel
theorem dL_surveys_363 : decode cL_surveys 363 = .ok (.bipush 8, 2) := by decide +kernel
theorem dL_surveys_365 : decode cL_surveys 365 = .ok (.iconst 0, 1) := by decide +kernel
theorem dL_surveys_366 : decode cL_surveys 366 = .ok (.iconst 0, 1) := by decide +kernel
theorem dL_surveys_367 : decode cL_surveys 367 = .ok (.invokestatic 162, 3) := by decide +kernel
theorem dL_surveys_370 : decode cL_surveys 370 = .ok (.iload 13, 2) := by decide +kernel
theorem dL_surveys_372 : decode cL_surveys 372 = .ok (.iload 12, 2) := by decide +kernel
theorem dL_surveys_374 : decode cL_surveys 374 = .ok (.iadd, 1) := by decide +kernel
theorem dL_surveys_375 : decode cL_surveys 375 = .ok (.if_icmp .ne 85, 3) := by decide +kernel
theorem dL_surveys_378 : decode cL_surveys 378 = .ok (.aload_n 0, 1) := by decide +kernel
theorem dL_surveys_379 : decode cL_surveys 379 = .ok (.iconst 2, 1) := by decide +kernel
theorem dL_surveys_380 : decode cL_surveys 380 = .ok (.bipush 9, 2) := by decide +kernel
theorem dL_surveys_382 : decode cL_surveys 382 = .ok (.iconst 0, 1) := by decide +kernel
theorem dL_surveys_383 : decode cL_surveys 383 = .ok (.iconst 0, 1) := by decide +kernel
theorem dL_surveys_384 : decode cL_surveys 384 = .ok (.invokestatic 162, 3) := by decide +kernel
theorem dL_surveys_387 : decode cL_surveys 387 = .ok (.iload 14, 2) := by decide +kernel
theorem dL_surveys_389 : decode cL_surveys 389 = .ok (.iload 11, 2) := by decide +kernel
theorem dL_surveys_391 : decode cL_surveys 391 = .ok (.iadd, 1) := by decide +kernel
theorem dL_surveys_392 : decode cL_surveys 392 = .ok (.iload 12, 2) := by decide +kernel
theorem dL_surveys_394 : decode cL_surveys 394 = .ok (.isub, 1) := by decide +kernel
theorem dL_surveys_395 : decode cL_surveys 395 = .ok (.if_icmp .ne 65, 3) := by decide +kernel
theorem dL_surveys_398 : decode cL_surveys 398 = .ok (.aload_n 0, 1) := by decide +kernel
theorem dL_surveys_399 : decode cL_surveys 399 = .ok (.iconst 5, 1) := by decide +kernel
theorem dL_surveys_400 : decode cL_surveys 400 = .ok (.iload 9, 2) := by decide +kernel
theorem dL_surveys_402 : decode cL_surveys 402 = .ok (.iconst 0, 1) := by decide +kernel
theorem dL_surveys_403 : decode cL_surveys 403 = .ok (.iconst 0, 1) := by decide +kernel
theorem dL_surveys_404 : decode cL_surveys 404 = .ok (.invokestatic 162, 3) := by decide +kernel
theorem dL_surveys_407 : decode cL_surveys 407 = .ok (.ifCond .ne 53, 3) := by decide +kernel
theorem dL_surveys_410 : decode cL_surveys 410 = .ok (.aload_n 0, 1) := by decide +kernel
theorem dL_surveys_411 : decode cL_surveys 411 = .ok (.iconst 5, 1) := by decide +kernel
theorem dL_surveys_412 : decode cL_surveys 412 = .ok (.iload 9, 2) := by decide +kernel
theorem dL_surveys_414 : decode cL_surveys 414 = .ok (.iconst 1, 1) := by decide +kernel
theorem dL_surveys_415 : decode cL_surveys 415 = .ok (.iconst 0, 1) := by decide +kernel
theorem dL_surveys_416 : decode cL_surveys 416 = .ok (.invokestatic 162, 3) := by decide +kernel
theorem dL_surveys_419 : decode cL_surveys 419 = .ok (.iload 10, 2) := by decide +kernel
theorem dL_surveys_421 : decode cL_surveys 421 = .ok (.if_icmp .ne 39, 3) := by decide +kernel
theorem dL_surveys_424 : decode cL_surveys 424 = .ok (.aload_n 0, 1) := by decide +kernel
theorem dL_surveys_425 : decode cL_surveys 425 = .ok (.iconst 2, 1) := by decide +kernel
theorem dL_surveys_426 : decode cL_surveys 426 = .ok (.iconst 0, 1) := by decide +kernel
theorem dL_surveys_427 : decode cL_surveys 427 = .ok (.iconst 0, 1) := by decide +kernel
theorem dL_surveys_428 : decode cL_surveys 428 = .ok (.iconst 0, 1) := by decide +kernel
theorem dL_surveys_429 : decode cL_surveys 429 = .ok (.invokestatic 162, 3) := by decide +kernel
theorem dL_surveys_432 : decode cL_surveys 432 = .ok (.iload 6, 2) := by decide +kernel
theorem dL_surveys_434 : decode cL_surveys 434 = .ok (.iload 11, 2) := by decide +kernel
theorem dL_surveys_436 : decode cL_surveys 436 = .ok (.isub, 1) := by decide +kernel
theorem dL_surveys_437 : decode cL_surveys 437 = .ok (.if_icmp .ne 23, 3) := by decide +kernel
theorem dL_surveys_440 : decode cL_surveys 440 = .ok (.aload_n 0, 1) := by decide +kernel
theorem dL_surveys_441 : decode cL_surveys 441 = .ok (.bipush 7, 2) := by decide +kernel
theorem dL_surveys_443 : decode cL_surveys 443 = .ok (.iload 9, 2) := by decide +kernel
theorem dL_surveys_445 : decode cL_surveys 445 = .ok (.iconst 1, 1) := by decide +kernel
theorem dL_surveys_446 : decode cL_surveys 446 = .ok (.iconst 1, 1) := by decide +kernel
theorem dL_surveys_447 : decode cL_surveys 447 = .ok (.invokestatic 162, 3) := by decide +kernel
theorem dL_surveys_450 : decode cL_surveys 450 = .ok (.sipush 999, 3) := by decide +kernel
theorem dL_surveys_453 : decode cL_surveys 453 = .ok (.if_icmp .ne 7, 3) := by decide +kernel
theorem dL_surveys_456 : decode cL_surveys 456 = .ok (.iconst 1, 1) := by decide +kernel
theorem dL_surveys_457 : decode cL_surveys 457 = .ok (.goto 4, 3) := by decide +kernel
theorem dL_surveys_460 : decode cL_surveys 460 = .ok (.iconst 0, 1) := by decide +kernel
theorem dL_surveys_461 : decode cL_surveys 461 = .ok (.istore 8, 2) := by decide +kernel
theorem dL_surveys_463 : decode cL_surveys 463 = .ok (.iload 8, 2) := by decide +kernel
theorem dL_surveys_465 : decode cL_surveys 465 = .ok (.ifCond .eq 78, 3) := by decide +kernel
theorem dL_surveys_468 : decode cL_surveys 468 = .ok (.aload_n 0, 1) := by decide +kernel
theorem dL_surveys_469 : decode cL_surveys 469 = .ok (.bipush 13, 2) := by decide +kernel
theorem dL_surveys_471 : decode cL_surveys 471 = .ok (.iconst 0, 1) := by decide +kernel
theorem dL_surveys_472 : decode cL_surveys 472 = .ok (.iconst 0, 1) := by decide +kernel
theorem dL_surveys_473 : decode cL_surveys 473 = .ok (.iconst 0, 1) := by decide +kernel
theorem dL_surveys_474 : decode cL_surveys 474 = .ok (.invokestatic 162, 3) := by decide +kernel
theorem dL_surveys_477 : decode cL_surveys 477 = .ok (.invokestatic 212, 3) := by decide +kernel
theorem dL_surveys_480 : decode cL_surveys 480 = .ok (.ifCond .ne 63, 3) := by decide +kernel
theorem dL_surveys_483 : decode cL_surveys 483 = .ok (.aload_n 1, 1) := by decide +kernel
theorem dL_surveys_484 : decode cL_surveys 484 = .ok (.bipush 13, 2) := by decide +kernel
theorem dL_surveys_486 : decode cL_surveys 486 = .ok (.iconst 0, 1) := by decide +kernel
theorem dL_surveys_487 : decode cL_surveys 487 = .ok (.iconst 0, 1) := by decide +kernel
theorem dL_surveys_488 : decode cL_surveys 488 = .ok (.iconst 0, 1) := by decide +kernel
theorem dL_surveys_489 : decode cL_surveys 489 = .ok (.invokestatic 162, 3) := by decide +kernel
theorem dL_surveys_492 : decode cL_surveys 492 = .ok (.invokestatic 212, 3) := by decide +kernel
theorem dL_surveys_495 : decode cL_surveys 495 = .ok (.ifCond .ne 48, 3) := by decide +kernel
theorem dL_surveys_498 : decode cL_surveys 498 = .ok (.aload_n 0, 1) := by decide +kernel
theorem dL_surveys_499 : decode cL_surveys 499 = .ok (.iconst 5, 1) := by decide +kernel
theorem dL_surveys_500 : decode cL_surveys 500 = .ok (.iload 9, 2) := by decide +kernel
theorem dL_surveys_502 : decode cL_surveys 502 = .ok (.iconst 0, 1) := by decide +kernel
theorem dL_surveys_503 : decode cL_surveys 503 = .ok (.iconst 0, 1) := by decide +kernel
theorem dL_surveys_504 : decode cL_surveys 504 = .ok (.invokestatic 162, 3) := by decide +kernel
theorem dL_surveys_507 : decode cL_surveys 507 = .ok (.iload 11, 2) := by decide +kernel
theorem dL_surveys_509 : decode cL_surveys 509 = .ok (.if_icmp .ne 34, 3) := by decide +kernel
theorem dL_surveys_512 : decode cL_surveys 512 = .ok (.aload_n 0, 1) := by decide +kernel
theorem dL_surveys_513 : decode cL_surveys 513 = .ok (.iconst 5, 1) := by decide +kernel
theorem dL_surveys_514 : decode cL_surveys 514 = .ok (.iload 9, 2) := by decide +kernel
theorem dL_surveys_516 : decode cL_surveys 516 = .ok (.iconst 1, 1) := by decide +kernel
theorem dL_surveys_517 : decode cL_surveys 517 = .ok (.iconst 0, 1) := by decide +kernel
theorem dL_surveys_518 : decode cL_surveys 518 = .ok (.invokestatic 162, 3) := by decide +kernel
theorem dL_surveys_521 : decode cL_surveys 521 = .ok (.iload 15, 2) := by decide +kernel
theorem dL_surveys_523 : decode cL_surveys 523 = .ok (.if_icmp .ne 20, 3) := by decide +kernel
theorem dL_surveys_526 : decode cL_surveys 526 = .ok (.aload_n 0, 1) := by decide +kernel
theorem dL_surveys_527 : decode cL_surveys 527 = .ok (.iconst 2, 1) := by decide +kernel
theorem dL_surveys_528 : decode cL_surveys 528 = .ok (.bipush 6, 2) := by decide +kernel
theorem dL_surveys_530 : decode cL_surveys 530 = .ok (.iconst 0, 1) := by decide +kernel
theorem dL_surveys_531 : decode cL_surveys 531 = .ok (.iconst 0, 1) := by decide +kernel
theorem dL_surveys_532 : decode cL_surveys 532 = .ok (.invokestatic 162, 3) := by decide +kernel
theorem dL_surveys_535 : decode cL_surveys 535 = .ok (.iload_n 3, 1) := by decide +kernel
theorem dL_surveys_536 : decode cL_surveys 536 = .ok (.if_icmp .ne 7, 3) := by decide +kernel
theorem dL_surveys_539 : decode cL_surveys 539 = .ok (.iconst 1, 1) := by decide +kernel
theorem dL_surveys_540 : decode cL_surveys 540 = .ok (.goto 4, 3) := by decide +kernel
theorem dL_surveys_543 : decode cL_surveys 543 = .ok (.iconst 0, 1) := by decide +kernel
theorem dL_surveys_544 : decode cL_surveys 544 = .ok (.ireturn, 1) := by decide +kernel
theorem dL_drops_0 : decode cL_drops 0 = .ok (.aload_n 0, 1) := by decide +kernel
theorem dL_drops_1 : decode cL_drops 1 = .ok (.iconst 2, 1) := by decide +kernel
theorem dL_drops_2 : decode cL_drops 2 = .ok (.iconst 0, 1) := by decide +kernel
theorem dL_drops_3 : decode cL_drops 3 = .ok (.iconst 0, 1) := by decide +kernel
theorem dL_drops_4 : decode cL_drops 4 = .ok (.iconst 0, 1) := by decide +kernel
theorem dL_drops_5 : decode cL_drops 5 = .ok (.invokestatic 162, 3) := by decide +kernel
theorem dL_drops_8 : decode cL_drops 8 = .ok (.istore_n 3, 1) := by decide +kernel
theorem dL_drops_9 : decode cL_drops 9 = .ok (.iload_n 3, 1) := by decide +kernel
theorem dL_drops_10 : decode cL_drops 10 = .ok (.ifCond .ne 5, 3) := by decide +kernel
theorem dL_drops_13 : decode cL_drops 13 = .ok (.iconst 1, 1) := by decide +kernel
theorem dL_drops_14 : decode cL_drops 14 = .ok (.ireturn, 1) := by decide +kernel
theorem dL_drops_15 : decode cL_drops 15 = .ok (.iload_n 2, 1) := by decide +kernel
theorem dL_drops_16 : decode cL_drops 16 = .ok (.iload_n 3, 1) := by decide +kernel
theorem dL_drops_17 : decode cL_drops 17 = .ok (.irem, 1) := by decide +kernel
theorem dL_drops_18 : decode cL_drops 18 = .ok (.istore 4, 2) := by decide +kernel
theorem dL_drops_20 : decode cL_drops 20 = .ok (.aload_n 0, 1) := by decide +kernel
theorem dL_drops_21 : decode cL_drops 21 = .ok (.iconst 3, 1) := by decide +kernel
theorem dL_drops_22 : decode cL_drops 22 = .ok (.iload 4, 2) := by decide +kernel
theorem dL_drops_24 : decode cL_drops 24 = .ok (.iconst 0, 1) := by decide +kernel
theorem dL_drops_25 : decode cL_drops 25 = .ok (.iconst 0, 1) := by decide +kernel
theorem dL_drops_26 : decode cL_drops 26 = .ok (.invokestatic 162, 3) := by decide +kernel
theorem dL_drops_29 : decode cL_drops 29 = .ok (.istore 5, 2) := by decide +kernel
theorem dL_drops_31 : decode cL_drops 31 = .ok (.aload_n 0, 1) := by decide +kernel
theorem dL_drops_32 : decode cL_drops 32 = .ok (.iconst 3, 1) := by decide +kernel
theorem dL_drops_33 : decode cL_drops 33 = .ok (.iload 4, 2) := by decide +kernel
theorem dL_drops_35 : decode cL_drops 35 = .ok (.iconst 1, 1) := by decide +kernel
theorem dL_drops_36 : decode cL_drops 36 = .ok (.iconst 0, 1) := by decide +kernel
theorem dL_drops_37 : decode cL_drops 37 = .ok (.invokestatic 162, 3) := by decide +kernel
theorem dL_drops_40 : decode cL_drops 40 = .ok (.istore 6, 2) := by decide +kernel
theorem dL_drops_42 : decode cL_drops 42 = .ok (.aload_n 0, 1) := by decide +kernel
theorem dL_drops_43 : decode cL_drops 43 = .ok (.bipush 16, 2) := by decide +kernel
theorem dL_drops_45 : decode cL_drops 45 = .ok (.iload 4, 2) := by decide +kernel
theorem dL_drops_47 : decode cL_drops 47 = .ok (.iconst 0, 1) := by decide +kernel
theorem dL_drops_48 : decode cL_drops 48 = .ok (.iconst 0, 1) := by decide +kernel
theorem dL_drops_49 : decode cL_drops 49 = .ok (.invokestatic 162, 3) := by decide +kernel
theorem dL_drops_52 : decode cL_drops 52 = .ok (.istore 7, 2) := by decide +kernel
theorem dL_drops_54 : decode cL_drops 54 = .ok (.aload_n 0, 1) := by decide +kernel
theorem dL_drops_55 : decode cL_drops 55 = .ok (.bipush 16, 2) := by decide +kernel
theorem dL_drops_57 : decode cL_drops 57 = .ok (.iload 4, 2) := by decide +kernel
theorem dL_drops_59 : decode cL_drops 59 = .ok (.iconst 1, 1) := by decide +kernel
theorem dL_drops_60 : decode cL_drops 60 = .ok (.iconst 0, 1) := by decide +kernel
theorem dL_drops_61 : decode cL_drops 61 = .ok (.invokestatic 162, 3) := by decide +kernel
theorem dL_drops_64 : decode cL_drops 64 = .ok (.istore 8, 2) := by decide +kernel
theorem dL_drops_66 : decode cL_drops 66 = .ok (.aload_n 0, 1) := by decide +kernel
theorem dL_drops_67 : decode cL_drops 67 = .ok (.bipush 16, 2) := by decide +kernel
theorem dL_drops_69 : decode cL_drops 69 = .ok (.iload 4, 2) := by decide +kernel
theorem dL_drops_71 : decode cL_drops 71 = .ok (.iconst 2, 1) := by decide +kernel
theorem dL_drops_72 : decode cL_drops 72 = .ok (.iconst 0, 1) := by decide +kernel
theorem dL_drops_73 : decode cL_drops 73 = .ok (.invokestatic 162, 3) := by decide +kernel
theorem dL_drops_76 : decode cL_drops 76 = .ok (.istore 9, 2) := by decide +kernel
theorem dL_drops_78 : decode cL_drops 78 = .ok (.aload_n 0, 1) := by decide +kernel
theorem dL_drops_79 : decode cL_drops 79 = .ok (.iconst 3, 1) := by decide +kernel
theorem dL_drops_80 : decode cL_drops 80 = .ok (.iload 4, 2) := by decide +kernel
theorem dL_drops_82 : decode cL_drops 82 = .ok (.bipush 9, 2) := by decide +kernel
theorem dL_drops_84 : decode cL_drops 84 = .ok (.iconst 0, 1) := by decide +kernel
theorem dL_drops_85 : decode cL_drops 85 = .ok (.invokestatic 162, 3) := by decide +kernel
theorem dL_drops_88 : decode cL_drops 88 = .ok (.istore 10, 2) := by decide +kernel
theorem dL_drops_90 : decode cL_drops 90 = .ok (.aload_n 0, 1) := by decide +kernel
theorem dL_drops_91 : decode cL_drops 91 = .ok (.bipush 7, 2) := by decide +kernel
theorem dL_drops_93 : decode cL_drops 93 = .ok (.iload 5, 2) := by decide +kernel
theorem dL_drops_95 : decode cL_drops 95 = .ok (.iconst 2, 1) := by decide +kernel
theorem dL_drops_96 : decode cL_drops 96 = .ok (.iconst 1, 1) := by decide +kernel
theorem dL_drops_97 : decode cL_drops 97 = .ok (.invokestatic 162, 3) := by decide +kernel
theorem dL_drops_100 : decode cL_drops 100 = .ok (.istore 11, 2) := by decide +kernel
theorem dL_drops_102 : decode cL_drops 102 = .ok (.iload 9, 2) := by decide +kernel
theorem dL_drops_104 : decode cL_drops 104 = .ok (.iload 11, 2) := by decide +kernel
theorem dL_drops_106 : decode cL_drops 106 = .ok (.if_icmp .gt 145, 3) := by decide +kernel
theorem dL_drops_109 : decode cL_drops 109 = .ok (.iload 11, 2) := by decide +kernel
theorem dL_drops_111 : decode cL_drops 111 = .ok (.iload 9, 2) := by decide +kernel
theorem dL_drops_113 : decode cL_drops 113 = .ok (.iload 10, 2) := by decide +kernel
theorem dL_drops_115 : decode cL_drops 115 = .ok (.iadd, 1) := by decide +kernel
theorem dL_drops_116 : decode cL_drops 116 = .ok (.if_icmp .gt 135, 3) := by decide +kernel
theorem dL_drops_119 : decode cL_drops 119 = .ok (.aload_n 0, 1) := by decide +kernel
theorem dL_drops_120 : decode cL_drops 120 = .ok (.bipush 9, 2) := by decide +kernel
theorem dL_drops_122 : decode cL_drops 122 = .ok (.iload 4, 2) := by decide +kernel
theorem dL_drops_124 : decode cL_drops 124 = .ok (.iconst 0, 1) := by decide +kernel
theorem dL_drops_125 : decode cL_drops 125 = .ok (.iconst 0, 1) := by decide +kernel
theorem dL_drops_126 : decode cL_drops 126 = .ok (.invokestatic 162, 3) := by decide +kernel
theorem dL_drops_129 : decode cL_drops 129 = .ok (.iload_n 3, 1) := by decide +kernel
theorem dL_drops_130 : decode cL_drops 130 = .ok (.iconst 1, 1) := by decide +kernel
theorem dL_drops_131 : decode cL_drops 131 = .ok (.isub, 1) := by decide +kernel
theorem dL_drops_132 : decode cL_drops 132 = .ok (.if_icmp .ne 119, 3) := by decide +kernel
theorem dL_drops_135 : decode cL_drops 135 = .ok (.aload_n 1, 1) := by decide +kernel
theorem dL_drops_136 : decode cL_drops 136 = .ok (.bipush 9, 2) := by decide +kernel
theorem dL_drops_138 : decode cL_drops 138 = .ok (.iload 4, 2) := by decide +kernel
theorem dL_drops_140 : decode cL_drops 140 = .ok (.iconst 0, 1) := by decide +kernel
theorem dL_drops_141 : decode cL_drops 141 = .ok (.iconst 0, 1) := by decide +kernel
theorem dL_drops_142 : decode cL_drops 142 = .ok (.invokestatic 162, 3) := by decide +kernel
theorem dL_drops_145 : decode cL_drops 145 = .ok (.iload_n 3, 1) := by decide +kernel
theorem dL_drops_146 : decode cL_drops 146 = .ok (.iconst 1, 1) := by decide +kernel
theorem dL_drops_147 : decode cL_drops 147 = .ok (.isub, 1) := by decide +kernel
theorem dL_drops_148 : decode cL_drops 148 = .ok (.if_icmp .ne 103, 3) := by decide +kernel
theorem dL_drops_151 : decode cL_drops 151 = .ok (.aload_n 0, 1) := by decide +kernel
theorem dL_drops_152 : decode cL_drops 152 = .ok (.bipush 7, 2) := by decide +kernel
theorem dL_drops_154 : decode cL_drops 154 = .ok (.iload 5, 2) := by decide +kernel
theorem dL_drops_156 : decode cL_drops 156 = .ok (.iconst 0, 1) := by decide +kernel
theorem dL_drops_157 : decode cL_drops 157 = .ok (.iload_n 2, 1) := by decide +kernel
theorem dL_drops_158 : decode cL_drops 158 = .ok (.iconst 2, 1) := by decide +kernel
theorem dL_drops_159 : decode cL_drops 159 = .ok (.irem, 1) := by decide +kernel
theorem dL_drops_160 : decode cL_drops 160 = .ok (.invokestatic 162, 3) := by decide +kernel
theorem dL_drops_163 : decode cL_drops 163 = .ok (.iload 7, 2) := by decide +kernel
theorem dL_drops_165 : decode cL_drops 165 = .ok (.if_icmp .ne 86, 3) := by decide +kernel
theorem dL_drops_168 : decode cL_drops 168 = .ok (.aload_n 0, 1) := by decide +kernel
theorem dL_drops_169 : decode cL_drops 169 = .ok (.bipush 7, 2) := by decide +kernel
theorem dL_drops_171 : decode cL_drops 171 = .ok (.iload 5, 2) := by decide +kernel
theorem dL_drops_173 : decode cL_drops 173 = .ok (.iconst 1, 1) := by decide +kernel
theorem dL_drops_174 : decode cL_drops 174 = .ok (.iload_n 2, 1) := by decide +kernel
theorem dL_drops_175 : decode cL_drops 175 = .ok (.iconst 2, 1) := by decide +kernel
theorem dL_drops_176 : decode cL_drops 176 = .ok (.irem, 1) := by decide +kernel
theorem dL_drops_177 : decode cL_drops 177 = .ok (.invokestatic 162, 3) := by decide +kernel
theorem dL_drops_180 : decode cL_drops 180 = .ok (.iload 8, 2) := by decide +kernel
theorem dL_drops_182 : decode cL_drops 182 = .ok (.if_icmp .ne 69, 3) := by decide +kernel
theorem dL_drops_185 : decode cL_drops 185 = .ok (.aload_n 0, 1) := by decide +kernel
theorem dL_drops_186 : decode cL_drops 186 = .ok (.bipush 7, 2) := by decide +kernel
theorem dL_drops_188 : decode cL_drops 188 = .ok (.iload 5, 2) := by decide +kernel
theorem dL_drops_190 : decode cL_drops 190 = .ok (.iconst 2, 1) := by decide +kernel
theorem dL_drops_191 : decode cL_drops 191 = .ok (.iload_n 2, 1) := by decide +kernel
theorem dL_drops_192 : decode cL_drops 192 = .ok (.iconst 2, 1) := by decide +kernel
theorem dL_drops_193 : decode cL_drops 193 = .ok (.irem, 1) := by decide +kernel
theorem dL_drops_194 : decode cL_drops 194 = .ok (.invokestatic 162, 3) := by decide +kernel
theorem dL_drops_197 : decode cL_drops 197 = .ok (.iload 9, 2) := by decide +kernel
theorem dL_drops_199 : decode cL_drops 199 = .ok (.if_icmp .ne 52, 3) := by decide +kernel
theorem dL_drops_202 : decode cL_drops 202 = .ok (.aload_n 0, 1) := by decide +kernel
theorem dL_drops_203 : decode cL_drops 203 = .ok (.bipush 13, 2) := by decide +kernel
theorem dL_drops_205 : decode cL_drops 205 = .ok (.iconst 0, 1) := by decide +kernel
theorem dL_drops_206 : decode cL_drops 206 = .ok (.iconst 0, 1) := by decide +kernel
theorem dL_drops_207 : decode cL_drops 207 = .ok (.iconst 0, 1) := by decide +kernel
theorem dL_drops_208 : decode cL_drops 208 = .ok (.invokestatic 162, 3) := by decide +kernel
theorem dL_drops_211 : decode cL_drops 211 = .ok (.invokestatic 212, 3) := by decide +kernel
theorem dL_drops_214 : decode cL_drops 214 = .ok (.ifCond .ne 37, 3) := by decide +kernel
theorem dL_drops_217 : decode cL_drops 217 = .ok (.aload_n 1, 1) := by decide +kernel
theorem dL_drops_218 : decode cL_drops 218 = .ok (.bipush 13, 2) := by decide +kernel
theorem dL_drops_220 : decode cL_drops 220 = .ok (.iconst 0, 1) := by decide +kernel
theorem dL_drops_221 : decode cL_drops 221 = .ok (.iconst 0, 1) := by decide +kernel
theorem dL_drops_222 : decode cL_drops 222 = .ok (.iconst 0, 1) := by decide +kernel
theorem dL_drops_223 : decode cL_drops 223 = .ok (.invokestatic 162, 3) := by decide +kernel
theorem dL_drops_226 : decode cL_drops 226 = .ok (.invokestatic 212, 3) := by decide +kernel
theorem dL_drops_229 : decode cL_drops 229 = .ok (.ifCond .ne 22, 3) := by decide +kernel
theorem dL_drops_232 : decode cL_drops 232 = .ok (.aload_n 0, 1) := by decide +kernel
theorem dL_drops_233 : decode cL_drops 233 = .ok (.iconst 3, 1) := by decide +kernel
theorem dL_drops_234 : decode cL_drops 234 = .ok (.iload 4, 2) := by decide +kernel
theorem dL_drops_236 : decode cL_drops 236 = .ok (.bipush 9, 2) := by decide +kernel
theorem dL_drops_238 : decode cL_drops 238 = .ok (.iconst 0, 1) := by decide +kernel
theorem dL_drops_239 : decode cL_drops 239 = .ok (.invokestatic 162, 3) := by decide +kernel
theorem dL_drops_242 : decode cL_drops 242 = .ok (.iload 10, 2) := by decide +kernel
theorem dL_drops_244 : decode cL_drops 244 = .ok (.if_icmp .ne 7, 3) := by decide +kernel
theorem dL_drops_247 : decode cL_drops 247 = .ok (.iconst 1, 1) := by decide +kernel
theorem dL_drops_248 : decode cL_drops 248 = .ok (.goto 4, 3) := by decide +kernel
theorem dL_drops_251 : decode cL_drops 251 = .ok (.iconst 0, 1) := by decide +kernel
theorem dL_drops_252 : decode cL_drops 252 = .ok (.istore 12, 2) := by decide +kernel
theorem dL_drops_254 : decode cL_drops 254 = .ok (.aload_n 0, 1) := by decide +kernel
theorem dL_drops_255 : decode cL_drops 255 = .ok (.bipush 17, 2) := by decide +kernel
theorem dL_drops_257 : decode cL_drops 257 = .ok (.iload 6, 2) := by decide +kernel
theorem dL_drops_259 : decode cL_drops 259 = .ok (.iload 5, 2) := by decide +kernel
theorem dL_drops_261 : decode cL_drops 261 = .ok (.iconst 0, 1) := by decide +kernel
theorem dL_drops_262 : decode cL_drops 262 = .ok (.invokestatic 162, 3) := by decide +kernel
theorem dL_drops_265 : decode cL_drops 265 = .ok (.istore 13, 2) := by decide +kernel
theorem dL_drops_267 : decode cL_drops 267 = .ok (.aload_n 0, 1) := by decide +kernel
theorem dL_drops_268 : decode cL_drops 268 = .ok (.iconst 4, 1) := by decide +kernel
theorem dL_drops_269 : decode cL_drops 269 = .ok (.iload 6, 2) := by decide +kernel
theorem dL_drops_271 : decode cL_drops 271 = .ok (.iconst 0, 1) := by decide +kernel
theorem dL_drops_272 : decode cL_drops 272 = .ok (.iconst 0, 1) := by decide +kernel
theorem dL_drops_273 : decode cL_drops 273 = .ok (.invokestatic 162, 3) := by decide +kernel
theorem dL_drops_276 : decode cL_drops 276 = .ok (.istore 14, 2) := by decide +kernel
theorem dL_drops_278 : decode cL_drops 278 = .ok (.iload 13, 2) := by decide +kernel
theorem dL_drops_280 : decode cL_drops 280 = .ok (.iconst (-1), 1) := by decide +kernel
theorem dL_drops_281 : decode cL_drops 281 = .ok (.if_icmp .ne 13, 3) := by decide +kernel
theorem dL_drops_284 : decode cL_drops 284 = .ok (.iload_n 2, 1) := by decide +kernel
theorem dL_drops_285 : decode cL_drops 285 = .ok (.bipush 16, 2) := by decide +kernel
theorem dL_drops_287 : decode cL_drops 287 = .ok (.idiv, 1) := by decide +kernel
theorem dL_drops_288 : decode cL_drops 288 = .ok (.bipush 10, 2) := by decide +kernel
theorem dL_drops_290 : decode cL_drops 290 = .ok (.irem, 1) := by decide +kernel
theorem dL_drops_291 : decode cL_drops 291 = .ok (.goto 26, 3) := by decide +kernel
theorem dL_drops_294 : decode cL_drops 294 = .ok (.iload_n 2, 1) := by decide +kernel
theorem dL_drops_295 : decode cL_drops 295 = .ok (.bipush 16, 2) := by decide +kernel
theorem dL_drops_297 : decode cL_drops 297 = .ok (.idiv, 1) := by decide +kernel
theorem dL_drops_298 : decode cL_drops 298 = .ok (.iconst 2, 1) := by decide +kernel
theorem dL_drops_299 : decode cL_drops 299 = .ok (.irem, 1) := by decide +kernel
theorem dL_drops_300 : decode cL_drops 300 = .ok (.ifCond .ne 8, 3) := by decide +kernel
theorem dL_drops_303 : decode cL_drops 303 = .ok (.iload 13, 2) := by decide +kernel
theorem dL_drops_305 : decode cL_drops 305 = .ok (.goto 12, 3) := by decide +kernel
theorem dL_drops_308 : decode cL_drops 308 = .ok (.iload_n 2, 1) := by decide +kernel
theorem dL_drops_309 : decode cL_drops 309 = .ok (.bipush 32, 2) := by decide +kernel
theorem dL_drops_311 : decode cL_drops 311 = .ok (.idiv, 1) := by decide +kernel
theorem dL_drops_312 : decode cL_drops 312 = .ok (.iload 13, 2) := by decide +kernel
theorem dL_drops_314 : decode cL_drops 314 = .ok (.iconst 1, 1) := by decide +kernel
theorem dL_drops_315 : decode cL_drops 315 = .ok (.iadd, 1) := by decide +kernel
theorem dL_drops_316 : decode cL_drops 316 = .ok (.irem, 1) := by decide +kernel
theorem dL_drops_317 : decode cL_drops 317 = .ok (.istore 15, 2) := by decide +kernel
theorem dL_drops_319 : decode cL_drops 319 = .ok (.iload 12, 2) := by decide +kernel
theorem dL_drops_321 : decode cL_drops 321 = .ok (.ifCond .eq 39, 3) := by decide +kernel
theorem dL_drops_324 : decode cL_drops 324 = .ok (.aload_n 0, 1) := by decide +kernel
theorem dL_drops_325 : decode cL_drops 325 = .ok (.bipush 10, 2) := by decide +kernel
theorem dL_drops_327 : decode cL_drops 327 = .ok (.iload 6, 2) := by decide +kernel
theorem dL_drops_329 : decode cL_drops 329 = .ok (.iload 15, 2) := by decide +kernel
theorem dL_drops_331 : decode cL_drops 331 = .ok (.iconst 0, 1) := by decide +kernel
theorem dL_drops_332 : decode cL_drops 332 = .ok (.invokestatic 162, 3) := by decide +kernel
theorem dL_drops_335 : decode cL_drops 335 = .ok (.iload 14, 2) := by decide +kernel
theorem dL_drops_337 : decode cL_drops 337 = .ok (.if_icmp .ne 23, 3) := by decide +kernel
theorem dL_drops_340 : decode cL_drops 340 = .ok (.aload_n 1, 1) := by decide +kernel
theorem dL_drops_341 : decode cL_drops 341 = .ok (.bipush 10, 2) := by decide +kernel
theorem dL_drops_343 : decode cL_drops 343 = .ok (.iload 6, 2) := by decide +kernel
theorem dL_drops_345 : decode cL_drops 345 = .ok (.iload 15, 2) := by decide +kernel
theorem dL_drops_347 : decode cL_drops 347 = .ok (.iconst 0, 1) := by decide +kernel
theorem dL_drops_348 : decode cL_drops 348 = .ok (.invokestatic 162, 3) := by decide +kernel
theorem dL_drops_351 : decode cL_drops 351 = .ok (.iload 14, 2) := by decide +kernel
theorem dL_drops_353 : decode cL_drops 353 = .ok (.if_icmp .ne 7, 3) := by decide +kernel
theorem dL_drops_356 : decode cL_drops 356 = .ok (.iconst 1, 1) := by decide +kernel
theorem dL_drops_357 : decode cL_drops 357 = .ok (.goto 4, 3) := by decide +kernel
theorem dL_drops_360 : decode cL_drops 360 = .ok (.iconst 0, 1) := by decide +kernel
theorem dL_drops_361 : decode cL_drops 361 = .ok (.istore 12, 2) := by decide +kernel
theorem dL_drops_363 : decode cL_drops 363 = .ok (.aload_n 0, 1) := by decide +kernel
theorem dL_drops_364 : decode cL_drops 364 = .ok (.bipush 7, 2) := by decide +kernel
theorem dL_drops_366 : decode cL_drops 366 = .ok (.iload 5, 2) := by decide +kernel
theorem dL_drops_368 : decode cL_drops 368 = .ok (.iconst 0, 1) := by decide +kernel
theorem dL_drops_369 : decode cL_drops 369 = .ok (.iconst 1, 1) := by decide +kernel
theorem dL_drops_370 : decode cL_drops 370 = .ok (.invokestatic 162, 3) := by decide +kernel
theorem dL_drops_373 : decode cL_drops 373 = .ok (.istore 16, 2) := by decide +kernel
theorem dL_drops_375 : decode cL_drops 375 = .ok (.iconst 0, 1) := by decide +kernel
theorem dL_drops_376 : decode cL_drops 376 = .ok (.istore 17, 2) := by decide +kernel
theorem dL_drops_378 : decode cL_drops 378 = .ok (.iconst 0, 1) := by decide +kernel
theorem dL_drops_379 : decode cL_drops 379 = .ok (.istore 18, 2) := by decide +kernel
theorem dL_drops_381 : decode cL_drops 381 = .ok (.iload 18, 2) := by decide +kernel
theorem dL_drops_383 : decode cL_drops 383 = .ok (.iload_n 3, 1) := by decide +kernel
theorem dL_drops_384 : decode cL_drops 384 = .ok (.if_icmp .ge 84, 3) := by decide +kernel
theorem dL_drops_387 : decode cL_drops 387 = .ok (.iload 12, 2) := by decide +kernel
theorem dL_drops_389 : decode cL_drops 389 = .ok (.ifCond .eq 79, 3) := by decide +kernel
theorem dL_drops_392 : decode cL_drops 392 = .ok (.iload 17, 2) := by decide +kernel
theorem dL_drops_394 : decode cL_drops 394 = .ok (.ifCond .ne 61, 3) := by decide +kernel
theorem dL_drops_397 : decode cL_drops 397 = .ok (.aload_n 0, 1) := by decide +kernel
theorem dL_drops_398 : decode cL_drops 398 = .ok (.iconst 3, 1) := by decide +kernel
theorem dL_drops_399 : decode cL_drops 399 = .ok (.iload 18, 2) := by decide +kernel
theorem dL_drops_401 : decode cL_drops 401 = .ok (.iconst 0, 1) := by decide +kernel
theorem dL_drops_402 : decode cL_drops 402 = .ok (.iconst 0, 1) := by decide +kernel
theorem dL_drops_403 : decode cL_drops 403 = .ok (.invokestatic 162, 3) := by decide +kernel
theorem dL_drops_406 : decode cL_drops 406 = .ok (.iload 5, 2) := by decide +kernel
theorem dL_drops_408 : decode cL_drops 408 = .ok (.if_icmp .ne 51, 3) := by decide +kernel
theorem dL_drops_411 : decode cL_drops 411 = .ok (.aload_n 0, 1) := by decide +kernel
theorem dL_drops_412 : decode cL_drops 412 = .ok (.iconst 3, 1) := by decide +kernel
theorem dL_drops_413 : decode cL_drops 413 = .ok (.iload 18, 2) := by decide +kernel
theorem dL_drops_415 : decode cL_drops 415 = .ok (.iconst 1, 1) := by decide +kernel
theorem dL_drops_416 : decode cL_drops 416 = .ok (.iconst 0, 1) := by decide +kernel
theorem dL_drops_417 : decode cL_drops 417 = .ok (.invokestatic 162, 3) := by decide +kernel
theorem dL_drops_420 : decode cL_drops 420 = .ok (.iload 6, 2) := by decide +kernel
theorem dL_drops_422 : decode cL_drops 422 = .ok (.if_icmp .ne 37, 3) := by decide +kernel
theorem dL_drops_425 : decode cL_drops 425 = .ok (.aload_n 0, 1) := by decide +kernel
theorem dL_drops_426 : decode cL_drops 426 = .ok (.iconst 3, 1) := by decide +kernel
theorem dL_drops_427 : decode cL_drops 427 = .ok (.iload 18, 2) := by decide +kernel
theorem dL_drops_429 : decode cL_drops 429 = .ok (.bipush 7, 2) := by decide +kernel
theorem dL_drops_431 : decode cL_drops 431 = .ok (.iconst 0, 1) := by decide +kernel
theorem dL_drops_432 : decode cL_drops 432 = .ok (.invokestatic 162, 3) := by decide +kernel
theorem dL_drops_435 : decode cL_drops 435 = .ok (.iload 16, 2) := by decide +kernel
theorem dL_drops_437 : decode cL_drops 437 = .ok (.if_icmp .gt 22, 3) := by decide +kernel
theorem dL_drops_440 : decode cL_drops 440 = .ok (.iload 16, 2) := by decide +kernel
theorem dL_drops_442 : decode cL_drops 442 = .ok (.aload_n 0, 1) := by decide +kernel
theorem dL_drops_443 : decode cL_drops 443 = .ok (.iconst 3, 1) := by decide +kernel
theorem dL_drops_444 : decode cL_drops 444 = .ok (.iload 18, 2) := by decide +kernel
theorem dL_drops_446 : decode cL_drops 446 = .ok (.bipush 8, 2) := by decide +kernel
theorem dL_drops_448 : decode cL_drops 448 = .ok (.iconst 0, 1) := by decide +kernel
theorem dL_drops_449 : decode cL_drops 449 = .ok (.invokestatic 162, 3) := by decide +kernel
theorem dL_drops_452 : decode cL_drops 452 = .ok (.if_icmp .gt 7, 3) := by decide +kernel
theorem dL_drops_455 : decode cL_drops 455 = .ok (.iconst 1, 1) := by decide +kernel
theorem dL_drops_456 : decode cL_drops 456 = .ok (.goto 4, 3) := by decide +kernel
theorem dL_drops_459 : decode cL_drops 459 = .ok (.iconst 0, 1) := by decide +kernel
theorem dL_drops_460 : decode cL_drops 460 = .ok (.istore 17, 2) := by decide +kernel
theorem dL_drops_462 : decode cL_drops 462 = .ok (.iinc 18 1, 3) := by decide +kernel
theorem dL_drops_465 : decode cL_drops 465 = .ok (.goto (-84), 3) := by decide +kernel
theorem dL_drops_468 : decode cL_drops 468 = .ok (.iload 12, 2) := by decide +kernel
theorem dL_drops_470 : decode cL_drops 470 = .ok (.ifCond .eq 74, 3) := by decide +kernel
theorem dL_drops_473 : decode cL_drops 473 = .ok (.iload 17, 2) := by decide +kernel
theorem dL_drops_475 : decode cL_drops 475 = .ok (.iload 13, 2) := by decide +kernel
theorem dL_drops_477 : decode cL_drops 477 = .ok (.iconst (-1), 1) := by decide +kernel
theorem dL_drops_478 : decode cL_drops 478 = .ok (.if_icmp .eq 14, 3) := by decide +kernel
theorem dL_drops_481 : decode cL_drops 481 = .ok (.iload 15, 2) := by decide +kernel
theorem dL_drops_483 : decode cL_drops 483 = .ok (.iload 13, 2) := by decide +kernel
theorem dL_drops_485 : decode cL_drops 485 = .ok (.if_icmp .ne 7, 3) := by decide +kernel
theorem dL_drops_488 : decode cL_drops 488 = .ok (.iconst 1, 1) := by decide +kernel
theorem dL_drops_489 : decode cL_drops 489 = .ok (.goto 4, 3) := by decide +kernel
theorem dL_drops_492 : decode cL_drops 492 = .ok (.iconst 0, 1) := by decide +kernel
theorem dL_drops_493 : decode cL_drops 493 = .ok (.if_icmp .ne 51, 3) := by decide +kernel
theorem dL_drops_496 : decode cL_drops 496 = .ok (.aload_n 0, 1) := by decide +kernel
theorem dL_drops_497 : decode cL_drops 497 = .ok (.bipush 13, 2) := by decide +kernel
theorem dL_drops_499 : decode cL_drops 499 = .ok (.iconst 0, 1) := by decide +kernel
theorem dL_drops_500 : decode cL_drops 500 = .ok (.iconst 0, 1) := by decide +kernel
theorem dL_drops_501 : decode cL_drops 501 = .ok (.iconst 0, 1) := by decide +kernel
theorem dL_drops_502 : decode cL_drops 502 = .ok (.invokestatic 162, 3) := by decide +kernel
theorem dL_drops_505 : decode cL_drops 505 = .ok (.invokestatic 212, 3) := by decide +kernel
theorem dL_drops_508 : decode cL_drops 508 = .ok (.ifCond .ne 36, 3) := by decide +kernel
theorem dL_drops_511 : decode cL_drops 511 = .ok (.aload_n 1, 1) := by decide +kernel
theorem dL_drops_512 : decode cL_drops 512 = .ok (.bipush 13, 2) := by decide +kernel
theorem dL_drops_514 : decode cL_drops 514 = .ok (.iconst 0, 1) := by decide +kernel
theorem dL_drops_515 : decode cL_drops 515 = .ok (.iconst 0, 1) := by decide +kernel
theorem dL_drops_516 : decode cL_drops 516 = .ok (.iconst 0, 1) := by decide +kernel
theorem dL_drops_517 : decode cL_drops 517 = .ok (.invokestatic 162, 3) := by decide +kernel
theorem dL_drops_520 : decode cL_drops 520 = .ok (.invokestatic 212, 3) := by decide +kernel
theorem dL_drops_523 : decode cL_drops 523 = .ok (.ifCond .ne 21, 3) := by decide +kernel
theorem dL_drops_526 : decode cL_drops 526 = .ok (.aload_n 0, 1) := by decide +kernel
theorem dL_drops_527 : decode cL_drops 527 = .ok (.iconst 4, 1) := by decide +kernel
theorem dL_drops_528 : decode cL_drops 528 = .ok (.iload 6, 2) := by decide +kernel
theorem dL_drops_530 : decode cL_drops 530 = .ok (.iconst 0, 1) := by decide +kernel
theorem dL_drops_531 : decode cL_drops 531 = .ok (.iconst 0, 1) := by decide +kernel
theorem dL_drops_532 : decode cL_drops 532 = .ok (.invokestatic 162, 3) := by decide +kernel
theorem dL_drops_535 : decode cL_drops 535 = .ok (.iload 14, 2) := by decide +kernel
theorem dL_drops_537 : decode cL_drops 537 = .ok (.if_icmp .ne 7, 3) := by decide +kernel
theorem dL_drops_540 : decode cL_drops 540 = .ok (.iconst 1, 1) := by decide +kernel
theorem dL_drops_541 : decode cL_drops 541 = .ok (.goto 4, 3) := by decide +kernel
theorem dL_drops_544 : decode cL_drops 544 = .ok (.iconst 0, 1) := by decide +kernel
theorem dL_drops_545 : decode cL_drops 545 = .ok (.ireturn, 1) := by decide +kernel
